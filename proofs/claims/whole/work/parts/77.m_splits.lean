/-! the reference: splits -/
/-- a range that is not empty has a piece -/
theorem pc_pos {T : TS} (hw : WT T) (hnc : NC T.1) {r : Nat} (hr : r < T.1.length) (hne : ¬ ra T.1 r = rb T.1 r) : 0 < fS (pcF r) (ndT T) (ndT T).length := by
  obtain ⟨op, dp, cc, a1, a2, a3, a4, a5, a6, a7, a8⟩ := ndT_NI hw hnc
  obtain ⟨b1, b2, b3⟩ := hw.1.at hr
  obtain ⟨k, k1, k2, k3⟩ := a7 r hr (by omega) (by omega)
  have one : ∀ n, k < n → 0 < fS (pcF r) (ndT T) n := by
    intro n
    induction n with
    | zero => intro h; omega
    | succ n ih =>
      intro h
      rw [fS_s]
      by_cases e : k = n
      · subst e
        have : pcF r ((ndT T).getD k nd0) = 1 := if_pos ⟨k2, k3⟩
        omega
      · have := ih (by omega)
        omega
  exact one _ k1
theorem pc_em {T : TS} (hw : WT T) (hnc : NC T.1) {r : Nat} (he : ra T.1 r = rb T.1 r) : fS (pcF r) (ndT T) (ndT T).length = 0 := by
  have : fS (pcF r) (ndT T) (ndT T).length ≤ 0 * (ndT T).length := fS_le (fun k hk => by
    obtain ⟨m1, m2⟩ := nd_em hw hnc hk
    unfold pcF
    rw [if_neg]
    · exact Nat.le_refl _
    · rintro ⟨w1, w2⟩
      have w1 : (na (ndT T) k).1 = r := w1
      rw [w1] at m2
      exact m2.mp w2 he)
  omega
theorem brk_kd (ns : List Nd) (r : Nat) (rs : List RG) (hr : r < rs.length) : ∀ K, kd (brk ns r rs K).1 r = kd rs r
  | 0 => rfl
  | K + 1 => by
    have ih := brk_kd ns r rs hr K
    obtain ⟨i1, _⟩ := brk_fl ns r rs hr K
    rw [brk_s]
    split
    · split
      · show kd (List.set _ r _) r = _
        rw [← el_1, el_set (by omega), if_pos rfl]
        exact ih
      · show kd (_ ++ [_]) r = _
        rw [← el_1, el_app (by omega)]
        exact ih
    · exact ih
theorem mSplits_ok {lay : List Nat} (hwf : wfB lay = true) (d : Nat) {μ : Mem} {m : Nat} {S : XS} (h : MAt μ m S) (v : Int32) : Rn lay (d + 7) mM_splits [rf 16 m, vi v] μ (if 0 ≤ v.toInt ∧ v.toInt < 4 then (if S.1.1.length + spU S.1 (tN v) S.1.1.length ≤ 8 then PM m (nI (spU S.1 (tN v) S.1.1.length)) (xSet S (spB (ndT S.1) S.1.1 (tN v) S.1.1.length, S.1.2)) else PM m (mI 3) (xFull S)) else PM m (mI 1) (xBad S)) := by
  refine Rn_intro ok_M_splits hwf rfl (fun G hC => g_M_splits_0 hC ?_)
  have hw := h.2.2.2.2.2.1
  have hnc := h.2.2.2.2.2.2.1
  have hn := hw.1.1
  have hL := hw.2.1
  have hB := ndT_B hw hnc
  have h83 := hB.1
  refine useV (mIsKind_ok hwf _ v μ) ?_
  rw [bI_eq0]
  refine ⟨fun q => ?_, fun q => ?_⟩
  · have q := Classical.not_not.mp q
    rw [if_pos q] at hC
    obtain ⟨k, k1, k2, k3⟩ := nat_of q.1
    have ek : tN v = k := by unfold tN; rw [k3]; rfl
    rw [ek] at hC
    rw [k3] at q
    rw [k2]
    refine useNodes hwf d h (fun μ1 h1 hN1 => ?_)
    have hu := spU_le hB k
    -- range by range
    have l94 : S.1.1.length + spU S.1 k S.1.1.length ≤ 8 → ∀ c r (μ' : Mem), r + c = S.1.1.length → MMid μ' m S → NdF μ' m (ndT S.1).length (na (ndT S.1)) → MTe μ' m (spB (ndT S.1) S.1.1 k r, S.1.2) → WR S.1.2.1 (spB (ndT S.1) S.1.1 k r) → G 94 [rf 16 m, vi (nI k), vi (nI (spU S.1 k S.1.1.length)), vi (nI S.1.1.length), vi (nI r), un, un] [] μ' := by
      intro h8 c
      rw [if_pos h8] at hC
      induction c with
      | zero =>
        intro r μ' hr hm hN hT hW
        refine g_M_splits_94 hC ?_
        rw [nx_le (by omega) (by omega)]
        have er : r = S.1.1.length := by omega
        subst er
        have hcn := spB_at hw hnc k S.1.1.length (Nat.le_refl _)
        refine ⟨fun _ => ⟨_, rfl, rfl, hm.fin hT ⟨hW, hw.2⟩ (fun p => ?_)⟩, fun z => absurd (by omega) z⟩
        rw [pop_cvr (by rw [hcn.1]; exact h8)]
        have h2 := hnc p
        rw [pop_cvr hn] at h2
        exact Nat.le_trans (hcn.2.2 p) h2
      | succ c ih =>
        intro r μ' hr hm hN hT hW
        have hrl : r < S.1.1.length := by omega
        obtain ⟨b1, b2, _⟩ := spB_at hw hnc k r (by omega)
        obtain ⟨b1', _⟩ := spB_at hw hnc k (r + 1) (by omega)
        have hmono := spU_mono S.1 k (r + 1) S.1.1.length (by omega)
        have hrU : r < (spB (ndT S.1) S.1.1 k r).length := by omega
        have ekr : kd (spB (ndT S.1) S.1.1 k r) r = kd S.1.1 r := by rw [← el_1, b2 r (Nat.le_refl _) hrl, el_1]
        have hkr := (hw.1.at hrl).1
        have hv9 : vp_in (nI r) 9 := vin (by omega) (by omega)
        refine g_M_splits_94 hC ?_
        rw [nx_le (by omega) (by omega)]
        refine ⟨fun z => absurd z (by omega), fun _ => ?_⟩
        by_cases hk : kd S.1.1 r = k
        · have es : spB (ndT S.1) S.1.1 k (r + 1) = (brk (ndT S.1) r (spB (ndT S.1) S.1.1 k r) (ndT S.1).length).1 := by rw [spB_s, if_pos hk]
          rw [es] at b1'
          generalize spB (ndT S.1) S.1.1 k r = U at hT hW b1 b2 hrU ekr es b1'
          -- node by node
          have inner : ∀ c2 K (μ2 : Mem), K + c2 = (ndT S.1).length → MMid μ2 m S → NdF μ2 m (ndT S.1).length (na (ndT S.1)) → MTe μ2 m ((brk (ndT S.1) r U K).1, S.1.2) → WR S.1.2.1 (brk (ndT S.1) r U K).1 → G 106 [rf 16 m, vi (nI k), vi (nI (spU S.1 k S.1.1.length)), vi (nI S.1.1.length), vi (nI r), vi (bI ((brk (ndT S.1) r U K).2 = true)), vi (nI K)] [] μ2 := by
            intro c2
            induction c2 with
            | zero =>
              intro K μ2 hK hm2 hN2 hT2 hW2
              refine g_M_splits_106 hC ?_
              rw [hN2.1, nx_le (by omega) (by omega), nI_add]
              have eK : K = (ndT S.1).length := by omega
              subst eK
              exact ⟨fun _ => ih (r + 1) μ2 (by omega) hm2 hN2 (by rw [es]; exact hT2) (by rw [es]; exact hW2), fun z => absurd (by omega) z⟩
            | succ c2 ih2 =>
              intro K μ2 hK hm2 hN2 hT2 hW2
              have hKl : K < (ndT S.1).length := by omega
              obtain ⟨n1, n2, n3, n4, n5⟩ := hN2.2 K hKl
              obtain ⟨f1, f2, f3, f4⟩ := brk_fl (ndT S.1) r U hrU K
              have hrK : r < (brk (ndT S.1) r U K).1.length := by omega
              have ekK := brk_kd (ndT S.1) r U hrU K
              have hmonoK := brk_mono (ndT S.1) r U (K + 1) c2
              rw [show K + 1 + c2 = (ndT S.1).length by omega] at hmonoK
              have hm0 := (brk_len (ndT S.1) r U K).2
              have hvK : vp_in (nI K) 128 := vin (by omega) (by omega)
              obtain ⟨w1, w2, w3, w4⟩ := hB.2 K hKl
              have w1 : (na (ndT S.1) K).1 < 8 := w1
              have w2 : (na (ndT S.1) K).2.1 ≤ (na (ndT S.1) K).2.2.1 := w2
              have w3 : (na (ndT S.1) K).2.2.1 ≤ S.1.2.1 := w3
              have hkin := (hT2.2.2.1 r hrK).1
              have hkin : μ2.1 (m + 2) r = nI (kd (brk (ndT S.1) r U K).1 r) := hkin
              rw [ekK, ekr] at hkin
              have ebs := brk_s (ndT S.1) r U K
              have nope : ¬ ((na (ndT S.1) K).1 = r ∧ (na (ndT S.1) K).2.1 < (na (ndT S.1) K).2.2.1) → G 106 [rf 16 m, vi (nI k), vi (nI (spU S.1 k S.1.1.length)), vi (nI S.1.1.length), vi (nI r), vi (bI ((brk (ndT S.1) r U K).2 = true)), vi (nI (K + 1))] [] μ2 := fun w => by
                rw [if_neg w] at ebs
                have := ih2 (K + 1) μ2 (by omega) hm2 hN2 (by rw [ebs]; exact hT2) (by rw [ebs]; exact hW2)
                rw [ebs] at this
                exact this
              refine g_M_splits_106 hC ?_
              rw [hN2.1, nx_le (by omega) (by omega), nx_cl (by omega), nx_cl (by omega), hkin, nx_eq (by omega) (by omega), n1, n2, n3, nx_eq (by omega) (by omega), nx_le (by omega) (by omega), bI_eq0, nI_add r 1, nI_add K 1]
              refine ⟨fun z => absurd z (by omega), fun _ => ⟨hv9, fun z => absurd hk z, fun _ => ⟨hvK, fun z => nope (fun w => z w.1), fun z => ⟨hvK, hvK, fun z2 => nope (fun w => by omega), fun z2 => ⟨fun z3 => ⟨hvK, hvK, ?_⟩, fun z3 => ⟨hvK, hv9, hvK, hv9, ?_⟩⟩⟩⟩⟩⟩
              · -- one more comes
                have hcnd : (na (ndT S.1) K).1 = r ∧ (na (ndT S.1) K).2.1 < (na (ndT S.1) K).2.2.1 := ⟨z, by omega⟩
                rw [if_pos hcnd, if_neg z3] at ebs
                have hl2 : (brk (ndT S.1) r U (K + 1)).1.length = (brk (ndT S.1) r U K).1.length + 1 := by
                  rw [ebs]
                  show (_ ++ [_]).length = _
                  rw [List.length_append]
                  rfl
                refine useN (mComes_ok hwf _ hT2 (k := k) (a := (na (ndT S.1) K).2.1) (b := (na (ndT S.1) K).2.2.1) (by show (brk (ndT S.1) r U K).1.length < 9; omega)) (fun μ3 hp => ?_)
                obtain ⟨u1, u2⟩ := hp
                have eb1 : (brk (ndT S.1) r U (K + 1)).1 = (brk (ndT S.1) r U K).1 ++ [(k, (na (ndT S.1) K).2.1, (na (ndT S.1) K).2.2.1)] := by
                  rw [ebs, ekK, ekr, hk]
                have eb2 : (brk (ndT S.1) r U (K + 1)).2 = false := by rw [ebs]
                have := ih2 (K + 1) μ3 (by omega) (hm2.fr u2 (by simp) (by simp)) (hN2.fr u2 (by simp) (by simp)) (by rw [eb1]; exact u1) (by rw [eb1]; exact WR_app hW2 (by omega) ⟨by show k < 4; omega, w2, w3⟩)
                rw [eb2, bI_f (by simp)] at this
                exact this
              · have z3 := Classical.not_not.mp z3
                have hcnd : (na (ndT S.1) K).1 = r ∧ (na (ndT S.1) K).2.1 < (na (ndT S.1) K).2.2.1 := ⟨z, by omega⟩
                rw [if_pos hcnd, if_pos z3] at ebs
                have eb1 : (brk (ndT S.1) r U (K + 1)).1 = (brk (ndT S.1) r U K).1.set r (kd (brk (ndT S.1) r U K).1 r, (na (ndT S.1) K).2.1, (na (ndT S.1) K).2.2.1) := by rw [ebs]
                have eb2 : (brk (ndT S.1) r U (K + 1)).2 = false := by rw [ebs]
                have n3' : (upI μ2 (m + 3) r (nI (na (ndT S.1) K).2.1)).1 (m + 17) K = nI (na (ndT S.1) K).2.2.1 := by rw [up_n1 (by omega)]; exact n3
                rw [n3']
                have hf3 : FM m [m + 3, m + 4] [] μ2 (upI (upI μ2 (m + 3) r (nI (na (ndT S.1) K).2.1)) (m + 4) r (nI (na (ndT S.1) K).2.2.1)) := ((FM.rf _ _ _ _).up (by simp) (by omega)).up (by simp) (by omega)
                have := ih2 (K + 1) _ (by omega) (hm2.fr hf3 (by simp) (by simp)) (hN2.fr hf3 (by simp) (by simp)) (by rw [eb1]; exact mte_set hT2 hrK) (by rw [eb1]; exact WR_set hW2 ⟨by show kd (brk (ndT S.1) r U K).1 r < 4; omega, w2, w3⟩)
                rw [eb2, bI_f (by simp)] at this
                exact this
          have := inner (ndT S.1).length 0 μ' (by omega) hm hN hT hW
          have e0 : (brk (ndT S.1) r U 0).2 = true := rfl
          rw [e0, bI_t rfl] at this
          exact this
        · have es : spB (ndT S.1) S.1.1 k (r + 1) = spB (ndT S.1) S.1.1 k r := by rw [spB_s, if_neg hk]
          have nxt := ih (r + 1) μ' (by omega) hm hN (by rw [es]; exact hT) (by rw [es]; exact hW)
          have hkin : μ'.1 (m + 2) r = nI (kd (spB (ndT S.1) S.1.1 k r) r) := (hT.2.2.1 r hrU).1
          rw [ekr] at hkin
          refine g_M_splits_106 hC ?_
          rw [hN.1, nx_le (by omega) (by omega), nx_cl (by omega), hkin, nx_eq (by omega) (by omega), nI_add r 1]
          exact ⟨fun _ => nxt, fun _ => ⟨hv9, fun _ => nxt, fun z => absurd z hk⟩⟩
    have l20 : ∀ c r, r + c = S.1.1.length → G 20 [rf 16 m, vi (nI k), vi (nI (spU S.1 k r)), vi (nI r), un, un, un] [] μ1 := by
      intro c
      induction c with
      | zero =>
        intro r hr
        refine g_M_splits_20 hC ?_
        rw [h1.1.1, nx_le (by omega) (by omega)]
        refine ⟨fun _ => ?_, fun z => absurd (by omega) z⟩
        refine g_M_splits_66 hC ?_
        have er : r = S.1.1.length := by omega
        subst er
        have hu2 := hu S.1.1.length
        rw [h1.1.1, nI_add, nx_le (by omega) (by omega)]
        refine ⟨fun z => ?_, fun z => ?_⟩
        · refine useNotes hwf _ h1 (fun μ2 t1 t2 t3 => ?_)
          rw [t1.1]
          exact l94 z S.1.1.length 0 μ2 (by omega) t2 (hN1.fr t3 (by simp) (by simp)) t1 hw.1
        · rw [if_neg z]
          exact useMFull hwf _ h1
      | succ c ih =>
        intro r hr
        have hrl : r < S.1.1.length := by omega
        have hkr := (hw.1.at hrl).1
        have hur := hu r
        have hv9 : vp_in (nI r) 9 := vin (by omega) (by omega)
        have eU : spU S.1 k (r + 1) = spU S.1 k r + (if kd S.1.1 r = k then fS (pcF r) (ndT S.1) (ndT S.1).length - 1 else 0) := rfl
        have ih := ih (r + 1) (by omega)
        rw [eU] at ih
        refine g_M_splits_20 hC ?_
        rw [h1.1.1, nx_le (by omega) (by omega), nx_cl (by omega), (h1.1.2.2.1 r hrl).1, nx_eq (by omega) (by omega), nI_add, nI_add]
        refine ⟨fun z => absurd z (by omega), fun _ => ⟨hv9, fun z => ?_, fun z => useV (mIsEmpty_T hwf _ h1.1 hw hrl) ?_⟩⟩
        · rw [if_neg z] at ih
          exact ih
        · rw [if_pos z] at ih
          rw [bI_eq0]
          refine ⟨fun z2 => ?_, fun z2 => ?_⟩
          · rw [pc_em hw hnc (Classical.not_not.mp z2)] at ih
            exact ih
          · have hp := pc_pos hw hnc hrl z2
            refine useV (mPiecesOf_ok hwf _ h1.1 hw hnc hN1 hrl) ?_
            rw [nx_sub hp, nI_add]
            exact ih
    exact l20 S.1.1.length 0 (by omega)
  · rw [if_neg q]
    exact useMBad hwf _ h
