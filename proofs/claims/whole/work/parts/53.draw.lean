/-! draw -/
def dnx (x : Nat) : Nat := (x * 1103515245 + 12345) % 2147483648
def drG (L x : Nat) : RG := (x / 65536 % 4, (if x / 32768 % (L + 1) < x / 1024 % (L + 1) then x / 32768 % (L + 1) else x / 1024 % (L + 1)), (if x / 1024 % (L + 1) < x / 32768 % (L + 1) then x / 32768 % (L + 1) else x / 1024 % (L + 1)))
def drS (L x : Nat) (rs : List RG) : List RG := if crowd (rs ++ [drG L x]) = true then rs else rs ++ [drG L x]
def drX (L : Nat) : Nat → Nat → List RG → List RG
  | 0, _, rs => rs
  | n + 1, x, rs => drX L n (dnx x) (drS L (dnx x) rs)
theorem ite_nI {a b : Nat} (ha : a < 2147483648) (hb : b < 2147483648) : (if nI a < nI b then nI a else nI b) = nI (if a < b then a else b) := by
  by_cases h : a < b
  · rw [if_pos h, if_pos (by rw [nx_lt ha hb]; exact h)]
  · rw [if_neg h, if_neg (by rw [nx_lt ha hb]; exact h)]
theorem ite_nI' {a b : Nat} (ha : a < 2147483648) (hb : b < 2147483648) : (if nI a < nI b then nI b else nI a) = nI (if a < b then b else a) := by
  by_cases h : a < b
  · rw [if_pos h, if_pos (by rw [nx_lt ha hb]; exact h)]
  · rw [if_neg h, if_neg (by rw [nx_lt ha hb]; exact h)]
theorem dnx_lt (x : Nat) : dnx x < 2147483648 := Nat.mod_lt _ (by omega)
theorem drG_ok (L x : Nat) : (drG L x).1 < 4 ∧ (drG L x).2.1 ≤ (drG L x).2.2 ∧ (drG L x).2.2 ≤ L := by
  have h1 := Nat.mod_lt (x / 32768) (show 0 < L + 1 by omega)
  have h2 := Nat.mod_lt (x / 1024) (show 0 < L + 1 by omega)
  refine ⟨Nat.mod_lt _ (by omega), ?_, ?_⟩
  · show (if x / 32768 % (L + 1) < x / 1024 % (L + 1) then x / 32768 % (L + 1) else x / 1024 % (L + 1)) ≤ (if x / 1024 % (L + 1) < x / 32768 % (L + 1) then x / 32768 % (L + 1) else x / 1024 % (L + 1))
    split <;> split <;> omega
  · show (if x / 1024 % (L + 1) < x / 32768 % (L + 1) then x / 32768 % (L + 1) else x / 1024 % (L + 1)) ≤ L
    split <;> omega
theorem drS_ok {L : Nat} (x : Nat) {rs : List RG} (h : WR L rs ∧ NC rs) (hl : rs.length < 8) : (WR L (drS L x rs) ∧ NC (drS L x rs)) ∧ (drS L x rs).length ≤ rs.length + 1 := by
  unfold drS
  split
  · exact ⟨h, by omega⟩
  · next hc =>
    exact ⟨⟨WR_app h.1 hl (drG_ok L x), nc_of (by simpa using hc) (by simp; omega)⟩, by simp⟩
theorem app_erase (rs : List RG) (g : RG) : (rs ++ [g]).eraseIdx rs.length = rs := by
  rw [List.eraseIdx_append_of_length_le (Nat.le_refl _), Nat.sub_self]
  simp
theorem lne0 : ¬ lN 2147483648 = 0 ∧ ¬ lN 1024 = 0 ∧ ¬ lN 32768 = 0 ∧ ¬ lN 65536 = 0 ∧ ¬ lN 4 = 0 := by decide
theorem draw_ok {lay : List Nat} (hwf : wfB lay = true) (d : Nat) {μ : Mem} {x : Nat} {S : XS} (h : XAt μ x S) (s v : Int32) : Rn lay (d + 3) mX_draw [rf 15 x, vi s, vi v] μ (if (0 ≤ s.toInt ∧ s.toInt ≤ 999999) ∧ 0 ≤ v.toInt ∧ v.toInt ≤ 8 then PX x (nI (drX S.1.2.1 (tN v) (tN s) []).length) (xSet S (drX S.1.2.1 (tN v) (tN s) [], S.1.2)) else PX x (mI 1) (xBad S)) := by
  refine Rn_intro ok_X_draw hwf rfl (fun G hC => g_X_draw_0 hC ?_)
  have hw := h.2.2.2.2.2.1.1
  have hn := hw.1.1
  have hL := hw.2.1
  have e9 : (nI 999999).toInt = 999999 := by decide
  have e8 : (nI 8).toInt = 8 := by decide
  refine ⟨fun q => ?_, fun q => ⟨fun q2 => ?_, fun q2 => ⟨fun q3 => ?_, fun q3 => ⟨fun q4 => ?_, fun q4 => ?_⟩⟩⟩⟩
  · rw [i_lt, i_0] at q
    rw [if_neg (by omega)]
    exact useBad hwf _ h
  · rw [i_lt, e9] at q2
    rw [if_neg (by omega)]
    exact useBad hwf _ h
  · rw [i_lt, i_0] at q3
    rw [if_neg (by omega)]
    exact useBad hwf _ h
  · rw [i_lt, i_0] at q
    rw [i_lt, e9] at q2
    rw [i_lt, i_0] at q3
    rw [i_le, e8] at q4
    rw [if_pos (by omega)] at hC
    obtain ⟨s', s1, s2, s3⟩ := nat_of (v := s) (by omega)
    obtain ⟨n, n1, n2, n3⟩ := nat_of (v := v) (by omega)
    have es : tN s = s' := by unfold tN; rw [s3]; rfl
    have en : tN v = n := by unfold tN; rw [n3]; rfl
    rw [es, en] at hC
    rw [s2, n2, nI_l (by omega)]
    refine useN (copy_ok hwf _ (t := x + 6) h.1 hw (by omega)) (fun μ1 hp => ?_)
    obtain ⟨p1, p2⟩ := hp
    have loop : ∀ k i X (rs : List RG) (μ' : Mem), i + k = n → X < 2147483648 → XAt μ' x S → TeAt μ' (x + 6) (rs, S.1.2) → WR S.1.2.1 rs ∧ NC rs → rs.length ≤ i → drX S.1.2.1 k X rs = drX S.1.2.1 n s' [] → G 50 [rf 15 x, un, vi (nI n), vl (lN X), un, vi (nI i), un, un, un] [] μ' := by
      intro k
      induction k with
      | zero =>
        intro i X rs μ' hi hX hx hT hW hl he
        refine g_X_draw_50 hC ?_
        rw [nx_le (by omega) (by omega)]
        refine ⟨fun _ => ?_, fun z => absurd (by omega) z⟩
        refine g_X_draw_166 hC ?_
        refine useSettle hwf d hx hT ⟨hW.1, hw.2⟩ hW.2 (fun μ3 q3 => ⟨_, rfl, ?_, ?_⟩)
        · rw [q3.1.1, ← he]
          rfl
        · rw [← he]
          exact q3
      | succ k ih =>
        intro i X rs μ' hi hX hx hT hW hl he
        refine g_X_draw_50 hC ?_
        rw [nx_le (by omega) (by omega)]
        refine ⟨fun z => absurd z (by omega), fun _ => ⟨lne0.1, ?_⟩⟩
        rw [lN_mul, lN_add, pk_lRem (by omega) (by omega) (by omega)]
        have hX2 := dnx_lt X
        have he : drX S.1.2.1 k (dnx X) (drS S.1.2.1 (dnx X) rs) = drX S.1.2.1 n s' [] := he
        show G 70 [rf 15 x, un, vi (nI n), vl (lN (dnx X)), un, vi (nI i), un, un, un] [] μ'
        generalize dnx X = Y at hX2 he
        refine g_X_draw_70 hC ⟨lne0.2.1, ?_⟩
        rw [pk_lDiv (by omega) (by omega) (by omega), pk_lDiv (by omega) (by omega) (by omega), pk_lDiv (by omega) (by omega) (by omega), pk_lRem (by omega) (by omega) (by omega), lN_i]
        have hL5 : μ'.1 (x + 6) 5 = nI S.1.2.1 := hT.2.1
        refine useV (placeBy_ok hwf _ hL5 hL (by omega)) ⟨lne0.2.2.1, ?_⟩
        refine useV (placeBy_ok hwf _ hL5 hL (by omega)) ⟨lne0.2.2.2.1, lne0.2.2.2.2, ?_⟩
        have m1 := Nat.mod_lt (Y / 1024) (show 0 < S.1.2.1 + 1 by omega)
        have m2 := Nat.mod_lt (Y / 32768) (show 0 < S.1.2.1 + 1 by omega)
        refine g_X_draw_110 hC ?_
        rw [ite_nI (by omega) (by omega), ite_nI' (by omega) (by omega), nI_add]
        have hl8 : rs.length < 8 := by omega
        refine useQ (append_ok hwf _ (k := Y / 65536 % 4) (a := if Y / 32768 % (S.1.2.1 + 1) < Y / 1024 % (S.1.2.1 + 1) then Y / 32768 % (S.1.2.1 + 1) else Y / 1024 % (S.1.2.1 + 1)) (b := if Y / 1024 % (S.1.2.1 + 1) < Y / 32768 % (S.1.2.1 + 1) then Y / 32768 % (S.1.2.1 + 1) else Y / 1024 % (S.1.2.1 + 1)) hT hl8) (fun y μ2 hp => ?_)
        obtain ⟨_, c1, c2⟩ := hp
        have c1 : TeAt μ2 (x + 6) (rs ++ [drG S.1.2.1 Y], S.1.2) := c1
        have hx2 := hx.trial c2
        have hW2 : WR S.1.2.1 (rs ++ [drG S.1.2.1 Y]) := WR_app hW.1 hl8 (drG_ok _ _)
        obtain ⟨d1, d2⟩ := drS_ok Y hW hl8
        refine useV (isCrowded_ok hwf _ c1 ⟨hW2, hw.2⟩) ?_
        rw [bI_eq0]
        refine ⟨fun z => ?_, fun z => ?_⟩
        · have e : drS S.1.2.1 Y rs = rs ++ [drG S.1.2.1 Y] := by unfold drS; rw [if_neg z]
          rw [e] at he d1 d2
          exact ih (i + 1) Y _ μ2 (by omega) hX2 hx2 c1 d1 (by omega) he
        · have e : drS S.1.2.1 Y rs = rs := by unfold drS; rw [if_pos (Classical.not_not.mp z)]
          rw [e] at he
          have hll : (rs ++ [drG S.1.2.1 Y]).length = rs.length + 1 := by simp
          rw [c1.1]
          show ∃ P : PT, Rn lay (d + 2) mTe_remove [rf 13 (x + 6), vi (nI (rs ++ [drG S.1.2.1 Y]).length - nI 1)] μ2 P ∧ _
          rw [hll, nx_sub (by omega), Nat.add_sub_cancel]
          refine useN (remove_ok hwf _ c1 ⟨hW2, hw.2⟩ (j := rs.length) (by rw [hll]; omega)) (fun μ3 hp => ?_)
          obtain ⟨r1, r2⟩ := hp
          rw [app_erase] at r1
          exact ih (i + 1) Y rs μ3 (by omega) hX2 (hx2.trial r2) r1 hW (by omega) he
    refine loop n 0 s' [] _ (by omega) (by omega) (h.trial (p2.up (by simp))) ⟨by rw [up_at]; rfl, by rw [up_n2 (by omega)]; exact p1.2.1, fun i hi => absurd hi (Nat.not_lt_zero _), fun k hk => by rw [up_n1 (by omega)]; exact p1.2.2.2 k hk⟩ ⟨⟨by simp, fun r hr => by simp at hr⟩, nc_nil⟩ (by simp) rfl
  · rw [i_le, e8] at q4
    rw [if_neg (by omega)]
    exact useBad hwf _ h
