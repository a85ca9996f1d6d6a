/-! Nest: what is told of all nodes; a range broken up -/
def ndB (L : Nat) (ns : List Nd) : Prop := ns.length ≤ 83 ∧ ∀ k, k < ns.length → (ns.getD k nd0).1 < 8 ∧ (ns.getD k nd0).2.1 ≤ (ns.getD k nd0).2.2.1 ∧ (ns.getD k nd0).2.2.1 ≤ L ∧ (ns.getD k nd0).2.2.2.1 ≤ 5
def fS (f : Nd → Nat) (ns : List Nd) : Nat → Nat
  | 0 => 0
  | k + 1 => fS f ns k + f (ns.getD k nd0)
def fM (f : Nd → Nat) (ns : List Nd) : Nat → Nat
  | 0 => 0
  | k + 1 => if fM f ns k < f (ns.getD k nd0) then f (ns.getD k nd0) else fM f ns k
theorem fS_le {f : Nd → Nat} {ns : List Nd} {B n : Nat} (h : ∀ k, k < n → f (ns.getD k nd0) ≤ B) : fS f ns n ≤ B * n := by
  induction n with
  | zero => exact Nat.zero_le _
  | succ n ih =>
    have h1 := ih (fun k hk => h k (by omega))
    have h2 := h n (by omega)
    rw [Nat.mul_succ]
    unfold fS
    omega
theorem fM_le {f : Nd → Nat} {ns : List Nd} {B n : Nat} (h : ∀ k, k < n → f (ns.getD k nd0) ≤ B) : fM f ns n ≤ B := by
  induction n with
  | zero => exact Nat.zero_le _
  | succ n ih =>
    have h1 := ih (fun k hk => h k (by omega))
    have h2 := h n (by omega)
    unfold fM
    split <;> omega
theorem isPiece_ok {lay : List Nat} (hwf : wfB lay = true) (d : Nat) {μ : Mem} {o L : Nat} {ns : List Nd} (hN : NdAt μ o ns) (hB : ndB L ns) (hL : L ≤ 90) {k : Nat} (hk : k < ns.length) : Rn lay d mNe_isPiece [rf 11 o, vi (nI k)] μ (Pv (bI ((ns.getD k nd0).2.1 < (ns.getD k nd0).2.2.1)) μ) := by
  obtain ⟨a1, a2, a3, a4, a5⟩ := hN.2 k hk
  obtain ⟨b1, b2, b3, b4⟩ := hB.2 k hk
  have := hB.1
  refine Rn_intro ok_Ne_isPiece hwf rfl (fun G hC => g_Ne_isPiece_0 hC ?_)
  simp (disch := omega) only [nx_cl, nx_in', a2, a3, nx_le]
  exact ⟨by omega, by omega, fun z => pv_f (by omega), fun z => pv_t (by omega)⟩
def pcF (r : Nat) : Nd → Nat := fun x => if x.1 = r ∧ x.2.1 < x.2.2.1 then 1 else 0
theorem piecesOf_ok {lay : List Nat} (hwf : wfB lay = true) (d : Nat) {μ : Mem} {o L : Nat} {ns : List Nd} (hN : NdAt μ o ns) (hB : ndB L ns) (hL : L ≤ 90) {r : Nat} (hr : r < 1000) : Rn lay (d + 1) mNe_piecesOf [rf 11 o, vi (nI r)] μ (Pv (nI (fS (pcF r) ns ns.length)) μ) := by
  have hl := hB.1
  refine Rn_intro ok_Ne_piecesOf hwf rfl (fun G hC => g_Ne_piecesOf_0 hC ?_)
  have loop : ∀ n k, k + n = ns.length → G 4 [rf 11 o, vi (nI r), vi (nI (fS (pcF r) ns k)), vi (nI k)] [] μ := by
    intro n
    induction n with
    | zero =>
      intro k hk
      refine g_Ne_piecesOf_4 hC ?_
      rw [hN.1, nx_le (by omega) (by omega)]
      exact ⟨fun _ => pv_e (by rw [← hk]; rfl), fun z => absurd (by omega) z⟩
    | succ n ih =>
      intro k hk
      have hkl : k < ns.length := by omega
      obtain ⟨a1, a2, a3, a4, a5⟩ := hN.2 k hkl
      obtain ⟨b1, b2, b3, b4⟩ := hB.2 k hkl
      have ih := ih (k + 1) (by omega)
      rw [show fS (pcF r) ns (k + 1) = fS (pcF r) ns k + pcF r (ns.getD k nd0) from rfl] at ih
      unfold pcF at ih ⊢
      refine g_Ne_piecesOf_4 hC ?_
      simp (disch := omega) only [hN.1, nx_le, nx_cl, nx_in', a1, nx_eq, nI_add]
      refine ⟨fun z => absurd z (by omega), fun _ => ⟨by omega, fun z => ?_, fun z => ?_⟩⟩
      · rw [if_neg (fun w => z w.1)] at ih
        exact ih
      · refine useV (isPiece_ok hwf d hN hB hL hkl) ?_
        rw [bI_eq0]
        refine ⟨fun z2 => ?_, fun z2 => ?_⟩
        · rw [if_neg (fun w => z2 w.2)] at ih
          exact ih
        · rw [if_pos ⟨z, Decidable.not_not.mp z2⟩] at ih
          exact ih
  exact loop ns.length 0 (by omega)
theorem greatestDepth_ok {lay : List Nat} (hwf : wfB lay = true) (d : Nat) {μ : Mem} {o L : Nat} {ns : List Nd} (hN : NdAt μ o ns) (hB : ndB L ns) : Rn lay d mNe_greatestDepth [rf 11 o] μ (Pv (nI (fM (fun x => x.2.2.2.1) ns ns.length)) μ) := by
  have hl := hB.1
  refine Rn_intro ok_Ne_greatestDepth hwf rfl (fun G hC => g_Ne_greatestDepth_0 hC ?_)
  have loop : ∀ n k, k + n = ns.length → G 4 [rf 11 o, vi (nI (fM (fun x => x.2.2.2.1) ns k)), vi (nI k)] [] μ := by
    intro n
    induction n with
    | zero =>
      intro k hk
      refine g_Ne_greatestDepth_4 hC ?_
      rw [hN.1, nx_le (by omega) (by omega)]
      exact ⟨fun _ => pv_e (by rw [← hk]; rfl), fun z => absurd (by omega) z⟩
    | succ n ih =>
      intro k hk
      have hkl : k < ns.length := by omega
      obtain ⟨a1, a2, a3, a4, a5⟩ := hN.2 k hkl
      obtain ⟨b1, b2, b3, b4⟩ := hB.2 k hkl
      have hfm := fM_le (f := fun x => x.2.2.2.1) (ns := ns) (B := 5) (n := k) (fun j hj => (hB.2 j (by omega)).2.2.2)
      have ih := ih (k + 1) (by omega)
      rw [show fM (fun x => x.2.2.2.1) ns (k + 1) = if fM (fun x => x.2.2.2.1) ns k < (ns.getD k nd0).2.2.2.1 then (ns.getD k nd0).2.2.2.1 else fM (fun x => x.2.2.2.1) ns k from rfl] at ih
      refine g_Ne_greatestDepth_4 hC ?_
      simp (disch := omega) only [hN.1, nx_le, nx_cl, nx_in', a4, nx_lt, nI_add]
      refine ⟨fun z => absurd z (by omega), fun _ => ⟨by omega, ?_⟩⟩
      by_cases q : fM (fun x => x.2.2.2.1) ns k < (ns.getD k nd0).2.2.2.1
      · rw [if_pos q] at ih ⊢
        exact ih
      · rw [if_neg q] at ih ⊢
        exact ih
  exact loop ns.length 0 (by omega)
theorem depthsTogether_ok {lay : List Nat} (hwf : wfB lay = true) (d : Nat) {μ : Mem} {o L : Nat} {ns : List Nd} (hN : NdAt μ o ns) (hB : ndB L ns) : Rn lay d mNe_depthsTogether [rf 11 o] μ (Pv (nI (fS (fun x => x.2.2.2.1) ns ns.length)) μ) := by
  have hl := hB.1
  refine Rn_intro ok_Ne_depthsTogether hwf rfl (fun G hC => g_Ne_depthsTogether_0 hC ?_)
  have loop : ∀ n k, k + n = ns.length → G 4 [rf 11 o, vi (nI (fS (fun x => x.2.2.2.1) ns k)), vi (nI k)] [] μ := by
    intro n
    induction n with
    | zero =>
      intro k hk
      refine g_Ne_depthsTogether_4 hC ?_
      rw [hN.1, nx_le (by omega) (by omega)]
      exact ⟨fun _ => pv_e (by rw [← hk]; rfl), fun z => absurd (by omega) z⟩
    | succ n ih =>
      intro k hk
      have hkl : k < ns.length := by omega
      obtain ⟨a1, a2, a3, a4, a5⟩ := hN.2 k hkl
      refine g_Ne_depthsTogether_4 hC ?_
      simp (disch := omega) only [hN.1, nx_le, nx_cl, nx_in', a4, nI_add]
      exact ⟨fun z => absurd z (by omega), fun _ => ⟨by omega, ih (k + 1) (by omega)⟩⟩
  exact loop ns.length 0 (by omega)
def emF : Nd → Nat := fun x => if x.2.1 < x.2.2.1 then 0 else 1
theorem howManyEmpty_ok {lay : List Nat} (hwf : wfB lay = true) (d : Nat) {μ : Mem} {o L : Nat} {ns : List Nd} (hN : NdAt μ o ns) (hB : ndB L ns) (hL : L ≤ 90) : Rn lay (d + 1) mNe_howManyEmpty [rf 11 o] μ (Pv (nI (fS emF ns ns.length)) μ) := by
  have hl := hB.1
  refine Rn_intro ok_Ne_howManyEmpty hwf rfl (fun G hC => g_Ne_howManyEmpty_0 hC ?_)
  have loop : ∀ n k, k + n = ns.length → G 4 [rf 11 o, vi (nI (fS emF ns k)), vi (nI k)] [] μ := by
    intro n
    induction n with
    | zero =>
      intro k hk
      refine g_Ne_howManyEmpty_4 hC ?_
      rw [hN.1, nx_le (by omega) (by omega)]
      exact ⟨fun _ => pv_e (by rw [← hk]; rfl), fun z => absurd (by omega) z⟩
    | succ n ih =>
      intro k hk
      have hkl : k < ns.length := by omega
      have ih := ih (k + 1) (by omega)
      rw [show fS emF ns (k + 1) = fS emF ns k + emF (ns.getD k nd0) from rfl] at ih
      unfold emF at ih ⊢
      refine g_Ne_howManyEmpty_4 hC ?_
      simp (disch := omega) only [hN.1, nx_le, nI_add]
      refine ⟨fun z => absurd z (by omega), fun _ => ?_⟩
      refine useV (isPiece_ok hwf d hN hB hL hkl) ?_
      rw [bI_eq0]
      refine ⟨fun z => ?_, fun z => ?_⟩
      · rw [if_pos (Decidable.not_not.mp z)] at ih
        exact ih
      · rw [if_neg z] at ih
        exact ih
  exact loop ns.length 0 (by omega)
theorem longest_ok {lay : List Nat} (hwf : wfB lay = true) (d : Nat) {μ : Mem} {o L : Nat} {ns : List Nd} (hN : NdAt μ o ns) (hB : ndB L ns) (hL : L ≤ 90) : Rn lay d mNe_longest [rf 11 o] μ (Pv (nI (fM (fun x => x.2.2.1 - x.2.1) ns ns.length)) μ) := by
  have hl := hB.1
  refine Rn_intro ok_Ne_longest hwf rfl (fun G hC => g_Ne_longest_0 hC ?_)
  have loop : ∀ n k, k + n = ns.length → G 4 [rf 11 o, vi (nI (fM (fun x => x.2.2.1 - x.2.1) ns k)), vi (nI k)] [] μ := by
    intro n
    induction n with
    | zero =>
      intro k hk
      refine g_Ne_longest_4 hC ?_
      rw [hN.1, nx_le (by omega) (by omega)]
      exact ⟨fun _ => pv_e (by rw [← hk]; rfl), fun z => absurd (by omega) z⟩
    | succ n ih =>
      intro k hk
      have hkl : k < ns.length := by omega
      obtain ⟨a1, a2, a3, a4, a5⟩ := hN.2 k hkl
      obtain ⟨b1, b2, b3, b4⟩ := hB.2 k hkl
      have hfm := fM_le (f := fun x => x.2.2.1 - x.2.1) (ns := ns) (B := 90) (n := k) (fun j hj => by
        have := (hB.2 j (by omega)).2.2.1
        omega)
      have ih := ih (k + 1) (by omega)
      rw [show fM (fun x => x.2.2.1 - x.2.1) ns (k + 1) = if fM (fun x => x.2.2.1 - x.2.1) ns k < (ns.getD k nd0).2.2.1 - (ns.getD k nd0).2.1 then (ns.getD k nd0).2.2.1 - (ns.getD k nd0).2.1 else fM (fun x => x.2.2.1 - x.2.1) ns k from rfl] at ih
      refine g_Ne_longest_4 hC ?_
      simp (disch := omega) only [hN.1, nx_le, nx_cl, nx_in', a2, a3, nx_sub, nx_lt, nI_add]
      refine ⟨fun z => absurd z (by omega), fun _ => ⟨by omega, by omega, ?_⟩⟩
      by_cases q : fM (fun x => x.2.2.1 - x.2.1) ns k < (ns.getD k nd0).2.2.1 - (ns.getD k nd0).2.1
      · rw [if_pos q] at ih ⊢
        exact ih
      · rw [if_neg q] at ih ⊢
        exact ih
  exact loop ns.length 0 (by omega)
def noF : Nd → Nat := fun x => if x.2.2.2.1 = 0 then 1 else 0
theorem howManyInNone_ok {lay : List Nat} (hwf : wfB lay = true) (d : Nat) {μ : Mem} {o L : Nat} {ns : List Nd} (hN : NdAt μ o ns) (hB : ndB L ns) : Rn lay d mNe_howManyInNone [rf 11 o] μ (Pv (nI (fS noF ns ns.length)) μ) := by
  have hl := hB.1
  refine Rn_intro ok_Ne_howManyInNone hwf rfl (fun G hC => g_Ne_howManyInNone_0 hC ?_)
  have loop : ∀ n k, k + n = ns.length → G 4 [rf 11 o, vi (nI (fS noF ns k)), vi (nI k)] [] μ := by
    intro n
    induction n with
    | zero =>
      intro k hk
      refine g_Ne_howManyInNone_4 hC ?_
      rw [hN.1, nx_le (by omega) (by omega)]
      exact ⟨fun _ => pv_e (by rw [← hk]; rfl), fun z => absurd (by omega) z⟩
    | succ n ih =>
      intro k hk
      have hkl : k < ns.length := by omega
      obtain ⟨a1, a2, a3, a4, a5⟩ := hN.2 k hkl
      obtain ⟨b1, b2, b3, b4⟩ := hB.2 k hkl
      have ih := ih (k + 1) (by omega)
      rw [show fS noF ns (k + 1) = fS noF ns k + noF (ns.getD k nd0) from rfl] at ih
      unfold noF at ih ⊢
      refine g_Ne_howManyInNone_4 hC ?_
      rw [nx_0]
      simp (disch := omega) only [hN.1, nx_le, nx_cl, nx_in', a4, nx_eq, nI_add]
      refine ⟨fun z => absurd z (by omega), fun _ => ⟨by omega, fun z => ?_, fun z => ?_⟩⟩
      · rw [if_neg z] at ih
        exact ih
      · rw [if_pos z] at ih
        exact ih
  exact loop ns.length 0 (by omega)
/-- a range's pieces in its place: the first one there, the others behind all -/
def brk (ns : List Nd) (r : Nat) (rs : List RG) : Nat → List RG × Bool
  | 0 => (rs, true)
  | k + 1 => if (ns.getD k nd0).1 = r ∧ (ns.getD k nd0).2.1 < (ns.getD k nd0).2.2.1 then (if (brk ns r rs k).2 = true then (brk ns r rs k).1.set r (kd (brk ns r rs k).1 r, (ns.getD k nd0).2.1, (ns.getD k nd0).2.2.1) else (brk ns r rs k).1 ++ [(kd (brk ns r rs k).1 r, (ns.getD k nd0).2.1, (ns.getD k nd0).2.2.1)], false) else brk ns r rs k
theorem brk_len (ns : List Nd) (r : Nat) (rs : List RG) : ∀ k, rs.length ≤ (brk ns r rs k).1.length ∧ (brk ns r rs k).1.length ≤ (brk ns r rs (k + 1)).1.length
  | 0 => ⟨Nat.le_refl _, by
    unfold brk
    split
    · dsimp only
      split <;> simp [brk]
    · exact Nat.le_refl _⟩
  | k + 1 => by
    have ih := brk_len ns r rs k
    refine ⟨by omega, ?_⟩
    conv => rhs; unfold brk
    split
    · dsimp only
      split <;> simp
    · exact Nat.le_refl _
theorem brk_mono (ns : List Nd) (r : Nat) (rs : List RG) (k : Nat) : ∀ m, (brk ns r rs k).1.length ≤ (brk ns r rs (k + m)).1.length
  | 0 => Nat.le_refl _
  | m + 1 => Nat.le_trans (brk_mono ns r rs k m) (brk_len ns r rs (k + m)).2
theorem WR_app {L : Nat} {rs : List RG} {x : RG} (h : WR L rs) (hl : rs.length < 8) (hx : x.1 < 4 ∧ x.2.1 ≤ x.2.2 ∧ x.2.2 ≤ L) : WR L (rs ++ [x]) := ⟨by rw [List.length_append, List.length_singleton]; omega, fun r hr => by
  rcases List.mem_append.mp hr with q | q
  · exact h.2 r q
  · simp at q
    rw [q]
    exact hx⟩
theorem breakUp_ok {lay : List Nat} (hwf : wfB lay = true) (d : Nat) {μ : Mem} {o u : Nat} {U : TS} {ns : List Nd} {r : Nat} (hN : NdAt μ o ns) (hB : ndB U.2.1 ns) (hU : TeAt μ u U) (hw : WT U) (hr : r < U.1.length) (hd : u + 5 ≤ o ∨ o + 12 ≤ u) (hl : (brk ns r U.1 ns.length).1.length ≤ 8) : Rn lay (d + 2) mNe_breakUp [rf 11 o, vi (nI r), rf 13 u] μ (Pn fun μ1 => TeAt μ1 u ((brk ns r U.1 ns.length).1, U.2) ∧ WR U.2.1 (brk ns r U.1 ns.length).1 ∧ Fr (teC u) μ μ1) := by
  obtain ⟨hw1, hw2⟩ := hw
  have hn := hw1.1
  have hL := hw2.1
  have hnl := hB.1
  refine Rn_intro ok_Ne_breakUp hwf rfl (fun G hC => g_Ne_breakUp_0 hC ?_)
  have loop : ∀ n k (μ' : Mem), k + n = ns.length → TeAt μ' u ((brk ns r U.1 k).1, U.2) → WR U.2.1 (brk ns r U.1 k).1 → Fr (teC u) μ μ' → G 14 [rf 11 o, vi (nI r), rf 13 u, vi (nI (if (brk ns r U.1 k).2 = true then 1 else 0)), vi (nI k)] [] μ' := by
    intro n
    induction n with
    | zero =>
      intro k μ' hk hT' hW hf
      have hN' : NdAt μ' o ns := by
        refine ⟨by rw [hf.1 o (by simp; omega)]; exact hN.1, fun j hj => ?_⟩
        rw [hf.1 (o + 6) (by simp; omega), hf.1 (o + 7) (by simp; omega), hf.1 (o + 8) (by simp; omega), hf.1 (o + 9) (by simp; omega), hf.1 (o + 10) (by simp; omega)]
        exact hN.2 j hj
      refine g_Ne_breakUp_14 hC ?_
      rw [hN'.1, nx_le (by omega) (by omega)]
      rw [show k = ns.length by omega] at hT' hW
      exact ⟨fun _ => ⟨rfl, hT', hW, hf⟩, fun z => absurd (by omega) z⟩
    | succ n ih =>
      intro k μ' hk hT' hW hf
      have hkl : k < ns.length := by omega
      have hN' : NdAt μ' o ns := by
        refine ⟨by rw [hf.1 o (by simp; omega)]; exact hN.1, fun j hj => ?_⟩
        rw [hf.1 (o + 6) (by simp; omega), hf.1 (o + 7) (by simp; omega), hf.1 (o + 8) (by simp; omega), hf.1 (o + 9) (by simp; omega), hf.1 (o + 10) (by simp; omega)]
        exact hN.2 j hj
      obtain ⟨a1, a2, a3, a4, a5⟩ := hN'.2 k hkl
      obtain ⟨b1, b2, b3, b4⟩ := hB.2 k hkl
      have hbl := brk_len ns r U.1 k
      have hm := brk_mono ns r U.1 (k + 1) n
      rw [show k + 1 + n = ns.length by omega] at hm
      have hrl : r < (brk ns r U.1 k).1.length := by omega
      have ih := ih (k + 1)
      rw [show brk ns r U.1 (k + 1) = if (ns.getD k nd0).1 = r ∧ (ns.getD k nd0).2.1 < (ns.getD k nd0).2.2.1 then (if (brk ns r U.1 k).2 = true then (brk ns r U.1 k).1.set r (kd (brk ns r U.1 k).1 r, (ns.getD k nd0).2.1, (ns.getD k nd0).2.2.1) else (brk ns r U.1 k).1 ++ [(kd (brk ns r U.1 k).1 r, (ns.getD k nd0).2.1, (ns.getD k nd0).2.2.1)], false) else brk ns r U.1 k from rfl] at ih hm hbl
      generalize hst : brk ns r U.1 k = st at hT' hW hrl ih hm hbl ⊢
      obtain ⟨k1, -, -⟩ := hW.at hrl
      refine g_Ne_breakUp_14 hC ?_
      simp (disch := omega) only [hN'.1, nx_le, nx_cl, nx_in', a1, nx_eq, nI_add]
      refine ⟨fun z => absurd z (by omega), fun _ => ⟨by omega, fun z => ?_, fun z => ?_⟩⟩
      · rw [if_neg (fun w => z w.1)] at ih
        exact ih μ' (by omega) hT' hW hf
      · refine useV (isPiece_ok hwf _ hN' hB hL hkl) ?_
        rw [bI_eq0]
        refine ⟨fun z2 => ?_, fun z2 => ?_⟩
        · have z2 := Decidable.not_not.mp z2
          rw [if_pos ⟨z, z2⟩] at ih hm hbl
          dsimp only at ih hm hbl
          have e1 : μ'.1 (u + 1) r = nI (kd st.1 r) := (hT'.2.2.1 r hrl).1
          rw [nx_0, nx_eq (by split <;> omega) (by omega)]
          simp (disch := omega) only [nx_cl, nx_in', a2, a3, e1]
          refine ⟨fun z3 => ⟨by omega, by omega, by omega, ?_⟩, fun z3 => ⟨by omega, by omega, ?_⟩⟩
          · have hs2 : ¬ st.2 = true := fun q => by rw [if_pos q] at z3; omega
            rw [if_neg hs2] at ih hm hbl
            have hl8 : st.1.length < 8 := by
              rw [List.length_append, List.length_singleton] at hm
              omega
            refine useQ (append_ok hwf _ hT' hl8) (fun x μ1 hp => ?_)
            exact ih μ1 (by omega) hp.2.1 (WR_app hW hl8 ⟨k1, by dsimp only; omega, by dsimp only; omega⟩) (hf.tr hp.2.2)
          · have hs2 : st.2 = true := Decidable.not_not.mp (fun q => by rw [if_neg q] at z3; omega)
            rw [if_pos hs2] at ih hm hbl
            refine useN (lay_ok hwf d hT' ⟨hW, hw2⟩ hrl) (fun μ1 hp => ?_)
            exact ih μ1 (by omega) hp.1 (WR_set hW ⟨k1, by dsimp only; omega, by dsimp only; omega⟩) (hf.tr hp.2)
        · rw [if_neg (fun w => z2 w.2)] at ih
          exact ih μ' (by omega) hT' hW hf
  refine useV (has_nat hwf _ hU ⟨hw1, hw2⟩ (by omega)) ?_
  rw [bI_eq0]
  exact ⟨fun _ => loop ns.length 0 μ (by omega) hU hw1 (Fr.rf _ _), fun z => absurd hr z⟩
