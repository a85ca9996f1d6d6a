/-! Nest: pieces of a section; all nodes, place by place -/
def pcs (x : List Nat) (b e g : Nat) : Nat → List Nd × (Nat → Nat) → List Nd × (Nat → Nat)
  | 0, st => st
  | k + 1, st => if g ≤ k then ((pcs x b e g k st).1 ++ [(x.getD k 0, b, e, k, if k = 0 then none else some ((pcs x b e g k st).2 (k - 1)))], fun j => if j = k then (pcs x b e g k st).1.length else (pcs x b e g k st).2 j) else (setE (pcs x b e g k st).1 ((pcs x b e g k st).2 k) e, (pcs x b e g k st).2)
theorem pcs_len (x : List Nat) (b e g : Nat) (st : List Nd × (Nat → Nat)) : ∀ k, st.1.length ≤ (pcs x b e g k st).1.length ∧ (pcs x b e g k st).1.length ≤ st.1.length + k
  | 0 => ⟨Nat.le_refl _, Nat.le_refl _⟩
  | k + 1 => by
    have := pcs_len x b e g st k
    unfold pcs
    split
    · rw [List.length_append, List.length_singleton]
      omega
    · rw [setE_len]
      omega
theorem gd_in {l : List Nat} {k : Nat} (h : k < l.length) : l[k]? = some (l.getD k 0) := by
  rw [List.getD, List.getElem?_eq_getElem h]
  rfl
theorem setE_same {ns : List Nd} {r b e k : Nat} {u : Option Nat} : setE (ns ++ [(r, b, e, k, u)]) ns.length e = ns ++ [(r, b, e, k, u)] := by
  unfold setE
  rw [nd_last]
  refine List.ext_getElem? (fun j => ?_)
  by_cases h : j = ns.length
  · subst h
    rw [List.getElem?_set_self (by simp)]
    simp
  · rw [List.getElem?_set_ne (Ne.symm h)]
abbrev npC (o : Nat) : List Nat := [o, o + 6, o + 7, o + 8, o + 9, o + 10, o + 11]
theorem SeAt.fr {μ μ1 : Mem} {s : Nat} {cs cv : List Nat} (h : SeAt μ s cs cv) (h0 : ∀ b ∈ seC s, μ1.1 b = μ.1 b) : SeAt μ1 s cs cv := by
  obtain ⟨⟨c1, c2⟩, c3, c4, c5⟩ := h
  have e0 := h0 s (by simp)
  have e1 := h0 (s + 1) (by simp)
  have e2 := h0 (s + 2) (by simp)
  have e3 := h0 (s + 3) (by simp)
  exact ⟨⟨by rw [e0]; exact c1, fun i hi => by rw [e1]; exact c2 i hi⟩, by rw [e0]; exact c3, fun i hi => by rw [e2]; exact c4 i hi, fun i hi => by rw [e3]; exact c5 i hi⟩
theorem addPieces_ok {lay : List Nat} (hwf : wfB lay = true) (d : Nat) {μ : Mem} {o s g : Nat} {cs cv : List Nat} {zs : List (List Nat)} {ns : List Nd} {op : Nat → Nat} (hS : SeAt μ (o + 1) cs cv) (hcl : cs.length ≤ 16) (hcv : cv.length = cs.length - 1) (hok : okC cv) (hzl : zs.length = cv.length) (hz : ∀ q, q < cv.length → isSt (cv.getD q 0) (zs.getD q [])) (hch : ∀ q, q < zs.length → μ.1 (o + 5) q = nI (enc (zs.getD q []))) (hs : s < cv.length) (hN : NdAt μ o ns) (hl : ns.length + 5 ≤ 83) (hg : g ≤ (zs.getD s []).length) (hop : ∀ j, j < g → μ.1 (o + 11) j = nI (op j) ∧ op j < ns.length) : Rn lay (d + 1) mNe_addPieces [rf 11 o, vi (nI s), vi (nI g)] μ (Pq fun x μ1 => x = nI (zs.getD s []).length ∧ NdAt μ1 o (pcs (zs.getD s []) (cs.getD s 0) (cs.getD (s + 1) 0) g (zs.getD s []).length (ns, op)).1 ∧ (∀ j, j < (zs.getD s []).length → μ1.1 (o + 11) j = nI ((pcs (zs.getD s []) (cs.getD s 0) (cs.getD (s + 1) 0) g (zs.getD s []).length (ns, op)).2 j) ∧ (pcs (zs.getD s []) (cs.getD s 0) (cs.getD (s + 1) 0) g (zs.getD s []).length (ns, op)).2 j < (pcs (zs.getD s []) (cs.getD s 0) (cs.getD (s + 1) 0) g (zs.getD s []).length (ns, op)).1.length) ∧ Frn o (npC o) μ μ1) := by
  obtain ⟨b1, b2⟩ := hok.at hs
  have hst := hz s hs
  have hx := hst.ok b2
  have hxl := hst.len
  have hx5 := hx.1
  refine Rn_intro ok_Ne_addPieces hwf rfl (fun G hC => g_Ne_addPieces_0 hC ?_)
  have loop : ∀ n k (μ' : Mem), k + n = (zs.getD s []).length → NdAt μ' o (pcs (zs.getD s []) (cs.getD s 0) (cs.getD (s + 1) 0) g k (ns, op)).1 → (∀ j, j < k ∨ j < g → μ'.1 (o + 11) j = nI ((pcs (zs.getD s []) (cs.getD s 0) (cs.getD (s + 1) 0) g k (ns, op)).2 j) ∧ (pcs (zs.getD s []) (cs.getD s 0) (cs.getD (s + 1) 0) g k (ns, op)).2 j < (pcs (zs.getD s []) (cs.getD s 0) (cs.getD (s + 1) 0) g k (ns, op)).1.length) → Frn o (npC o) μ μ' → G 53 [rf 11 o, vi (nI s), vi (nI g), vi (nI (cs.getD s 0)), vi (nI (cs.getD (s + 1) 0)), vi (nI (popN (cv.getD s 0))), vi (nI k)] [] μ' := by
    intro n
    induction n with
    | zero =>
      intro k μ' hk hN' hop' hf
      refine g_Ne_addPieces_53 hC ?_
      rw [nx_le (by omega) (by omega)]
      refine ⟨fun _ => ⟨_, rfl, by rw [hxl], ?_, fun j hj => ?_, hf⟩, fun z => absurd (by omega) z⟩
      · rw [show (zs.getD s []).length = k by omega]; exact hN'
      · rw [show (zs.getD s []).length = k by omega]; exact hop' j (Or.inl (by omega))
    | succ n ih =>
      intro k μ' hk hN' hop' hf
      have hpl := pcs_len (zs.getD s []) (cs.getD s 0) (cs.getD (s + 1) 0) g (ns, op) k
      dsimp only at hpl
      have ih := ih (k + 1)
      rw [show pcs (zs.getD s []) (cs.getD s 0) (cs.getD (s + 1) 0) g (k + 1) (ns, op) = if g ≤ k then ((pcs (zs.getD s []) (cs.getD s 0) (cs.getD (s + 1) 0) g k (ns, op)).1 ++ [((zs.getD s []).getD k 0, cs.getD s 0, cs.getD (s + 1) 0, k, if k = 0 then none else some ((pcs (zs.getD s []) (cs.getD s 0) (cs.getD (s + 1) 0) g k (ns, op)).2 (k - 1)))], fun j => if j = k then (pcs (zs.getD s []) (cs.getD s 0) (cs.getD (s + 1) 0) g k (ns, op)).1.length else (pcs (zs.getD s []) (cs.getD s 0) (cs.getD (s + 1) 0) g k (ns, op)).2 j) else (setE (pcs (zs.getD s []) (cs.getD s 0) (cs.getD (s + 1) 0) g k (ns, op)).1 ((pcs (zs.getD s []) (cs.getD s 0) (cs.getD (s + 1) 0) g k (ns, op)).2 k) (cs.getD (s + 1) 0), (pcs (zs.getD s []) (cs.getD s 0) (cs.getD (s + 1) 0) g k (ns, op)).2) from rfl] at ih
      generalize hst1 : pcs (zs.getD s []) (cs.getD s 0) (cs.getD (s + 1) 0) g k (ns, op) = st at hN' hop' hpl ih
      refine g_Ne_addPieces_53 hC ?_
      rw [nx_le (by omega) (by omega), nx_le (by omega) (by omega), nx_lt (by omega) (by omega), nI_add]
      refine ⟨fun z => absurd z (by omega), fun _ => ⟨fun z => absurd z (by omega), fun _ => ⟨fun z => ?_, fun z => ?_⟩⟩⟩
      · rw [if_neg (by omega)] at ih
        obtain ⟨o1, o2⟩ := hop' k (Or.inr z)
        rw [nx_cl (by omega), nx_in' (by omega) (by omega), o1]
        refine ⟨by omega, ?_⟩
        refine useN (stretch_ok hwf d hN' (by omega) o2) (fun μ1 hp => ?_)
        refine ih μ1 (by omega) hp.1 (fun j hj => ?_) (hf.tr (Frn.of hp.2 (by simp) (by simp)))
        dsimp only
        rw [hp.2.1 (o + 11) (by simp), setE_len]
        exact hop' j (by omega)
      · rw [if_pos (by omega)] at ih
        have hc5 : μ'.1 (o + 5) s = nI (enc (zs.getD s [])) := by rw [hf.1 (o + 5) (by simp)]; exact hch s (by omega)
        have hxk : (zs.getD s [])[k]? = some ((zs.getD s []).getD k 0) := gd_in (by omega)
        rw [nx_in' (by omega) (by omega), nx_cl (by omega), hc5]
        refine ⟨by omega, ?_⟩
        refine useV (at_ok hwf d hx (by omega) μ') ?_
        rw [show atI (zs.getD s []) k = nI ((zs.getD s []).getD k 0) by unfold atI; rw [hxk]]
        refine useQ (addNode_ok hwf d (q := st.2 (k - 1)) hN' (by omega) (by omega) (fun h0 => (hop' (k - 1) (Or.inl (by omega))).1)) (fun x95 μ1 hp => ?_)
        obtain ⟨rfl, p1, p2⟩ := hp
        simp (disch := omega) only [nx_cl, nx_in', up_at]
        refine ⟨by omega, by omega, ?_⟩
        have hN2 : NdAt (upI μ1 (o + 11) k (nI st.1.length)) o (st.1 ++ [((zs.getD s []).getD k 0, cs.getD s 0, cs.getD (s + 1) 0, k, if k = 0 then none else some (st.2 (k - 1)))]) := by
          refine ⟨by rw [up_n1 (by omega)]; exact p1.1, fun j hj => ?_⟩
          simp (disch := omega) only [up_n1]
          exact p1.2 j hj
        refine useN (stretch_ok hwf d (k := st.1.length) hN2 (by rw [List.length_append, List.length_singleton]; omega) (by simp)) (fun μ2 hp2 => ?_)
        rw [setE_same] at hp2
        refine ih μ2 (by omega) hp2.1 (fun j hj => ?_) (((hf.tr (p2.mono (by simp))).up (by simp) (by omega)).tr (Frn.of hp2.2 (by simp) (by simp)))
        dsimp only
        rw [hp2.2.1 (o + 11) (by simp), List.length_append, List.length_singleton]
        by_cases e : j = k
        · subst e
          rw [up_at, if_pos rfl]
          exact ⟨rfl, by omega⟩
        · rw [up_n2 e, if_neg e, p2.1 (o + 11) (by simp)]
          have := hop' j (by omega)
          exact ⟨this.1, by omega⟩
  refine useV (seHas_ok hwf _ hS (by omega) _) ?_
  rw [bI_eq0, nI_ti (by omega)]
  refine ⟨fun _ => ?_, fun z => absurd (by omega) z⟩
  have h1 : μ.1 (o + 1 + 1) s = nI (cs.getD s 0) := hS.1.2 s (by omega)
  have h2 : μ.1 (o + 1 + 1) (s + 1) = nI (cs.getD (s + 1) 0) := hS.1.2 (s + 1) (by omega)
  have h3 : μ.1 (o + 1 + 2) s = nI (cv.getD s 0) := hS.2.2.1 s hs
  rw [nI_add]
  simp (disch := omega) only [nx_cl, nx_in', h1, h2, h3]
  refine ⟨by omega, by omega, by omega, ?_⟩
  refine useV (bitCount_ok hwf _ b1 μ) ?_
  exact loop (zs.getD s []).length 0 μ (by omega) hN (fun j hj => hop j (by omega)) (Frn.rf _ _ _)
theorem addPieces_no {lay : List Nat} (hwf : wfB lay = true) (d : Nat) {μ : Mem} {o s : Nat} {g : Int32} {cs cv : List Nat} (hS : SeAt μ (o + 1) cs cv) (hl : cv.length ≤ 15) (hs : cv.length ≤ s) (hs2 : s < 1000) : Rn lay (d + 1) mNe_addPieces [rf 11 o, vi (nI s), vi g] μ (Pv (nI 0) μ) := by
  refine Rn_intro ok_Ne_addPieces hwf rfl (fun G hC => g_Ne_addPieces_0 hC ?_)
  refine useV (seHas_ok hwf _ hS hl _) ?_
  rw [bI_eq0, nI_ti (by omega)]
  exact ⟨fun z => absurd (by omega) z, fun _ => pv_e rfl⟩
