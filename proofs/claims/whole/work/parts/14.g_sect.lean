theorem ok_Se_has : okB mSe_has = true := by decide +kernel
theorem g_Se_has_0 {lay : List Nat} {d : Nat} {P : PT} {G : KT} (hC : Clo lay d mSe_has P G) {v0 : Nat} {v1 : Int32} {μ : Mem}
    (h : ((v1 < 0 → P (some (vi (nI 0))) μ) ∧ (¬ v1 < 0 → (((μ.1 v0 4) ≤ v1 → P (some (vi (nI 0))) μ) ∧ (¬ (μ.1 v0 4) ≤ v1 → (((nI 15) ≤ v1 → P (some (vi (nI 0))) μ) ∧ (¬ (nI 15) ≤ v1 → P (some (vi (nI 1))) μ))))))) :
    G 0 [rf 12 v0, vi v1] [] μ := seg hC [] 15 rfl (⟨fun q1 => ⟨Or.inl (by decide), (h.1 q1)⟩, fun q1 => ⟨fun q2 => ⟨Or.inl (by decide), ((h.2 q1).1 q2)⟩, fun q2 => ⟨fun q3 => ⟨Or.inl (by decide), (((h.2 q1).2 q2).1 q3)⟩, fun q3 => ⟨Or.inr (by decide), (((h.2 q1).2 q2).2 q3)⟩⟩⟩⟩)
theorem ok_Se_isCut : okB mSe_isCut = true := by decide +kernel
theorem g_Se_isCut_0 {lay : List Nat} {d : Nat} {P : PT} {G : KT} (hC : Clo lay d mSe_isCut P G) {v0 : Nat} {v1 : Int32} {v2 : Int32} {μ : Mem}
    (h : ((v1 < 0 → P (some (vi (nI 0))) μ) ∧ (¬ v1 < 0 → (((μ.1 v0 3) ≤ v1 → P (some (vi (nI 0))) μ) ∧ (¬ (μ.1 v0 3) ≤ v1 → (((nI 16) ≤ v1 → P (some (vi (nI 0))) μ) ∧ (¬ (nI 16) ≤ v1 → (vp_in v1 16 ∧ ((¬ (μ.1 (v0 + 1) v1.toNatClampNeg) = v2 → P (some (vi (nI 0))) μ) ∧ ((μ.1 (v0 + 1) v1.toNatClampNeg) = v2 → P (some (vi (nI 1))) μ)))))))))) :
    G 0 [rf 12 v0, vi v1, vi v2] [] μ := seg hC [] 21 rfl (⟨fun q1 => ⟨Or.inl (by decide), (h.1 q1)⟩, fun q1 => ⟨fun q2 => ⟨Or.inl (by decide), ((h.2 q1).1 q2)⟩, fun q2 => ⟨fun q3 => ⟨Or.inl (by decide), (((h.2 q1).2 q2).1 q3)⟩, fun q3 => ⟨(((h.2 q1).2 q2).2 q3).1, ⟨fun q4 => ⟨Or.inl (by decide), ((((h.2 q1).2 q2).2 q3).2.1 q4)⟩, fun q4 => ⟨Or.inr (by decide), ((((h.2 q1).2 q2).2 q3).2.2 q4)⟩⟩⟩⟩⟩⟩)
theorem ok_Se_cut : okB mSe_cut = true := by decide +kernel
theorem g_Se_cut_0 {lay : List Nat} {d : Nat} {P : PT} {G : KT} (hC : Clo lay (d + 1) mSe_cut P G) {v0 : Nat} {v1 : Nat} {v2 : Int32} {μ : Mem}
    (h : G 7 [rf 12 v0, rf 13 v1, vi v2, vi (nI 0)] [] (upI μ v0 3 (nI 0))) :
    G 0 [rf 12 v0, rf 13 v1, vi v2, un] [] μ := seg hC [(7, []), (60, [3])] 8 rfl h
theorem g_Se_cut_7 {lay : List Nat} {d : Nat} {P : PT} {G : KT} (hC : Clo lay (d + 1) mSe_cut P G) {v0 : Nat} {v1 : Nat} {v2 : Int32} {v3 : Int32} {μ : Mem}
    (h : (((μ.1 v1 4) ≤ v3 → G 60 [rf 12 v0, rf 13 v1, vi v2, un] [] μ) ∧ (¬ (μ.1 v1 4) ≤ v3 → (((nI 8) ≤ v3 → G 60 [rf 12 v0, rf 13 v1, vi v2, un] [] μ) ∧ (¬ (nI 8) ≤ v3 → ((v3 = v2 → G 7 [rf 12 v0, rf 13 v1, vi v2, vi (v3 + nI 1)] [] μ) ∧ (¬ v3 = v2 → (∃ P28 : PT, Rn lay d mTe_isEmpty [rf 13 v1, vi v3] μ P28 ∧ ∀ (x28 : Int32) (μ28 : Mem), P28 (some (vi x28)) μ28 → ((¬ x28 = 0 → G 7 [rf 12 v0, rf 13 v1, vi v2, vi (v3 + nI 1)] [] μ28) ∧ (x28 = 0 → (vp_in v3 8 ∧ (∃ P41 : PT, Rn lay d mSe_addCut [rf 12 v0, vi (μ28.1 (v1 + 2) v3.toNatClampNeg)] μ28 P41 ∧ ∀ μ41 : Mem, P41 none μ41 → (vp_in v3 8 ∧ (∃ P51 : PT, Rn lay d mSe_addCut [rf 12 v0, vi (μ41.1 (v1 + 3) v3.toNatClampNeg)] μ41 P51 ∧ ∀ μ51 : Mem, P51 none μ51 → G 7 [rf 12 v0, rf 13 v1, vi v2, vi (v3 + nI 1)] [] μ51)))))))))))))) :
    G 7 [rf 12 v0, rf 13 v1, vi v2, vi v3] [] μ := seg hC [(7, []), (60, [3])] 31 rfl h
theorem g_Se_cut_60 {lay : List Nat} {d : Nat} {P : PT} {G : KT} (hC : Clo lay (d + 1) mSe_cut P G) {v0 : Nat} {v1 : Nat} {v2 : Int32} {μ : Mem}
    (h : (∃ P77 : PT, Rn lay d mSe_cover [rf 12 v0, rf 13 v1, vi v2] (upI μ v0 4 (if nI 0 < (μ.1 v0 3) - (nI 1) then (μ.1 v0 3) - (nI 1) else nI 0)) P77 ∧ ∀ μ77 : Mem, P77 none μ77 → P none μ77)) :
    G 60 [rf 12 v0, rf 13 v1, vi v2, un] [] μ := seg hC [(7, []), (60, [3])] 16 rfl h
theorem ok_Se_addCut : okB mSe_addCut = true := by decide +kernel
theorem g_Se_addCut_0 {lay : List Nat} {d : Nat} {P : PT} {G : KT} (hC : Clo lay d mSe_addCut P G) {v0 : Nat} {v1 : Int32} {μ : Mem}
    (h : G 2 [rf 12 v0, vi v1, vi (nI 0), un] [] μ) :
    G 0 [rf 12 v0, vi v1, un, un] [] μ := seg hC [(2, [3]), (32, [3]), (80, []), (105, [3])] 5 rfl h
theorem g_Se_addCut_2 {lay : List Nat} {d : Nat} {P : PT} {G : KT} (hC : Clo lay d mSe_addCut P G) {v0 : Nat} {v1 : Int32} {v2 : Int32} {μ : Mem}
    (h : (((μ.1 v0 3) ≤ v2 → G 32 [rf 12 v0, vi v1, vi v2, un] [] μ) ∧ (¬ (μ.1 v0 3) ≤ v2 → (((nI 16) ≤ v2 → G 32 [rf 12 v0, vi v1, vi v2, un] [] μ) ∧ (¬ (nI 16) ≤ v2 → (vp_in v2 16 ∧ ((v1 ≤ (μ.1 (v0 + 1) v2.toNatClampNeg) → G 32 [rf 12 v0, vi v1, vi v2, un] [] μ) ∧ (¬ v1 ≤ (μ.1 (v0 + 1) v2.toNatClampNeg) → G 2 [rf 12 v0, vi v1, vi (v2 + nI 1), un] [] μ)))))))) :
    G 2 [rf 12 v0, vi v1, vi v2, un] [] μ := seg hC [(2, [3]), (32, [3]), (80, []), (105, [3])] 18 rfl h
theorem g_Se_addCut_32 {lay : List Nat} {d : Nat} {P : PT} {G : KT} (hC : Clo lay d mSe_addCut P G) {v0 : Nat} {v1 : Int32} {v2 : Int32} {μ : Mem}
    (h : (((μ.1 v0 3) ≤ v2 → (((μ.1 v0 3) < v2 → P none μ) ∧ (¬ (μ.1 v0 3) < v2 → (((μ.1 v0 3) < (nI 16) → G 80 [rf 12 v0, vi v1, vi v2, vi (μ.1 v0 3)] [] μ) ∧ (¬ (μ.1 v0 3) < (nI 16) → P none μ))))) ∧ (¬ (μ.1 v0 3) ≤ v2 → (((nI 16) ≤ v2 → (((μ.1 v0 3) < v2 → P none μ) ∧ (¬ (μ.1 v0 3) < v2 → (((μ.1 v0 3) < (nI 16) → G 80 [rf 12 v0, vi v1, vi v2, vi (μ.1 v0 3)] [] μ) ∧ (¬ (μ.1 v0 3) < (nI 16) → P none μ))))) ∧ (¬ (nI 16) ≤ v2 → (vp_in v2 16 ∧ ((¬ (μ.1 (v0 + 1) v2.toNatClampNeg) = v1 → (((μ.1 v0 3) < v2 → P none μ) ∧ (¬ (μ.1 v0 3) < v2 → (((μ.1 v0 3) < (nI 16) → G 80 [rf 12 v0, vi v1, vi v2, vi (μ.1 v0 3)] [] μ) ∧ (¬ (μ.1 v0 3) < (nI 16) → P none μ))))) ∧ ((μ.1 (v0 + 1) v2.toNatClampNeg) = v1 → P none μ)))))))) :
    G 32 [rf 12 v0, vi v1, vi v2, un] [] μ := seg hC [(2, [3]), (32, [3]), (80, []), (105, [3])] 27 rfl h
theorem g_Se_addCut_80 {lay : List Nat} {d : Nat} {P : PT} {G : KT} (hC : Clo lay d mSe_addCut P G) {v0 : Nat} {v1 : Int32} {v2 : Int32} {v3 : Int32} {μ : Mem}
    (h : ((v3 ≤ v2 → G 105 [rf 12 v0, vi v1, vi v2, un] [] μ) ∧ (¬ v3 ≤ v2 → (vp_in (v3 - (nI 1)) 16 ∧ (vp_in v3 16 ∧ G 80 [rf 12 v0, vi v1, vi v2, vi (v3 + mI 0)] [] (upI μ (v0 + 1) v3.toNatClampNeg (μ.1 (v0 + 1) (v3 - (nI 1)).toNatClampNeg))))))) :
    G 80 [rf 12 v0, vi v1, vi v2, vi v3] [] μ := seg hC [(2, [3]), (32, [3]), (80, []), (105, [3])] 18 rfl h
theorem g_Se_addCut_105 {lay : List Nat} {d : Nat} {P : PT} {G : KT} (hC : Clo lay d mSe_addCut P G) {v0 : Nat} {v1 : Int32} {v2 : Int32} {μ : Mem}
    (h : (vp_in v2 16 ∧ P none (upI (upI μ (v0 + 1) v2.toNatClampNeg v1) v0 3 (((upI μ (v0 + 1) v2.toNatClampNeg v1).1 v0 3) + (nI 1))))) :
    G 105 [rf 12 v0, vi v1, vi v2, un] [] μ := seg hC [(2, [3]), (32, [3]), (80, []), (105, [3])] 15 rfl h
theorem ok_Se_cover : okB mSe_cover = true := by decide +kernel
theorem g_Se_cover_0 {lay : List Nat} {d : Nat} {P : PT} {G : KT} (hC : Clo lay (d + 1) mSe_cover P G) {v0 : Nat} {v1 : Nat} {v2 : Int32} {μ : Mem}
    (h : ((0 ≤ v2 → G 17 [rf 12 v0, rf 13 v1, un, vi (((nI 1) <<< (v2 &&& 31)) ^^^ (mI 0)), vi (nI 0)] [] μ) ∧ (¬ 0 ≤ v2 → G 17 [rf 12 v0, rf 13 v1, un, vi (mI 0), vi (nI 0)] [] μ))) :
    G 0 [rf 12 v0, rf 13 v1, vi v2, un, un] [] μ := seg hC [(17, [2])] 13 rfl h
theorem g_Se_cover_17 {lay : List Nat} {d : Nat} {P : PT} {G : KT} (hC : Clo lay (d + 1) mSe_cover P G) {v0 : Nat} {v1 : Nat} {v3 : Int32} {v4 : Int32} {μ : Mem}
    (h : (((μ.1 v0 4) ≤ v4 → P none μ) ∧ (¬ (μ.1 v0 4) ≤ v4 → (((nI 15) ≤ v4 → P none μ) ∧ (¬ (nI 15) ≤ v4 → (vp_in v4 16 ∧ (∃ P47 : PT, Rn lay d mTe_coverAt [rf 13 v1, vi (μ.1 (v0 + 1) v4.toNatClampNeg)] μ P47 ∧ ∀ (x47 : Int32) (μ47 : Mem), P47 (some (vi x47)) μ47 → (vp_in v4 15 ∧ (vp_in v4 15 ∧ ((v4 ≤ 0 → G 17 [rf 12 v0, rf 13 v1, un, vi v3, vi (v4 + nI 1)] [] (upI (upI μ47 (v0 + 2) v4.toNatClampNeg (x47 &&& v3)) (v0 + 3) v4.toNatClampNeg (nI 0))) ∧ (¬ v4 ≤ 0 → (vp_in (v4 - (nI 1)) 15 ∧ (vp_in v4 15 ∧ (∃ P91 : PT, Rn lay d mInt_bitCount [vi (((upI (upI μ47 (v0 + 2) v4.toNatClampNeg (x47 &&& v3)) (v0 + 3) v4.toNatClampNeg (nI 0)).1 (v0 + 2) (v4 - (nI 1)).toNatClampNeg) &&& ((upI (upI μ47 (v0 + 2) v4.toNatClampNeg (x47 &&& v3)) (v0 + 3) v4.toNatClampNeg (nI 0)).1 (v0 + 2) v4.toNatClampNeg))] (upI (upI μ47 (v0 + 2) v4.toNatClampNeg (x47 &&& v3)) (v0 + 3) v4.toNatClampNeg (nI 0)) P91 ∧ ∀ (x91 : Int32) (μ91 : Mem), P91 (some (vi x91)) μ91 → (vp_in (v4 - (nI 1)) 15 ∧ G 17 [rf 12 v0, rf 13 v1, un, vi v3, vi (v4 + nI 1)] [] (upI μ91 (v0 + 3) (v4 - (nI 1)).toNatClampNeg x91)))))))))))))))) :
    G 17 [rf 12 v0, rf 13 v1, un, vi v3, vi v4] [] μ := seg hC [(17, [2])] 49 rfl h
