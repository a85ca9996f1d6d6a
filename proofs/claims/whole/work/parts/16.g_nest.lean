theorem ok_Ne_layNodes : okB mNe_layNodes = true := by decide +kernel
theorem g_Ne_layNodes_0 {lay : List Nat} {d : Nat} {P : PT} {G : KT} (hC : Clo lay (d + 1) mNe_layNodes P G) {v0 : Nat} {v1 : Nat} {μ : Mem}
    (h : G 12 [rf 11 v0, rf 13 v1, vi (nI 0), vi (nI 0), vi (nI 0), un] [] (upI μ v0 8 (nI 0))) :
    G 0 [rf 11 v0, rf 13 v1, un, un, un, un] [] μ := seg hC [(12, [5])] 12 rfl h
theorem g_Ne_layNodes_12 {lay : List Nat} {d : Nat} {P : PT} {G : KT} (hC : Clo lay (d + 1) mNe_layNodes P G) {v0 : Nat} {v1 : Nat} {v2 : Int32} {v3 : Int32} {v4 : Int32} {μ : Mem}
    (h : (((μ.1 v1 5) < v4 → P none μ) ∧ (¬ (μ.1 v1 5) < v4 → (∃ P28 : PT, Rn lay d mSe_isCut [rf 12 (v0 + 1), vi v3, vi v4] μ P28 ∧ ∀ (x28 : Int32) (μ28 : Mem), P28 (some (vi x28)) μ28 → ((x28 = 0 → (∃ P49 : PT, Rn lay d mNe_addEmptyOnes [rf 11 v0, rf 13 v1, vi v4, vi v2] μ28 P49 ∧ ∀ μ49 : Mem, P49 none μ49 → ((x28 = 0 → G 12 [rf 11 v0, rf 13 v1, vi v2, vi v3, vi (v4 + nI 1), un] [] μ49) ∧ (¬ x28 = 0 → (∃ P60 : PT, Rn lay d mNe_addPieces [rf 11 v0, vi v3, vi v2] μ49 P60 ∧ ∀ (x60 : Int32) (μ60 : Mem), P60 (some (vi x60)) μ60 → G 12 [rf 11 v0, rf 13 v1, vi x60, vi (v3 + nI 1), vi (v4 + nI 1), un] [] μ60))))) ∧ (¬ x28 = 0 → (∃ P40 : PT, Rn lay d mNe_goingOnAt [rf 11 v0, vi v3] μ28 P40 ∧ ∀ (x40 : Int32) (μ40 : Mem), P40 (some (vi x40)) μ40 → (∃ P49 : PT, Rn lay d mNe_addEmptyOnes [rf 11 v0, rf 13 v1, vi v4, vi x40] μ40 P49 ∧ ∀ μ49 : Mem, P49 none μ49 → ((x28 = 0 → G 12 [rf 11 v0, rf 13 v1, vi x40, vi v3, vi (v4 + nI 1), un] [] μ49) ∧ (¬ x28 = 0 → (∃ P60 : PT, Rn lay d mNe_addPieces [rf 11 v0, vi v3, vi x40] μ49 P60 ∧ ∀ (x60 : Int32) (μ60 : Mem), P60 (some (vi x60)) μ60 → G 12 [rf 11 v0, rf 13 v1, vi x60, vi (v3 + nI 1), vi (v4 + nI 1), un] [] μ60))))))))))) :
    G 12 [rf 11 v0, rf 13 v1, vi v2, vi v3, vi v4, un] [] μ := seg hC [(12, [5])] 34 rfl h
theorem ok_Ne_goingOnAt : okB mNe_goingOnAt = true := by decide +kernel
theorem g_Ne_goingOnAt_0 {lay : List Nat} {d : Nat} {P : PT} {G : KT} (hC : Clo lay (d + 1) mNe_goingOnAt P G) {v0 : Nat} {v1 : Int32} {μ : Mem}
    (h : (∃ P7 : PT, Rn lay d mSe_has [rf 12 (v0 + 1), vi (v1 - (nI 1))] μ P7 ∧ ∀ (x7 : Int32) (μ7 : Mem), P7 (some (vi x7)) μ7 → ((x7 = 0 → P (some (vi (nI 0))) μ7) ∧ (¬ x7 = 0 → (∃ P18 : PT, Rn lay d mSe_has [rf 12 (v0 + 1), vi v1] μ7 P18 ∧ ∀ (x18 : Int32) (μ18 : Mem), P18 (some (vi x18)) μ18 → ((¬ x18 = 0 → (vp_in (v1 - (nI 1)) 15 ∧ (vp_in v1 15 ∧ (∃ P40 : PT, Rn lay d mSt_alike [vi (μ18.1 (v0 + 5) (v1 - (nI 1)).toNatClampNeg), vi (μ18.1 (v0 + 5) v1.toNatClampNeg)] μ18 P40 ∧ ∀ (x40 : Int32) (μ40 : Mem), P40 (some (vi x40)) μ40 → P (some (vi x40)) μ40)))) ∧ (x18 = 0 → P (some (vi (nI 0))) μ18))))))) :
    G 0 [rf 11 v0, vi v1] [] μ := seg hC [] 27 rfl h
theorem ok_Ne_addEmptyOnes : okB mNe_addEmptyOnes = true := by decide +kernel
theorem g_Ne_addEmptyOnes_0 {lay : List Nat} {d : Nat} {P : PT} {G : KT} (hC : Clo lay (d + 1) mNe_addEmptyOnes P G) {v0 : Nat} {v1 : Nat} {v2 : Int32} {v3 : Int32} {μ : Mem}
    (h : G 3 [rf 11 v0, rf 13 v1, vi v2, vi v3, vi (nI 0)] [] μ) :
    G 0 [rf 11 v0, rf 13 v1, vi v2, vi v3, un] [] μ := seg hC [(3, [])] 5 rfl h
theorem g_Ne_addEmptyOnes_3 {lay : List Nat} {d : Nat} {P : PT} {G : KT} (hC : Clo lay (d + 1) mNe_addEmptyOnes P G) {v0 : Nat} {v1 : Nat} {v2 : Int32} {v3 : Int32} {v4 : Int32} {μ : Mem}
    (h : (((μ.1 v1 4) ≤ v4 → P none μ) ∧ (¬ (μ.1 v1 4) ≤ v4 → (((nI 8) ≤ v4 → P none μ) ∧ (¬ (nI 8) ≤ v4 → (∃ P22 : PT, Rn lay d mTe_isEmpty [rf 13 v1, vi v4] μ P22 ∧ ∀ (x22 : Int32) (μ22 : Mem), P22 (some (vi x22)) μ22 → ((x22 = 0 → G 3 [rf 11 v0, rf 13 v1, vi v2, vi v3, vi (v4 + nI 1)] [] μ22) ∧ (¬ x22 = 0 → (vp_in v4 8 ∧ ((¬ (μ22.1 (v1 + 2) v4.toNatClampNeg) = v2 → G 3 [rf 11 v0, rf 13 v1, vi v2, vi v3, vi (v4 + nI 1)] [] μ22) ∧ ((μ22.1 (v1 + 2) v4.toNatClampNeg) = v2 → (∃ P45 : PT, Rn lay d mNe_addNode [rf 11 v0, vi v4, vi v2, vi v2, vi v3] μ22 P45 ∧ ∀ (x45 : Int32) (μ45 : Mem), P45 (some (vi x45)) μ45 → G 3 [rf 11 v0, rf 13 v1, vi v2, vi v3, vi (v4 + nI 1)] [] μ45)))))))))))) :
    G 3 [rf 11 v0, rf 13 v1, vi v2, vi v3, vi v4] [] μ := seg hC [(3, [])] 29 rfl h
theorem ok_Ne_addPieces : okB mNe_addPieces = true := by decide +kernel
theorem g_Ne_addPieces_0 {lay : List Nat} {d : Nat} {P : PT} {G : KT} (hC : Clo lay (d + 1) mNe_addPieces P G) {v0 : Nat} {v1 : Int32} {v2 : Int32} {μ : Mem}
    (h : (∃ P5 : PT, Rn lay d mSe_has [rf 12 (v0 + 1), vi v1] μ P5 ∧ ∀ (x5 : Int32) (μ5 : Mem), P5 (some (vi x5)) μ5 → ((¬ x5 = 0 → (vp_in v1 16 ∧ (vp_in (v1 + (nI 1)) 16 ∧ (vp_in v1 15 ∧ (∃ P45 : PT, Rn lay d mInt_bitCount [vi (μ5.1 (v0 + 1 + 2) v1.toNatClampNeg)] μ5 P45 ∧ ∀ (x45 : Int32) (μ45 : Mem), P45 (some (vi x45)) μ45 → G 53 [rf 11 v0, vi v1, vi v2, vi (μ5.1 (v0 + 1 + 1) v1.toNatClampNeg), vi (μ5.1 (v0 + 1 + 1) (v1 + (nI 1)).toNatClampNeg), vi x45, vi (nI 0)] [] μ45))))) ∧ (x5 = 0 → P (some (vi (nI 0))) μ5)))) :
    G 0 [rf 11 v0, vi v1, vi v2, un, un, un, un] [] μ := seg hC [(53, [])] 31 rfl h
theorem g_Ne_addPieces_53 {lay : List Nat} {d : Nat} {P : PT} {G : KT} (hC : Clo lay (d + 1) mNe_addPieces P G) {v0 : Nat} {v1 : Int32} {v2 : Int32} {v3 : Int32} {v4 : Int32} {v5 : Int32} {v6 : Int32} {μ : Mem}
    (h : ((v5 ≤ v6 → P (some (vi v5)) μ) ∧ (¬ v5 ≤ v6 → (((nI 5) ≤ v6 → P (some (vi v5)) μ) ∧ (¬ (nI 5) ≤ v6 → ((v6 < v2 → (vp_in v6 5 ∧ (∃ P109 : PT, Rn lay d mNe_stretch [rf 11 v0, vi (μ.1 (v0 + 11) v6.toNatClampNeg), vi v4] μ P109 ∧ ∀ μ109 : Mem, P109 none μ109 → G 53 [rf 11 v0, vi v1, vi v2, vi v3, vi v4, vi v5, vi (v6 + nI 1)] [] μ109))) ∧ (¬ v6 < v2 → (vp_in v1 15 ∧ (∃ P87 : PT, Rn lay d mSt_at [vi (μ.1 (v0 + 5) v1.toNatClampNeg), vi v6] μ P87 ∧ ∀ (x87 : Int32) (μ87 : Mem), P87 (some (vi x87)) μ87 → (∃ P95 : PT, Rn lay d mNe_addNode [rf 11 v0, vi x87, vi v3, vi v4, vi v6] μ87 P95 ∧ ∀ (x95 : Int32) (μ95 : Mem), P95 (some (vi x95)) μ95 → (vp_in v6 5 ∧ (vp_in v6 5 ∧ (∃ P109 : PT, Rn lay d mNe_stretch [rf 11 v0, vi ((upI μ95 (v0 + 11) v6.toNatClampNeg x95).1 (v0 + 11) v6.toNatClampNeg), vi v4] (upI μ95 (v0 + 11) v6.toNatClampNeg x95) P109 ∧ ∀ μ109 : Mem, P109 none μ109 → G 53 [rf 11 v0, vi v1, vi v2, vi v3, vi v4, vi v5, vi (v6 + nI 1)] [] μ109))))))))))))) :
    G 53 [rf 11 v0, vi v1, vi v2, vi v3, vi v4, vi v5, vi v6] [] μ := seg hC [(53, [])] 36 rfl h
theorem ok_Ne_stretch : okB mNe_stretch = true := by decide +kernel
theorem g_Ne_stretch_0 {lay : List Nat} {d : Nat} {P : PT} {G : KT} (hC : Clo lay d mNe_stretch P G) {v0 : Nat} {v1 : Int32} {v2 : Int32} {μ : Mem}
    (h : ((v1 < 0 → P none μ) ∧ (¬ v1 < 0 → (((μ.1 v0 8) ≤ v1 → P none μ) ∧ (¬ (μ.1 v0 8) ≤ v1 → (vp_in v1 83 ∧ P none (upI μ (v0 + 8) v1.toNatClampNeg v2))))))) :
    G 0 [rf 11 v0, vi v1, vi v2] [] μ := seg hC [] 15 rfl h
theorem ok_Ne_addNode : okB mNe_addNode = true := by decide +kernel
theorem g_Ne_addNode_0 {lay : List Nat} {d : Nat} {P : PT} {G : KT} (hC : Clo lay d mNe_addNode P G) {v0 : Nat} {v1 : Int32} {v2 : Int32} {v3 : Int32} {v4 : Int32} {μ : Mem}
    (h : (((μ.1 v0 8) < 0 → P (some (vi (mI 0))) μ) ∧ (¬ (μ.1 v0 8) < 0 → (((μ.1 v0 8) < (nI 83) → (vp_in (μ.1 v0 8) 83 ∧ G 28 [rf 11 v0, un, vi v2, vi v3, vi v4] [] (upI μ (v0 + 6) (μ.1 v0 8).toNatClampNeg v1))) ∧ (¬ (μ.1 v0 8) < (nI 83) → P (some (vi (mI 0))) μ))))) :
    G 0 [rf 11 v0, vi v1, vi v2, vi v3, vi v4] [] μ := seg hC [(28, [1]), (38, [1, 2]), (48, [1, 2, 3]), (59, [1, 2, 3]), (92, [1, 2, 3, 4])] 16 rfl h
theorem g_Ne_addNode_28 {lay : List Nat} {d : Nat} {P : PT} {G : KT} (hC : Clo lay d mNe_addNode P G) {v0 : Nat} {v2 : Int32} {v3 : Int32} {v4 : Int32} {μ : Mem}
    (h : (vp_in (μ.1 v0 8) 83 ∧ G 38 [rf 11 v0, un, un, vi v3, vi v4] [] (upI μ (v0 + 7) (μ.1 v0 8).toNatClampNeg v2))) :
    G 28 [rf 11 v0, un, vi v2, vi v3, vi v4] [] μ := seg hC [(28, [1]), (38, [1, 2]), (48, [1, 2, 3]), (59, [1, 2, 3]), (92, [1, 2, 3, 4])] 9 rfl h
theorem g_Ne_addNode_38 {lay : List Nat} {d : Nat} {P : PT} {G : KT} (hC : Clo lay d mNe_addNode P G) {v0 : Nat} {v3 : Int32} {v4 : Int32} {μ : Mem}
    (h : (vp_in (μ.1 v0 8) 83 ∧ G 48 [rf 11 v0, un, un, un, vi v4] [] (upI μ (v0 + 8) (μ.1 v0 8).toNatClampNeg v3))) :
    G 38 [rf 11 v0, un, un, vi v3, vi v4] [] μ := seg hC [(28, [1]), (38, [1, 2]), (48, [1, 2, 3]), (59, [1, 2, 3]), (92, [1, 2, 3, 4])] 9 rfl h
theorem g_Ne_addNode_48 {lay : List Nat} {d : Nat} {P : PT} {G : KT} (hC : Clo lay d mNe_addNode P G) {v0 : Nat} {v4 : Int32} {μ : Mem}
    (h : (vp_in (μ.1 v0 8) 83 ∧ G 59 [rf 11 v0, un, un, un, vi v4] [] (upI μ (v0 + 9) (μ.1 v0 8).toNatClampNeg v4))) :
    G 48 [rf 11 v0, un, un, un, vi v4] [] μ := seg hC [(28, [1]), (38, [1, 2]), (48, [1, 2, 3]), (59, [1, 2, 3]), (92, [1, 2, 3, 4])] 9 rfl h
theorem g_Ne_addNode_59 {lay : List Nat} {d : Nat} {P : PT} {G : KT} (hC : Clo lay d mNe_addNode P G) {v0 : Nat} {v4 : Int32} {μ : Mem}
    (h : ((v4 ≤ 0 → (vp_in (μ.1 v0 8) 83 ∧ G 92 [rf 11 v0, un, un, un, un] [] (upI μ (v0 + 10) (μ.1 v0 8).toNatClampNeg (mI 0)))) ∧ (¬ v4 ≤ 0 → (((nI 5) < v4 → (vp_in (μ.1 v0 8) 83 ∧ G 92 [rf 11 v0, un, un, un, un] [] (upI μ (v0 + 10) (μ.1 v0 8).toNatClampNeg (mI 0)))) ∧ (¬ (nI 5) < v4 → (vp_in (v4 - (nI 1)) 5 ∧ (vp_in (μ.1 v0 8) 83 ∧ G 92 [rf 11 v0, un, un, un, un] [] (upI μ (v0 + 10) (μ.1 v0 8).toNatClampNeg (μ.1 (v0 + 11) (v4 - (nI 1)).toNatClampNeg))))))))) :
    G 59 [rf 11 v0, un, un, un, vi v4] [] μ := seg hC [(28, [1]), (38, [1, 2]), (48, [1, 2, 3]), (59, [1, 2, 3]), (92, [1, 2, 3, 4])] 20 rfl h
theorem g_Ne_addNode_92 {lay : List Nat} {d : Nat} {P : PT} {G : KT} (hC : Clo lay d mNe_addNode P G) {v0 : Nat} {μ : Mem}
    (h : P (some (vi (((upI μ v0 8 ((μ.1 v0 8) + (nI 1))).1 v0 8) - (nI 1)))) (upI μ v0 8 ((μ.1 v0 8) + (nI 1)))) :
    G 92 [rf 11 v0, un, un, un, un] [] μ := seg hC [(28, [1]), (38, [1, 2]), (48, [1, 2, 3]), (59, [1, 2, 3]), (92, [1, 2, 3, 4])] 14 rfl h
theorem ok_Ne_isPiece : okB mNe_isPiece = true := by decide +kernel
theorem g_Ne_isPiece_0 {lay : List Nat} {d : Nat} {P : PT} {G : KT} (hC : Clo lay d mNe_isPiece P G) {v0 : Nat} {v1 : Int32} {μ : Mem}
    (h : (vp_in v1 83 ∧ (vp_in v1 83 ∧ (((μ.1 (v0 + 8) v1.toNatClampNeg) ≤ (μ.1 (v0 + 7) v1.toNatClampNeg) → P (some (vi (nI 0))) μ) ∧ (¬ (μ.1 (v0 + 8) v1.toNatClampNeg) ≤ (μ.1 (v0 + 7) v1.toNatClampNeg) → P (some (vi (nI 1))) μ))))) :
    G 0 [rf 11 v0, vi v1] [] μ := seg hC [] 15 rfl (⟨h.1, ⟨h.2.1, ⟨fun q1 => ⟨Or.inl (by decide), (h.2.2.1 q1)⟩, fun q1 => ⟨Or.inr (by decide), (h.2.2.2 q1)⟩⟩⟩⟩)
theorem ok_Ne_piecesOf : okB mNe_piecesOf = true := by decide +kernel
theorem g_Ne_piecesOf_0 {lay : List Nat} {d : Nat} {P : PT} {G : KT} (hC : Clo lay (d + 1) mNe_piecesOf P G) {v0 : Nat} {v1 : Int32} {μ : Mem}
    (h : G 4 [rf 11 v0, vi v1, vi (nI 0), vi (nI 0)] [] μ) :
    G 0 [rf 11 v0, vi v1, un, un] [] μ := seg hC [(4, [])] 7 rfl h
theorem g_Ne_piecesOf_4 {lay : List Nat} {d : Nat} {P : PT} {G : KT} (hC : Clo lay (d + 1) mNe_piecesOf P G) {v0 : Nat} {v1 : Int32} {v2 : Int32} {v3 : Int32} {μ : Mem}
    (h : (((μ.1 v0 8) ≤ v3 → P (some (vi v2)) μ) ∧ (¬ (μ.1 v0 8) ≤ v3 → (vp_in v3 83 ∧ ((¬ (μ.1 (v0 + 6) v3.toNatClampNeg) = v1 → G 4 [rf 11 v0, vi v1, vi v2, vi (v3 + nI 1)] [] μ) ∧ ((μ.1 (v0 + 6) v3.toNatClampNeg) = v1 → (∃ P24 : PT, Rn lay d mNe_isPiece [rf 11 v0, vi v3] μ P24 ∧ ∀ (x24 : Int32) (μ24 : Mem), P24 (some (vi x24)) μ24 → ((x24 = 0 → G 4 [rf 11 v0, vi v1, vi v2, vi (v3 + nI 1)] [] μ24) ∧ (¬ x24 = 0 → G 4 [rf 11 v0, vi v1, vi (v2 + nI 1), vi (v3 + nI 1)] [] μ24))))))))) :
    G 4 [rf 11 v0, vi v1, vi v2, vi v3] [] μ := seg hC [(4, [])] 20 rfl h
theorem ok_Ne_breakUp : okB mNe_breakUp = true := by decide +kernel
theorem g_Ne_breakUp_0 {lay : List Nat} {d : Nat} {P : PT} {G : KT} (hC : Clo lay (d + 1) mNe_breakUp P G) {v0 : Nat} {v1 : Int32} {v2 : Nat} {μ : Mem}
    (h : (∃ P2 : PT, Rn lay d mTe_has [rf 13 v2, vi v1] μ P2 ∧ ∀ (x2 : Int32) (μ2 : Mem), P2 (some (vi x2)) μ2 → ((¬ x2 = 0 → G 14 [rf 11 v0, vi v1, rf 13 v2, vi (nI 1), vi (nI 0)] [] μ2) ∧ (x2 = 0 → P none μ2)))) :
    G 0 [rf 11 v0, vi v1, rf 13 v2, un, un] [] μ := seg hC [(14, [])] 11 rfl h
theorem g_Ne_breakUp_14 {lay : List Nat} {d : Nat} {P : PT} {G : KT} (hC : Clo lay (d + 1) mNe_breakUp P G) {v0 : Nat} {v1 : Int32} {v2 : Nat} {v3 : Int32} {v4 : Int32} {μ : Mem}
    (h : (((μ.1 v0 8) ≤ v4 → P none μ) ∧ (¬ (μ.1 v0 8) ≤ v4 → (vp_in v4 83 ∧ ((¬ (μ.1 (v0 + 6) v4.toNatClampNeg) = v1 → G 14 [rf 11 v0, vi v1, rf 13 v2, vi v3, vi (v4 + nI 1)] [] μ) ∧ ((μ.1 (v0 + 6) v4.toNatClampNeg) = v1 → (∃ P37 : PT, Rn lay d mNe_isPiece [rf 11 v0, vi v4] μ P37 ∧ ∀ (x37 : Int32) (μ37 : Mem), P37 (some (vi x37)) μ37 → ((¬ x37 = 0 → ((v3 = 0 → (vp_in v1 8 ∧ (vp_in v4 83 ∧ (vp_in v4 83 ∧ (∃ P93 : PT, Rn lay d mTe_append [rf 13 v2, vi (μ37.1 (v2 + 1) v1.toNatClampNeg), vi (μ37.1 (v0 + 7) v4.toNatClampNeg), vi (μ37.1 (v0 + 8) v4.toNatClampNeg)] μ37 P93 ∧ ∀ (x93 : Int32) (μ93 : Mem), P93 (some (vi x93)) μ93 → G 14 [rf 11 v0, vi v1, rf 13 v2, vi (nI 0), vi (v4 + nI 1)] [] μ93))))) ∧ (¬ v3 = 0 → (vp_in v4 83 ∧ (vp_in v4 83 ∧ (∃ P66 : PT, Rn lay d mTe_lay [rf 13 v2, vi v1, vi (μ37.1 (v0 + 7) v4.toNatClampNeg), vi (μ37.1 (v0 + 8) v4.toNatClampNeg)] μ37 P66 ∧ ∀ μ66 : Mem, P66 none μ66 → G 14 [rf 11 v0, vi v1, rf 13 v2, vi (nI 0), vi (v4 + nI 1)] [] μ66)))))) ∧ (x37 = 0 → G 14 [rf 11 v0, vi v1, rf 13 v2, vi v3, vi (v4 + nI 1)] [] μ37))))))))) :
    G 14 [rf 11 v0, vi v1, rf 13 v2, vi v3, vi v4] [] μ := seg hC [(14, [])] 38 rfl h
theorem ok_Ne_greatestDepth : okB mNe_greatestDepth = true := by decide +kernel
theorem g_Ne_greatestDepth_0 {lay : List Nat} {d : Nat} {P : PT} {G : KT} (hC : Clo lay d mNe_greatestDepth P G) {v0 : Nat} {μ : Mem}
    (h : G 4 [rf 11 v0, vi (nI 0), vi (nI 0)] [] μ) :
    G 0 [rf 11 v0, un, un] [] μ := seg hC [(4, [])] 7 rfl h
theorem g_Ne_greatestDepth_4 {lay : List Nat} {d : Nat} {P : PT} {G : KT} (hC : Clo lay d mNe_greatestDepth P G) {v0 : Nat} {v1 : Int32} {v2 : Int32} {μ : Mem}
    (h : (((μ.1 v0 8) ≤ v2 → P (some (vi v1)) μ) ∧ (¬ (μ.1 v0 8) ≤ v2 → (vp_in v2 83 ∧ G 4 [rf 11 v0, vi (if v1 < μ.1 (v0 + 9) v2.toNatClampNeg then μ.1 (v0 + 9) v2.toNatClampNeg else v1), vi (v2 + nI 1)] [] μ)))) :
    G 4 [rf 11 v0, vi v1, vi v2] [] μ := seg hC [(4, [])] 16 rfl h
theorem ok_Ne_depthsTogether : okB mNe_depthsTogether = true := by decide +kernel
theorem g_Ne_depthsTogether_0 {lay : List Nat} {d : Nat} {P : PT} {G : KT} (hC : Clo lay d mNe_depthsTogether P G) {v0 : Nat} {μ : Mem}
    (h : G 4 [rf 11 v0, vi (nI 0), vi (nI 0)] [] μ) :
    G 0 [rf 11 v0, un, un] [] μ := seg hC [(4, [])] 7 rfl h
theorem g_Ne_depthsTogether_4 {lay : List Nat} {d : Nat} {P : PT} {G : KT} (hC : Clo lay d mNe_depthsTogether P G) {v0 : Nat} {v1 : Int32} {v2 : Int32} {μ : Mem}
    (h : (((μ.1 v0 8) ≤ v2 → P (some (vi v1)) μ) ∧ (¬ (μ.1 v0 8) ≤ v2 → (vp_in v2 83 ∧ G 4 [rf 11 v0, vi (v1 + (μ.1 (v0 + 9) v2.toNatClampNeg)), vi (v2 + nI 1)] [] μ)))) :
    G 4 [rf 11 v0, vi v1, vi v2] [] μ := seg hC [(4, [])] 16 rfl h
theorem ok_Ne_howManyEmpty : okB mNe_howManyEmpty = true := by decide +kernel
theorem g_Ne_howManyEmpty_0 {lay : List Nat} {d : Nat} {P : PT} {G : KT} (hC : Clo lay (d + 1) mNe_howManyEmpty P G) {v0 : Nat} {μ : Mem}
    (h : G 4 [rf 11 v0, vi (nI 0), vi (nI 0)] [] μ) :
    G 0 [rf 11 v0, un, un] [] μ := seg hC [(4, [])] 7 rfl h
theorem g_Ne_howManyEmpty_4 {lay : List Nat} {d : Nat} {P : PT} {G : KT} (hC : Clo lay (d + 1) mNe_howManyEmpty P G) {v0 : Nat} {v1 : Int32} {v2 : Int32} {μ : Mem}
    (h : (((μ.1 v0 8) ≤ v2 → P (some (vi v1)) μ) ∧ (¬ (μ.1 v0 8) ≤ v2 → (∃ P14 : PT, Rn lay d mNe_isPiece [rf 11 v0, vi v2] μ P14 ∧ ∀ (x14 : Int32) (μ14 : Mem), P14 (some (vi x14)) μ14 → ((¬ x14 = 0 → G 4 [rf 11 v0, vi v1, vi (v2 + nI 1)] [] μ14) ∧ (x14 = 0 → G 4 [rf 11 v0, vi (v1 + nI 1), vi (v2 + nI 1)] [] μ14)))))) :
    G 4 [rf 11 v0, vi v1, vi v2] [] μ := seg hC [(4, [])] 14 rfl h
theorem ok_Ne_longest : okB mNe_longest = true := by decide +kernel
theorem g_Ne_longest_0 {lay : List Nat} {d : Nat} {P : PT} {G : KT} (hC : Clo lay d mNe_longest P G) {v0 : Nat} {μ : Mem}
    (h : G 4 [rf 11 v0, vi (nI 0), vi (nI 0)] [] μ) :
    G 0 [rf 11 v0, un, un] [] μ := seg hC [(4, [])] 7 rfl h
theorem g_Ne_longest_4 {lay : List Nat} {d : Nat} {P : PT} {G : KT} (hC : Clo lay d mNe_longest P G) {v0 : Nat} {v1 : Int32} {v2 : Int32} {μ : Mem}
    (h : (((μ.1 v0 8) ≤ v2 → P (some (vi v1)) μ) ∧ (¬ (μ.1 v0 8) ≤ v2 → (vp_in v2 83 ∧ (vp_in v2 83 ∧ G 4 [rf 11 v0, vi (if v1 < (μ.1 (v0 + 8) v2.toNatClampNeg) - (μ.1 (v0 + 7) v2.toNatClampNeg) then (μ.1 (v0 + 8) v2.toNatClampNeg) - (μ.1 (v0 + 7) v2.toNatClampNeg) else v1), vi (v2 + nI 1)] [] μ))))) :
    G 4 [rf 11 v0, vi v1, vi v2] [] μ := seg hC [(4, [])] 21 rfl h
theorem ok_Ne_howManyInNone : okB mNe_howManyInNone = true := by decide +kernel
theorem g_Ne_howManyInNone_0 {lay : List Nat} {d : Nat} {P : PT} {G : KT} (hC : Clo lay d mNe_howManyInNone P G) {v0 : Nat} {μ : Mem}
    (h : G 4 [rf 11 v0, vi (nI 0), vi (nI 0)] [] μ) :
    G 0 [rf 11 v0, un, un] [] μ := seg hC [(4, [])] 7 rfl h
theorem g_Ne_howManyInNone_4 {lay : List Nat} {d : Nat} {P : PT} {G : KT} (hC : Clo lay d mNe_howManyInNone P G) {v0 : Nat} {v1 : Int32} {v2 : Int32} {μ : Mem}
    (h : (((μ.1 v0 8) ≤ v2 → P (some (vi v1)) μ) ∧ (¬ (μ.1 v0 8) ≤ v2 → (vp_in v2 83 ∧ ((¬ (μ.1 (v0 + 9) v2.toNatClampNeg) = 0 → G 4 [rf 11 v0, vi v1, vi (v2 + nI 1)] [] μ) ∧ ((μ.1 (v0 + 9) v2.toNatClampNeg) = 0 → G 4 [rf 11 v0, vi (v1 + nI 1), vi (v2 + nI 1)] [] μ)))))) :
    G 4 [rf 11 v0, vi v1, vi v2] [] μ := seg hC [(4, [])] 15 rfl h
