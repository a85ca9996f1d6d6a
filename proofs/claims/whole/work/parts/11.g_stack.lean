theorem ok_St_at : okB mSt_at = true := by decide +kernel
theorem g_St_at_0 {lay : List Nat} {d : Nat} {P : PT} {G : KT} (hC : Clo lay d mSt_at P G) {v0 : Int32} {v1 : Int32} {μ : Mem}
    (h : ((v1 < 0 → P (some (vi (mI 0))) μ) ∧ (¬ v1 < 0 → ((v1 < (nI 5) → P (some (vi (((v0 >>> (((nI 4) * v1) &&& 31)) &&& (nI 15)) - (nI 1)))) μ) ∧ (¬ v1 < (nI 5) → P (some (vi (mI 0))) μ))))) :
    G 0 [vi v0, vi v1] [] μ := seg hC [] 18 rfl h
theorem ok_St_with : okB mSt_with = true := by decide +kernel
theorem g_St_with_0 {lay : List Nat} {d : Nat} {P : PT} {G : KT} (hC : Clo lay d mSt_with P G) {v0 : Int32} {v1 : Int32} {v2 : Int32} {μ : Mem}
    (h : ((v1 < 0 → P (some (vi v0)) μ) ∧ (¬ v1 < 0 → ((v1 < (nI 5) → P (some (vi (v0 ||| ((v2 + (nI 1)) <<< (((nI 4) * v1) &&& 31))))) μ) ∧ (¬ v1 < (nI 5) → P (some (vi v0)) μ))))) :
    G 0 [vi v0, vi v1, vi v2] [] μ := seg hC [] 18 rfl h
theorem ok_St_alike : okB mSt_alike = true := by decide +kernel
theorem g_St_alike_0 {lay : List Nat} {d : Nat} {P : PT} {G : KT} (hC : Clo lay (d + 1) mSt_alike P G) {v0 : Int32} {v1 : Int32} {μ : Mem}
    (h : G 2 [vi v0, vi v1, vi (nI 0), un] [] μ) :
    G 0 [vi v0, vi v1, un, un] [] μ := seg hC [(2, [3])] 5 rfl h
theorem g_St_alike_2 {lay : List Nat} {d : Nat} {P : PT} {G : KT} (hC : Clo lay (d + 1) mSt_alike P G) {v0 : Int32} {v1 : Int32} {v2 : Int32} {μ : Mem}
    (h : (((nI 5) ≤ v2 → P (some (vi (nI 5))) μ) ∧ (¬ (nI 5) ≤ v2 → (∃ P9 : PT, Rn lay d mSt_at [vi v0, vi v2] μ P9 ∧ ∀ (x9 : Int32) (μ9 : Mem), P9 (some (vi x9)) μ9 → ((x9 = (mI 0) → P (some (vi v2)) μ9) ∧ (¬ x9 = (mI 0) → (∃ P21 : PT, Rn lay d mSt_at [vi v1, vi v2] μ9 P21 ∧ ∀ (x21 : Int32) (μ21 : Mem), P21 (some (vi x21)) μ21 → ((x9 = x21 → G 2 [vi v0, vi v1, vi (v2 + nI 1), un] [] μ21) ∧ (¬ x9 = x21 → P (some (vi v2)) μ21))))))))) :
    G 2 [vi v0, vi v1, vi v2, un] [] μ := seg hC [(2, [3])] 20 rfl h
