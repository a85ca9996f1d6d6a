theorem ok_St_at : okB mSt_at = true := by decide +kernel
theorem g_St_at_0 {lay : List Nat} {d : Nat} {r : Option TV} {μr : Mem} {G : KT} (hC : Clo lay d mSt_at r μr G) {v0 : Int32} {v1 : Int32} {μ : Mem}
    (h : ((v1 < 0 → (r = some (vi (mI 0)) ∧ μr = μ)) ∧ (¬ v1 < 0 → ((v1 < (nI 5) → (r = some (vi (((v0 >>> (((nI 4) * v1) &&& 31)) &&& (nI 15)) - (nI 1))) ∧ μr = μ)) ∧ (¬ v1 < (nI 5) → (r = some (vi (mI 0)) ∧ μr = μ)))))) :
    G 0 [vi v0, vi v1] [] μ := seg hC [] 18 rfl h
theorem ok_St_with : okB mSt_with = true := by decide +kernel
theorem g_St_with_0 {lay : List Nat} {d : Nat} {r : Option TV} {μr : Mem} {G : KT} (hC : Clo lay d mSt_with r μr G) {v0 : Int32} {v1 : Int32} {v2 : Int32} {μ : Mem}
    (h : ((v1 < 0 → (r = some (vi v0) ∧ μr = μ)) ∧ (¬ v1 < 0 → ((v1 < (nI 5) → (r = some (vi (v0 ||| ((v2 + (nI 1)) <<< (((nI 4) * v1) &&& 31)))) ∧ μr = μ)) ∧ (¬ v1 < (nI 5) → (r = some (vi v0) ∧ μr = μ)))))) :
    G 0 [vi v0, vi v1, vi v2] [] μ := seg hC [] 18 rfl h
theorem ok_St_alike : okB mSt_alike = true := by decide +kernel
theorem g_St_alike_0 {lay : List Nat} {d : Nat} {r : Option TV} {μr : Mem} {G : KT} (hC : Clo lay (d + 1) mSt_alike r μr G) {v0 : Int32} {v1 : Int32} {μ : Mem}
    (h : G 2 [vi v0, vi v1, vi (nI 0), un] [] μ) :
    G 0 [vi v0, vi v1, un, un] [] μ := seg hC [2] 5 rfl h
theorem g_St_alike_2 {lay : List Nat} {d : Nat} {r : Option TV} {μr : Mem} {G : KT} (hC : Clo lay (d + 1) mSt_alike r μr G) {v0 : Int32} {v1 : Int32} {v2 : Int32} {μ : Mem}
    (h : (((nI 5) ≤ v2 → (r = some (vi (nI 5)) ∧ μr = μ)) ∧ (¬ (nI 5) ≤ v2 → (∃ (x9 : Int32) (μ9 : Mem), Rn lay d mSt_at [vi v0, vi v2] μ (some (vi x9)) μ9 ∧ ((x9 = (mI 0) → (r = some (vi v2) ∧ μr = μ9)) ∧ (¬ x9 = (mI 0) → (∃ (x21 : Int32) (μ21 : Mem), Rn lay d mSt_at [vi v1, vi v2] μ9 (some (vi x21)) μ21 ∧ ((x9 = x21 → G 2 [vi v0, vi v1, vi (v2 + nI 1), vi x9] [] μ21) ∧ (¬ x9 = x21 → (r = some (vi v2) ∧ μr = μ21)))))))))) :
    G 2 [vi v0, vi v1, vi v2, un] [] μ := seg hC [2] 20 rfl h
