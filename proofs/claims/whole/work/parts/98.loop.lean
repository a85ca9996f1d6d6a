/-! the law's loop -/
section LAW4
variable {p : Program} {l : Launch} {e : Env} {s : State} {m : MethodId} {below : List Frame} {meth : Method} {c : Code} {b L : Nat} {xs : Nat → Int32} {D : va_G} {aX aM : Nat → Nat} {cX cM : Nat → ClassId}
theorem l_gt {i : Nat} (hL : L ≤ 2048) (hi : i ≤ 2052) : (nI L - nI 4 < nI i) = (L < i + 4) := by
  rcases Nat.lt_or_ge L 4 with h | h
  · refine propext ⟨fun _ => by omega, fun _ => ?_⟩
    rw [i_lt, nI_ti (by omega)]
    rcases (show L = 0 ∨ L = 1 ∨ L = 2 ∨ L = 3 by omega) with q | q | q | q <;> subst q
    · have : (nI 0 - nI 4).toInt = -4 := by decide +kernel
      omega
    · have : (nI 1 - nI 4).toInt = -3 := by decide +kernel
      omega
    · have : (nI 2 - nI 4).toInt = -2 := by decide +kernel
      omega
    · have : (nI 3 - nI 4).toInt = -1 := by decide +kernel
      omega
  · rw [nx_sub h, nx_lt (by omega) (by omega)]
    exact propext ⟨fun _ => by omega, fun _ => by omega⟩
theorem l_head (C0 : lw_At p s m meth c b L xs) (hL : L ≤ 2048) (F : LF s D aX aM cX cM) {ls : Array Slot} {i : Nat} (hlv : lv_has ls 4 [(3, .int (nI i)), (2, .ref (aM 0)), (1, .ref (aX 0)), (0, .ref b)]) (hi : i ≤ 2052) (hk : i + 4 ≤ L → LG p l e s m below meth c (lw_Z below #[Value.ref b] s) b D aX aM cX cM ls 811) : LG p l e s m below meth c (lw_Z below #[Value.ref b] s) b D aX aM cX cM ls 18 := by
  intro S H locs hI
  have hS := hI.choose_spec.choose_spec.2.2.2.2
  refine lv_iload_n C0.1 C0.2.1 (by decide +kernel : decode code 18 = .ok (.iload_n 3, 1)) rfl (lv_at hlv 0 rfl) ?_
  refine lv_aload_n C0.1 C0.2.1 (by decide +kernel : decode code 19 = .ok (.aload_n 0, 1)) rfl (lv_at hlv 3 rfl) ?_
  refine va_slen C0.1 C0.2.1 C0.2.2.2.2.2.2.1 C0.2.2.2.2.2.2.2.1 (Nat.not_le.mpr C0.2.2.2.2.2.2.2.1) hS (by decide +kernel : decode code 20 = .ok (.arraylength, 1)) ?_
  refine lv_iconst C0.1 C0.2.1 (v := nI 4) (by decide +kernel : decode code 21 = .ok (.iconst 4, 1)) (by decide +kernel) ?_
  refine lv_isub C0.1 C0.2.1 (by decide +kernel : decode code 22 = .ok (.isub, 1)) ?_
  refine lv_icmp_gt C0.1 C0.2.1 (tgt := 817) (by decide +kernel : decode code 23 = .ok (.if_icmp .gt 794, 3)) (by decide) (fun _ => ?_) (fun q => ?_)
  · refine lv_iconst C0.1 C0.2.1 (v := 1) (by decide +kernel : decode code 817 = .ok (.iconst 1, 1)) (by decide +kernel) ?_
    refine va_forget (fun q hq => hS.2.2 q hq) ?_
    refine W.widen (k := 600000) (n := 7302250) (by decide) (by decide) ?_
    exact lw_ret C0.1 C0.2.1 C0.2.2.1 C0.2.2.2.2.2.2.2.2.1 (by decide +kernel : decode code 818 = .ok (.ireturn, 1))
  · have q : ¬ (nI L - nI 4 < nI i) := q
    rw [l_gt hL hi] at q
    have hi4 : i + 4 ≤ L := by omega
    have hk := hk hi4
    refine lv_aload_n C0.1 C0.2.1 (by decide +kernel : decode code 26 = .ok (.aload_n 0, 1)) rfl (lv_at hlv 3 rfl) ?_
    refine lv_iload_n C0.1 C0.2.1 (by decide +kernel : decode code 27 = .ok (.iload_n 3, 1)) rfl (lv_at hlv 0 rfl) ?_
    refine va_sld C0.1 C0.2.1 C0.2.2.2.2.2.2.1 C0.2.2.2.2.2.2.2.1 (Nat.not_le.mpr C0.2.2.2.2.2.2.2.1) hS (by rw [nx_in' (by omega) (by omega)]; omega) (by decide +kernel : decode code 28 = .ok (.iaload, 1)) ?_
    refine lv_bipush C0.1 C0.2.1 (v := nI 31) (by decide +kernel : decode code 29 = .ok (.bipush 31, 2)) (by decide +kernel) ?_
    refine lv_iand C0.1 C0.2.1 (by decide +kernel : decode code 31 = .ok (.iand, 1)) ?_
    generalize xs (nI i).toNatClampNeg &&& nI 31 = v
    by_cases h1 : v.toInt < 0
    · exact lv_tableOut C0.1 C0.2.1 (tgt := 811) (by decide +kernel : decode code 32 = .ok (.tableswitch 779 0 25 #[120, 143, 186, 209, 252, 285, 318, 351, 384, 407, 430, 443, 476, 499, 532, 565, 578, 591, 604, 617, 640, 653, 686, 709, 742, 765], 120)) (Or.inl h1) (by decide) (hk S H locs hI)
    by_cases h2 : 25 < v.toInt
    · exact lv_tableOut C0.1 C0.2.1 (tgt := 811) (by decide +kernel : decode code 32 = .ok (.tableswitch 779 0 25 #[120, 143, 186, 209, 252, 285, 318, 351, 384, 407, 430, 443, 476, 499, 532, 565, 578, 591, 604, 617, 640, 653, 686, 709, 742, 765], 120)) (Or.inr h2) (by decide) (hk S H locs hI)
    obtain ⟨k, hk1, hk2⟩ : ∃ k : Nat, (v.toInt - 0).toNat = k ∧ k < 26 := ⟨_, rfl, by omega⟩
    rcases (show k = 0 ∨ k = 1 ∨ k = 2 ∨ k = 3 ∨ k = 4 ∨ k = 5 ∨ k = 6 ∨ k = 7 ∨ k = 8 ∨ k = 9 ∨ k = 10 ∨ k = 11 ∨ k = 12 ∨ k = 13 ∨ k = 14 ∨ k = 15 ∨ k = 16 ∨ k = 17 ∨ k = 18 ∨ k = 19 ∨ k = 20 ∨ k = 21 ∨ k = 22 ∨ k = 23 ∨ k = 24 ∨ k = 25 by omega) with ee | ee | ee | ee | ee | ee | ee | ee | ee | ee | ee | ee | ee | ee | ee | ee | ee | ee | ee | ee | ee | ee | ee | ee | ee | ee
    · exact lv_tableIn C0.1 C0.2.1 (tgt := 152) (by decide +kernel : decode code 32 = .ok (.tableswitch 779 0 25 #[120, 143, 186, 209, 252, 285, 318, 351, 384, 407, 430, 443, 476, 499, 532, 565, 578, 591, 604, 617, 640, 653, 686, 709, 742, 765], 120)) h1 h2 (by rw [hk1, ee]; rfl) (by decide) (l_anew C0 hL F hlv hi4 hk S H locs hI)
    · exact lv_tableIn C0.1 C0.2.1 (tgt := 175) (by decide +kernel : decode code 32 = .ok (.tableswitch 779 0 25 #[120, 143, 186, 209, 252, 285, 318, 351, 384, 407, 430, 443, 476, 499, 532, 565, 578, 591, 604, 617, 640, 653, 686, 709, 742, 765], 120)) h1 h2 (by rw [hk1, ee]; rfl) (by decide) (l_range C0 hL F hlv hi4 hk S H locs hI)
    · exact lv_tableIn C0.1 C0.2.1 (tgt := 218) (by decide +kernel : decode code 32 = .ok (.tableswitch 779 0 25 #[120, 143, 186, 209, 252, 285, 318, 351, 384, 407, 430, 443, 476, 499, 532, 565, 578, 591, 604, 617, 640, 653, 686, 709, 742, 765], 120)) h1 h2 (by rw [hk1, ee]; rfl) (by decide) (l_drop C0 hL F hlv hi4 hk S H locs hI)
    · exact lv_tableIn C0.1 C0.2.1 (tgt := 241) (by decide +kernel : decode code 32 = .ok (.tableswitch 779 0 25 #[120, 143, 186, 209, 252, 285, 318, 351, 384, 407, 430, 443, 476, 499, 532, 565, 578, 591, 604, 617, 640, 653, 686, 709, 742, 765], 120)) h1 h2 (by rw [hk1, ee]; rfl) (by decide) (l_moves C0 hL F hlv hi4 hk S H locs hI)
    · exact lv_tableIn C0.1 C0.2.1 (tgt := 284) (by decide +kernel : decode code 32 = .ok (.tableswitch 779 0 25 #[120, 143, 186, 209, 252, 285, 318, 351, 384, 407, 430, 443, 476, 499, 532, 565, 578, 591, 604, 617, 640, 653, 686, 709, 742, 765], 120)) h1 h2 (by rw [hk1, ee]; rfl) (by decide) (l_kind C0 hL F hlv hi4 hk S H locs hI)
    · exact lv_tableIn C0.1 C0.2.1 (tgt := 317) (by decide +kernel : decode code 32 = .ok (.tableswitch 779 0 25 #[120, 143, 186, 209, 252, 285, 318, 351, 384, 407, 430, 443, 476, 499, 532, 565, 578, 591, 604, 617, 640, 653, 686, 709, 742, 765], 120)) h1 h2 (by rw [hk1, ee]; rfl) (by decide) (l_rank C0 hL F hlv hi4 hk S H locs hI)
    · exact lv_tableIn C0.1 C0.2.1 (tgt := 350) (by decide +kernel : decode code 32 = .ok (.tableswitch 779 0 25 #[120, 143, 186, 209, 252, 285, 318, 351, 384, 407, 430, 443, 476, 499, 532, 565, 578, 591, 604, 617, 640, 653, 686, 709, 742, 765], 120)) h1 h2 (by rw [hk1, ee]; rfl) (by decide) (l_puts C0 hL F hlv hi4 hk S H locs hI)
    · exact lv_tableIn C0.1 C0.2.1 (tgt := 383) (by decide +kernel : decode code 32 = .ok (.tableswitch 779 0 25 #[120, 143, 186, 209, 252, 285, 318, 351, 384, 407, 430, 443, 476, 499, 532, 565, 578, 591, 604, 617, 640, 653, 686, 709, 742, 765], 120)) h1 h2 (by rw [hk1, ee]; rfl) (by decide) (l_takes C0 hL F hlv hi4 hk S H locs hI)
    · exact lv_tableIn C0.1 C0.2.1 (tgt := 416) (by decide +kernel : decode code 32 = .ok (.tableswitch 779 0 25 #[120, 143, 186, 209, 252, 285, 318, 351, 384, 407, 430, 443, 476, 499, 532, 565, 578, 591, 604, 617, 640, 653, 686, 709, 742, 765], 120)) h1 h2 (by rw [hk1, ee]; rfl) (by decide) (l_joins C0 hL F hlv hi4 hk S H locs hI)
    · exact lv_tableIn C0.1 C0.2.1 (tgt := 439) (by decide +kernel : decode code 32 = .ok (.tableswitch 779 0 25 #[120, 143, 186, 209, 252, 285, 318, 351, 384, 407, 430, 443, 476, 499, 532, 565, 578, 591, 604, 617, 640, 653, 686, 709, 742, 765], 120)) h1 h2 (by rw [hk1, ee]; rfl) (by decide) (l_splits C0 hL F hlv hi4 hk S H locs hI)
    · exact lv_tableIn C0.1 C0.2.1 (tgt := 462) (by decide +kernel : decode code 32 = .ok (.tableswitch 779 0 25 #[120, 143, 186, 209, 252, 285, 318, 351, 384, 407, 430, 443, 476, 499, 532, 565, 578, 591, 604, 617, 640, 653, 686, 709, 742, 765], 120)) h1 h2 (by rw [hk1, ee]; rfl) (by decide) (l_undo C0 hL F hlv hi4 hk S H locs hI)
    · exact lv_tableIn C0.1 C0.2.1 (tgt := 475) (by decide +kernel : decode code 32 = .ok (.tableswitch 779 0 25 #[120, 143, 186, 209, 252, 285, 318, 351, 384, 407, 430, 443, 476, 499, 532, 565, 578, 591, 604, 617, 640, 653, 686, 709, 742, 765], 120)) h1 h2 (by rw [hk1, ee]; rfl) (by decide) (l_of C0 hL F hlv hi4 hk S H locs hI)
    · exact lv_tableIn C0.1 C0.2.1 (tgt := 508) (by decide +kernel : decode code 32 = .ok (.tableswitch 779 0 25 #[120, 143, 186, 209, 252, 285, 318, 351, 384, 407, 430, 443, 476, 499, 532, 565, 578, 591, 604, 617, 640, 653, 686, 709, 742, 765], 120)) h1 h2 (by rw [hk1, ee]; rfl) (by decide) (l_over C0 hL F hlv hi4 hk S H locs hI)
    · exact lv_tableIn C0.1 C0.2.1 (tgt := 531) (by decide +kernel : decode code 32 = .ok (.tableswitch 779 0 25 #[120, 143, 186, 209, 252, 285, 318, 351, 384, 407, 430, 443, 476, 499, 532, 565, 578, 591, 604, 617, 640, 653, 686, 709, 742, 765], 120)) h1 h2 (by rw [hk1, ee]; rfl) (by decide) (l_section C0 hL F hlv hi4 hk S H locs hI)
    · exact lv_tableIn C0.1 C0.2.1 (tgt := 564) (by decide +kernel : decode code 32 = .ok (.tableswitch 779 0 25 #[120, 143, 186, 209, 252, 285, 318, 351, 384, 407, 430, 443, 476, 499, 532, 565, 578, 591, 604, 617, 640, 653, 686, 709, 742, 765], 120)) h1 h2 (by rw [hk1, ee]; rfl) (by decide) (l_stack C0 hL F hlv hi4 hk S H locs hI)
    · exact lv_tableIn C0.1 C0.2.1 (tgt := 597) (by decide +kernel : decode code 32 = .ok (.tableswitch 779 0 25 #[120, 143, 186, 209, 252, 285, 318, 351, 384, 407, 430, 443, 476, 499, 532, 565, 578, 591, 604, 617, 640, 653, 686, 709, 742, 765], 120)) h1 h2 (by rw [hk1, ee]; rfl) (by decide) (l_least C0 hL F hlv hi4 hk S H locs hI)
    · exact lv_tableIn C0.1 C0.2.1 (tgt := 610) (by decide +kernel : decode code 32 = .ok (.tableswitch 779 0 25 #[120, 143, 186, 209, 252, 285, 318, 351, 384, 407, 430, 443, 476, 499, 532, 565, 578, 591, 604, 617, 640, 653, 686, 709, 742, 765], 120)) h1 h2 (by rw [hk1, ee]; rfl) (by decide) (l_ways C0 hL F hlv hi4 hk S H locs hI)
    · exact lv_tableIn C0.1 C0.2.1 (tgt := 623) (by decide +kernel : decode code 32 = .ok (.tableswitch 779 0 25 #[120, 143, 186, 209, 252, 285, 318, 351, 384, 407, 430, 443, 476, 499, 532, 565, 578, 591, 604, 617, 640, 653, 686, 709, 742, 765], 120)) h1 h2 (by rw [hk1, ee]; rfl) (by decide) (l_plain C0 hL F hlv hi4 hk S H locs hI)
    · exact lv_tableIn C0.1 C0.2.1 (tgt := 636) (by decide +kernel : decode code 32 = .ok (.tableswitch 779 0 25 #[120, 143, 186, 209, 252, 285, 318, 351, 384, 407, 430, 443, 476, 499, 532, 565, 578, 591, 604, 617, 640, 653, 686, 709, 742, 765], 120)) h1 h2 (by rw [hk1, ee]; rfl) (by decide) (l_free C0 hL F hlv hi4 hk S H locs hI)
    · exact lv_tableIn C0.1 C0.2.1 (tgt := 649) (by decide +kernel : decode code 32 = .ok (.tableswitch 779 0 25 #[120, 143, 186, 209, 252, 285, 318, 351, 384, 407, 430, 443, 476, 499, 532, 565, 578, 591, 604, 617, 640, 653, 686, 709, 742, 765], 120)) h1 h2 (by rw [hk1, ee]; rfl) (by decide) (l_without C0 hL F hlv hi4 hk S H locs hI)
    · exact lv_tableIn C0.1 C0.2.1 (tgt := 672) (by decide +kernel : decode code 32 = .ok (.tableswitch 779 0 25 #[120, 143, 186, 209, 252, 285, 318, 351, 384, 407, 430, 443, 476, 499, 532, 565, 578, 591, 604, 617, 640, 653, 686, 709, 742, 765], 120)) h1 h2 (by rw [hk1, ee]; rfl) (by decide) (l_nodes C0 hL F hlv hi4 hk S H locs hI)
    · exact lv_tableIn C0.1 C0.2.1 (tgt := 685) (by decide +kernel : decode code 32 = .ok (.tableswitch 779 0 25 #[120, 143, 186, 209, 252, 285, 318, 351, 384, 407, 430, 443, 476, 499, 532, 565, 578, 591, 604, 617, 640, 653, 686, 709, 742, 765], 120)) h1 h2 (by rw [hk1, ee]; rfl) (by decide) (l_node C0 hL F hlv hi4 hk S H locs hI)
    · exact lv_tableIn C0.1 C0.2.1 (tgt := 718) (by decide +kernel : decode code 32 = .ok (.tableswitch 779 0 25 #[120, 143, 186, 209, 252, 285, 318, 351, 384, 407, 430, 443, 476, 499, 532, 565, 578, 591, 604, 617, 640, 653, 686, 709, 742, 765], 120)) h1 h2 (by rw [hk1, ee]; rfl) (by decide) (l_all C0 hL F hlv hi4 hk S H locs hI)
    · exact lv_tableIn C0.1 C0.2.1 (tgt := 741) (by decide +kernel : decode code 32 = .ok (.tableswitch 779 0 25 #[120, 143, 186, 209, 252, 285, 318, 351, 384, 407, 430, 443, 476, 499, 532, 565, 578, 591, 604, 617, 640, 653, 686, 709, 742, 765], 120)) h1 h2 (by rw [hk1, ee]; rfl) (by decide) (l_draw C0 hL F hlv hi4 hk S H locs hI)
    · exact lv_tableIn C0.1 C0.2.1 (tgt := 774) (by decide +kernel : decode code 32 = .ok (.tableswitch 779 0 25 #[120, 143, 186, 209, 252, 285, 318, 351, 384, 407, 430, 443, 476, 499, 532, 565, 578, 591, 604, 617, 640, 653, 686, 709, 742, 765], 120)) h1 h2 (by rw [hk1, ee]; rfl) (by decide) (l_told C0 hL F hlv hi4 hk S H locs hI)
    · exact lv_tableIn C0.1 C0.2.1 (tgt := 797) (by decide +kernel : decode code 32 = .ok (.tableswitch 779 0 25 #[120, 143, 186, 209, 252, 285, 318, 351, 384, 407, 430, 443, 476, 499, 532, 565, 578, 591, 604, 617, 640, 653, 686, 709, 742, 765], 120)) h1 h2 (by rw [hk1, ee]; rfl) (by decide) (l_digest C0 hL F hlv hi4 hk S H locs hI)
theorem l_loop (C0 : lw_At p s m meth c b L xs) (hL : L ≤ 2048) (F : LF s D aX aM cX cM) : ∀ (n i : Nat) (ls : Array Slot), L ≤ i + n → i ≤ 2052 → lv_has ls 4 [(3, .int (nI i)), (2, .ref (aM 0)), (1, .ref (aX 0)), (0, .ref b)] → LG p l e s m below meth c (lw_Z below #[Value.ref b] s) b D aX aM cX cM ls 18
  | 0, i, ls, h, hi, hlv => l_head C0 hL F hlv hi (fun q => absurd q (by omega))
  | n + 1, i, ls, h, hi, hlv => l_head C0 hL F hlv hi (fun q S H locs hI => by
    refine lv_iinc C0.1 C0.2.1 (by decide +kernel : decode code 811 = .ok (.iinc 3 4, 3)) hlv (k := 0) rfl (v := nI (i + 4)) (by rw [show Int32.ofInt 4 = nI 4 from by decide +kernel, nI_add]) (by decide) rfl (fun ls2 hl2 => ?_)
    refine lv_goto C0.1 C0.2.1 (tgt := 18) (by decide +kernel : decode code 814 = .ok (.goto (-796), 3)) (by decide) ?_
    exact l_loop C0 hL F n (i + 4) ls2 (by omega) (by omega) hl2 S H locs hI)
end LAW4
