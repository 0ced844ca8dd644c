theorem ev_sumOfBoards {d : Nat} {h : am_H} (g : lay h) {f : Nat} (hf : f + 16 ≤ 47) : am_Ev (d + 0) mX8_sumOfBoards [.inr (29, 0), am_I (nI f)] h (.inl (some (am_I (sumN (fun b => h.2.1 30 0 (f + b)) 16)), h)) := by
  refine am_Ev.mk (by decide +kernel) rfl rfl (Nat.le_refl _) (Nat.le_refl _) ?_
  change am_At _ _ _ 0 [_, _, _, _] [] _ _
  refine am_iconst 0 (v := 0) dX8_sumOfBoards_0 (by decide) ?_
  refine am_istore_n dX8_sumOfBoards_1 (am_lb rfl) ?_
  change am_At _ _ _ 2 [_, _, _, _] [] _ _
  refine am_iconst 0 (v := 0) dX8_sumOfBoards_2 (by decide) ?_
  refine am_istore_n dX8_sumOfBoards_3 (am_lb rfl) ?_
  change am_At _ _ _ 4 [_, _, _, _] [] _ _
  have key := am_loop (Pr := fun k => am_At am_X0 (d) mX8_sumOfBoards 4 [some (.inr (29, 0)), some (am_I ((nI f))), some (am_I (sumN (fun b => h.2.1 30 0 (f + b)) k)), some (am_I (nI k))] [] (h) (.inl (some (am_I (sumN (fun b => h.2.1 30 0 (f + b)) 16)), h))) (16) ?_ ?_ 0 (by omega)
  · exact key
  · refine am_iload_n dX8_sumOfBoards_4 rfl ?_
    refine am_bipush 16 (v := 16) dX8_sumOfBoards_5 (by decide) ?_
    refine am_icmp_geT (20) 27 dX8_sumOfBoards_7 rfl (Int32.le_refl _) ?_
    refine am_iload_n dX8_sumOfBoards_27 rfl ?_
    exact am_iret dX8_sumOfBoards_28 rfl
  · intro k hk ih
    refine am_iload_n dX8_sumOfBoards_4 rfl ?_
    refine am_bipush 16 (v := 16) dX8_sumOfBoards_5 (by decide) ?_
    refine am_icmp_geF (20) 27 dX8_sumOfBoards_7 rfl (nI_ge (b := 16) hk (by omega)) ?_
    refine am_iload_n dX8_sumOfBoards_10 rfl ?_
    refine am_aload_n dX8_sumOfBoards_11 rfl ?_
    refine am_getR 8 0 30 dX8_sumOfBoards_12 fg_X8_11 (sh_29 g) (by decide) rfl (rf_29_0 g) ?_
    refine am_iload_n dX8_sumOfBoards_15 rfl ?_
    refine am_iload_n dX8_sumOfBoards_16 rfl ?_
    refine am_iadd dX8_sumOfBoards_17 ?_
    refine am_iald dX8_sumOfBoards_18 (am_ia.one (sh_30 g)) (by rw [nI_add]; exact vp_in_nI (by omega) (by omega)) ?_
    refine am_iadd dX8_sumOfBoards_19 ?_
    refine am_istore_n dX8_sumOfBoards_20 (am_lb rfl) ?_
    change am_At _ _ _ 21 [_, _, _, _] [] _ _
    refine am_iinc dX8_sumOfBoards_21 rfl (am_i1 k) ?_
    change am_At _ _ _ 24 [_, _, _, _] [] _ _
    refine am_goto (-20) 4 dX8_sumOfBoards_24 rfl ?_
    simpa [sumN_s, bitsN_s, nI_add, nI_clamp (show k < 2 ^ 31 by omega), nI_clamp (show f + k < 2 ^ 31 by omega)] using ih
theorem ev_bargesThrough {d : Nat} {h : am_H} (g : lay h) : am_Ev (d + 1) mX8_bargesThrough [.inr (29, 0)] h (.inl (some (am_I (sumN (fun b => if h.2.1 30 0 (35 + b) = 2 then 1 else 0) 4)), h)) := by
  refine am_Ev.mk (by decide +kernel) rfl rfl (Nat.le_refl _) (Nat.le_refl _) ?_
  change am_At _ _ _ 0 [_, _, _] [] _ _
  refine am_iconst 0 (v := 0) dX8_bargesThrough_0 (by decide) ?_
  refine am_istore_n dX8_bargesThrough_1 (am_lb rfl) ?_
  change am_At _ _ _ 2 [_, _, _] [] _ _
  refine am_iconst 0 (v := 0) dX8_bargesThrough_2 (by decide) ?_
  refine am_istore_n dX8_bargesThrough_3 (am_lb rfl) ?_
  change am_At _ _ _ 4 [_, _, _] [] _ _
  have key := am_loop (Pr := fun k => am_At am_X0 (d + 1) mX8_bargesThrough 4 [some (.inr (29, 0)), some (am_I (sumN (fun b => if h.2.1 30 0 (35 + b) = 2 then 1 else 0) k)), some (am_I (nI k))] [] (h) (.inl (some (am_I (sumN (fun b => if h.2.1 30 0 (35 + b) = 2 then 1 else 0) 4)), h))) (4) ?_ ?_ 0 (by omega)
  · exact key
  · refine am_iload_n dX8_bargesThrough_4 rfl ?_
    refine am_iconst 4 (v := 4) dX8_bargesThrough_5 (by decide) ?_
    refine am_icmp_geT (26) 32 dX8_bargesThrough_6 rfl (Int32.le_refl _) ?_
    refine am_iload_n dX8_bargesThrough_32 rfl ?_
    exact am_iret dX8_bargesThrough_33 rfl
  · intro k hk ih
    refine am_iload_n dX8_bargesThrough_4 rfl ?_
    refine am_iconst 4 (v := 4) dX8_bargesThrough_5 (by decide) ?_
    refine am_icmp_geF (26) 32 dX8_bargesThrough_6 rfl (nI_ge (b := 4) hk (by omega)) ?_
    refine am_iload_n dX8_bargesThrough_9 rfl ?_
    refine am_aload_n dX8_bargesThrough_10 rfl ?_
    refine am_iload_n dX8_bargesThrough_11 rfl ?_
    refine am_callV [_] dX8_bargesThrough_12 ml_X8_45 vm_X8_whereIs (sh_29 g) rfl (fun _ => Nat.le_of_ble_eq_true rfl) (by omega) rfl (ev_whereIs (d := d + 0) g (by rw [show (35 : Int32) = nI 35 from rfl, nI_add]; exact vp_in_nI (by omega) (by omega))) rfl ?_
    change am_At _ _ _ 15 [_, _, _] [_, _] _ _
    refine am_iconst 2 (v := 2) dX8_bargesThrough_15 (by decide) ?_
    refine am_icmp_ne (7) 23 dX8_bargesThrough_16 rfl ?_ ?_
    · intro hc1n
      have hc1n : ¬ ((h.2.1 30 0 (((35 : Int32) + (nI k)).toNatClampNeg)) = (2 : Int32)) := hc1n
      refine am_iconst 0 (v := 0) dX8_bargesThrough_23 (by decide) ?_
      refine am_iadd dX8_bargesThrough_24 ?_
      refine am_istore_n dX8_bargesThrough_25 (am_lb rfl) ?_
      change am_At _ _ _ 26 [_, _, _] [] _ _
      refine am_iinc dX8_bargesThrough_26 rfl (am_i1 k) ?_
      change am_At _ _ _ 29 [_, _, _] [] _ _
      refine am_goto (-25) 4 dX8_bargesThrough_29 rfl ?_
      have e35 : ((35 : Int32) + nI k).toNatClampNeg = 35 + k := by rw [show (35 : Int32) = nI 35 from rfl, nI_add]; exact nI_clamp (by omega)
      rw [e35] at hc1n
      rw [sumN_s] at ih
      simp only [if_neg hc1n] at ih
      exact ih
    · intro hc1
      have hc1 : (h.2.1 30 0 (((35 : Int32) + (nI k)).toNatClampNeg)) = (2 : Int32) := hc1
      refine am_iconst 1 (v := 1) dX8_bargesThrough_19 (by decide) ?_
      refine am_goto (4) 24 dX8_bargesThrough_20 rfl ?_
      refine am_iadd dX8_bargesThrough_24 ?_
      refine am_istore_n dX8_bargesThrough_25 (am_lb rfl) ?_
      change am_At _ _ _ 26 [_, _, _] [] _ _
      refine am_iinc dX8_bargesThrough_26 rfl (am_i1 k) ?_
      change am_At _ _ _ 29 [_, _, _] [] _ _
      refine am_goto (-25) 4 dX8_bargesThrough_29 rfl ?_
      have e35 : ((35 : Int32) + nI k).toNatClampNeg = 35 + k := by rw [show (35 : Int32) = nI 35 from rfl, nI_add]; exact nI_clamp (by omega)
      rw [e35] at hc1
      rw [sumN_s] at ih
      simp only [if_pos hc1] at ih
      exact ih
theorem ev_sumOfBoardsT {d : Nat} {h : am_H} (g : lay h) {f : Nat} (hf : f + 16 ≤ 47) : am_Ev (d + 0) mX8_sumOfBoards [.inr (39, 0), am_I (nI f)] h (.inl (some (am_I (sumN (fun b => h.2.1 40 0 (f + b)) 16)), h)) := by
  refine am_Ev.mk (by decide +kernel) rfl rfl (Nat.le_refl _) (Nat.le_refl _) ?_
  change am_At _ _ _ 0 [_, _, _, _] [] _ _
  refine am_iconst 0 (v := 0) dX8_sumOfBoards_0 (by decide) ?_
  refine am_istore_n dX8_sumOfBoards_1 (am_lb rfl) ?_
  change am_At _ _ _ 2 [_, _, _, _] [] _ _
  refine am_iconst 0 (v := 0) dX8_sumOfBoards_2 (by decide) ?_
  refine am_istore_n dX8_sumOfBoards_3 (am_lb rfl) ?_
  change am_At _ _ _ 4 [_, _, _, _] [] _ _
  have key := am_loop (Pr := fun k => am_At am_X0 (d) mX8_sumOfBoards 4 [some (.inr (39, 0)), some (am_I ((nI f))), some (am_I (sumN (fun b => h.2.1 40 0 (f + b)) k)), some (am_I (nI k))] [] (h) (.inl (some (am_I (sumN (fun b => h.2.1 40 0 (f + b)) 16)), h))) (16) ?_ ?_ 0 (by omega)
  · exact key
  · refine am_iload_n dX8_sumOfBoards_4 rfl ?_
    refine am_bipush 16 (v := 16) dX8_sumOfBoards_5 (by decide) ?_
    refine am_icmp_geT (20) 27 dX8_sumOfBoards_7 rfl (Int32.le_refl _) ?_
    refine am_iload_n dX8_sumOfBoards_27 rfl ?_
    exact am_iret dX8_sumOfBoards_28 rfl
  · intro k hk ih
    refine am_iload_n dX8_sumOfBoards_4 rfl ?_
    refine am_bipush 16 (v := 16) dX8_sumOfBoards_5 (by decide) ?_
    refine am_icmp_geF (20) 27 dX8_sumOfBoards_7 rfl (nI_ge (b := 16) hk (by omega)) ?_
    refine am_iload_n dX8_sumOfBoards_10 rfl ?_
    refine am_aload_n dX8_sumOfBoards_11 rfl ?_
    refine am_getR 8 0 40 dX8_sumOfBoards_12 fg_X8_11 (sh_39 g) (by decide) rfl (rf_39_0 g) ?_
    refine am_iload_n dX8_sumOfBoards_15 rfl ?_
    refine am_iload_n dX8_sumOfBoards_16 rfl ?_
    refine am_iadd dX8_sumOfBoards_17 ?_
    refine am_iald dX8_sumOfBoards_18 (am_ia.one (sh_40 g)) (by rw [nI_add]; exact vp_in_nI (by omega) (by omega)) ?_
    refine am_iadd dX8_sumOfBoards_19 ?_
    refine am_istore_n dX8_sumOfBoards_20 (am_lb rfl) ?_
    change am_At _ _ _ 21 [_, _, _, _] [] _ _
    refine am_iinc dX8_sumOfBoards_21 rfl (am_i1 k) ?_
    change am_At _ _ _ 24 [_, _, _, _] [] _ _
    refine am_goto (-20) 4 dX8_sumOfBoards_24 rfl ?_
    simpa [sumN_s, bitsN_s, nI_add, nI_clamp (show k < 2 ^ 31 by omega), nI_clamp (show f + k < 2 ^ 31 by omega)] using ih
theorem ev_bargesThroughT {d : Nat} {h : am_H} (g : lay h) : am_Ev (d + 1) mX8_bargesThrough [.inr (39, 0)] h (.inl (some (am_I (sumN (fun b => if h.2.1 40 0 (35 + b) = 2 then 1 else 0) 4)), h)) := by
  refine am_Ev.mk (by decide +kernel) rfl rfl (Nat.le_refl _) (Nat.le_refl _) ?_
  change am_At _ _ _ 0 [_, _, _] [] _ _
  refine am_iconst 0 (v := 0) dX8_bargesThrough_0 (by decide) ?_
  refine am_istore_n dX8_bargesThrough_1 (am_lb rfl) ?_
  change am_At _ _ _ 2 [_, _, _] [] _ _
  refine am_iconst 0 (v := 0) dX8_bargesThrough_2 (by decide) ?_
  refine am_istore_n dX8_bargesThrough_3 (am_lb rfl) ?_
  change am_At _ _ _ 4 [_, _, _] [] _ _
  have key := am_loop (Pr := fun k => am_At am_X0 (d + 1) mX8_bargesThrough 4 [some (.inr (39, 0)), some (am_I (sumN (fun b => if h.2.1 40 0 (35 + b) = 2 then 1 else 0) k)), some (am_I (nI k))] [] (h) (.inl (some (am_I (sumN (fun b => if h.2.1 40 0 (35 + b) = 2 then 1 else 0) 4)), h))) (4) ?_ ?_ 0 (by omega)
  · exact key
  · refine am_iload_n dX8_bargesThrough_4 rfl ?_
    refine am_iconst 4 (v := 4) dX8_bargesThrough_5 (by decide) ?_
    refine am_icmp_geT (26) 32 dX8_bargesThrough_6 rfl (Int32.le_refl _) ?_
    refine am_iload_n dX8_bargesThrough_32 rfl ?_
    exact am_iret dX8_bargesThrough_33 rfl
  · intro k hk ih
    refine am_iload_n dX8_bargesThrough_4 rfl ?_
    refine am_iconst 4 (v := 4) dX8_bargesThrough_5 (by decide) ?_
    refine am_icmp_geF (26) 32 dX8_bargesThrough_6 rfl (nI_ge (b := 4) hk (by omega)) ?_
    refine am_iload_n dX8_bargesThrough_9 rfl ?_
    refine am_aload_n dX8_bargesThrough_10 rfl ?_
    refine am_iload_n dX8_bargesThrough_11 rfl ?_
    refine am_callV [_] dX8_bargesThrough_12 ml_X8_45 vm_X8_whereIs (sh_39 g) rfl (fun _ => Nat.le_of_ble_eq_true rfl) (by omega) rfl (ev_whereIsT (d := d + 0) g (by rw [show (35 : Int32) = nI 35 from rfl, nI_add]; exact vp_in_nI (by omega) (by omega))) rfl ?_
    change am_At _ _ _ 15 [_, _, _] [_, _] _ _
    refine am_iconst 2 (v := 2) dX8_bargesThrough_15 (by decide) ?_
    refine am_icmp_ne (7) 23 dX8_bargesThrough_16 rfl ?_ ?_
    · intro hc1n
      have hc1n : ¬ ((h.2.1 40 0 (((35 : Int32) + (nI k)).toNatClampNeg)) = (2 : Int32)) := hc1n
      refine am_iconst 0 (v := 0) dX8_bargesThrough_23 (by decide) ?_
      refine am_iadd dX8_bargesThrough_24 ?_
      refine am_istore_n dX8_bargesThrough_25 (am_lb rfl) ?_
      change am_At _ _ _ 26 [_, _, _] [] _ _
      refine am_iinc dX8_bargesThrough_26 rfl (am_i1 k) ?_
      change am_At _ _ _ 29 [_, _, _] [] _ _
      refine am_goto (-25) 4 dX8_bargesThrough_29 rfl ?_
      have e35 : ((35 : Int32) + nI k).toNatClampNeg = 35 + k := by rw [show (35 : Int32) = nI 35 from rfl, nI_add]; exact nI_clamp (by omega)
      rw [e35] at hc1n
      rw [sumN_s] at ih
      simp only [if_neg hc1n] at ih
      exact ih
    · intro hc1
      have hc1 : (h.2.1 40 0 (((35 : Int32) + (nI k)).toNatClampNeg)) = (2 : Int32) := hc1
      refine am_iconst 1 (v := 1) dX8_bargesThrough_19 (by decide) ?_
      refine am_goto (4) 24 dX8_bargesThrough_20 rfl ?_
      refine am_iadd dX8_bargesThrough_24 ?_
      refine am_istore_n dX8_bargesThrough_25 (am_lb rfl) ?_
      change am_At _ _ _ 26 [_, _, _] [] _ _
      refine am_iinc dX8_bargesThrough_26 rfl (am_i1 k) ?_
      change am_At _ _ _ 29 [_, _, _] [] _ _
      refine am_goto (-25) 4 dX8_bargesThrough_29 rfl ?_
      have e35 : ((35 : Int32) + nI k).toNatClampNeg = 35 + k := by rw [show (35 : Int32) = nI 35 from rfl, nI_add]; exact nI_clamp (by omega)
      rw [e35] at hc1
      rw [sumN_s] at ih
      simp only [if_pos hc1] at ih
      exact ih
theorem ev_lowerThan {d : Nat} {h : am_H} (g : lay h) {n : Nat} (hn : h.2.1 3 0 0 = nI n) (hn16 : n ≤ 16) {a : Int32} : am_Ev (d + 0) mX1_lowerThan [.inr (3, 0), am_I a] h (.inl (some (am_I (bitsN (fun b => decide (h.2.1 4 0 b < a)) n)), h)) := by
  refine am_Ev.mk (by decide +kernel) rfl rfl (Nat.le_refl _) (Nat.le_refl _) ?_
  change am_At _ _ _ 0 [_, _, _, _] [] _ _
  refine am_iconst 0 (v := 0) dX1_lowerThan_0 (by decide) ?_
  refine am_istore_n dX1_lowerThan_1 (am_lb rfl) ?_
  change am_At _ _ _ 2 [_, _, _, _] [] _ _
  refine am_iconst 0 (v := 0) dX1_lowerThan_2 (by decide) ?_
  refine am_istore_n dX1_lowerThan_3 (am_lb rfl) ?_
  change am_At _ _ _ 4 [_, _, _, _] [] _ _
  have key := am_loop (Pr := fun k => am_At am_X0 (d) mX1_lowerThan 4 [some (.inr (3, 0)), some (am_I (a)), some (am_I (bitsN (fun b => decide (h.2.1 4 0 b < a)) k)), some (am_I (nI k))] [] (h) (.inl (some (am_I (bitsN (fun b => decide (h.2.1 4 0 b < a)) n)), h))) (n) ?_ ?_ 0 (by omega)
  · exact key
  · refine am_iload_n dX1_lowerThan_4 rfl ?_
    refine am_aload_n dX1_lowerThan_5 rfl ?_
    refine am_getI 1 0 dX1_lowerThan_6 fg_X1_46 (sh_3 g) (by decide) rfl ?_
    refine am_icmp_geT (29) 38 dX1_lowerThan_9 rfl (by rw [hn]; exact Int32.le_refl _) ?_
    refine am_iload_n dX1_lowerThan_38 rfl ?_
    exact am_iret dX1_lowerThan_39 rfl
  · intro k hk ih
    refine am_iload_n dX1_lowerThan_4 rfl ?_
    refine am_aload_n dX1_lowerThan_5 rfl ?_
    refine am_getI 1 0 dX1_lowerThan_6 fg_X1_46 (sh_3 g) (by decide) rfl ?_
    refine am_icmp_geF (29) 38 dX1_lowerThan_9 rfl (by rw [hn]; exact nI_ge hk (by omega)) ?_
    refine am_iload_n dX1_lowerThan_12 rfl ?_
    refine am_aload_n dX1_lowerThan_13 rfl ?_
    refine am_getR 1 1 4 dX1_lowerThan_14 fg_X1_9 (sh_3 g) (by decide) rfl (rf_3_1 g) ?_
    refine am_iload_n dX1_lowerThan_17 rfl ?_
    refine am_iald dX1_lowerThan_18 (am_ia.one (sh_4 g)) (vp_in_nI (by omega) (by omega)) ?_
    refine am_iload_n dX1_lowerThan_19 rfl ?_
    refine am_icmp_ge (9) 29 dX1_lowerThan_20 rfl ?_ ?_
    · intro hc1
      have hc1 : a ≤ (h.2.1 4 0 ((nI k).toNatClampNeg)) := hc1
      refine am_iconst 0 (v := 0) dX1_lowerThan_29 (by decide) ?_
      refine am_ior dX1_lowerThan_30 ?_
      refine am_istore_n dX1_lowerThan_31 (am_lb rfl) ?_
      change am_At _ _ _ 32 [_, _, _, _] [] _ _
      refine am_iinc dX1_lowerThan_32 rfl (am_i1 k) ?_
      change am_At _ _ _ 35 [_, _, _, _] [] _ _
      refine am_goto (-31) 4 dX1_lowerThan_35 rfl ?_
      simp only [nI_clamp (show k < 2 ^ 31 by omega)] at hc1
      simpa [sumN_s, bitsN_s, nI_add, nI_clamp (show k < 2 ^ 31 by omega), hc1, Int32.not_lt.mpr hc1] using ih
    · intro hc1n
      have hc1n : ¬ (a ≤ (h.2.1 4 0 ((nI k).toNatClampNeg))) := hc1n
      refine am_iconst 1 (v := 1) dX1_lowerThan_23 (by decide) ?_
      refine am_iload_n dX1_lowerThan_24 rfl ?_
      refine am_ishl dX1_lowerThan_25 ?_
      refine am_goto (4) 30 dX1_lowerThan_26 rfl ?_
      refine am_ior dX1_lowerThan_30 ?_
      refine am_istore_n dX1_lowerThan_31 (am_lb rfl) ?_
      change am_At _ _ _ 32 [_, _, _, _] [] _ _
      refine am_iinc dX1_lowerThan_32 rfl (am_i1 k) ?_
      change am_At _ _ _ 35 [_, _, _, _] [] _ _
      refine am_goto (-31) 4 dX1_lowerThan_35 rfl ?_
      simp only [nI_clamp (show k < 2 ^ 31 by omega)] at hc1n
      simpa [sumN_s, bitsN_s, nI_add, nI_clamp (show k < 2 ^ 31 by omega), hc1n, Int32.not_le.mp hc1n] using ih
theorem ev_bearing {d : Nat} {h : am_H} (g : lay h) {n : Nat} (hn : h.2.1 3 0 0 = nI n) (hn16 : n ≤ 16) {a : Int32} : am_Ev (d + 0) mX1_bearing [.inr (3, 0), am_I a] h (.inl (some (am_I (bitsN (fun b => decide (a ≤ h.2.1 5 0 b)) n)), h)) := by
  refine am_Ev.mk (by decide +kernel) rfl rfl (Nat.le_refl _) (Nat.le_refl _) ?_
  change am_At _ _ _ 0 [_, _, _, _] [] _ _
  refine am_iconst 0 (v := 0) dX1_bearing_0 (by decide) ?_
  refine am_istore_n dX1_bearing_1 (am_lb rfl) ?_
  change am_At _ _ _ 2 [_, _, _, _] [] _ _
  refine am_iconst 0 (v := 0) dX1_bearing_2 (by decide) ?_
  refine am_istore_n dX1_bearing_3 (am_lb rfl) ?_
  change am_At _ _ _ 4 [_, _, _, _] [] _ _
  have key := am_loop (Pr := fun k => am_At am_X0 (d) mX1_bearing 4 [some (.inr (3, 0)), some (am_I (a)), some (am_I (bitsN (fun b => decide (a ≤ h.2.1 5 0 b)) k)), some (am_I (nI k))] [] (h) (.inl (some (am_I (bitsN (fun b => decide (a ≤ h.2.1 5 0 b)) n)), h))) (n) ?_ ?_ 0 (by omega)
  · exact key
  · refine am_iload_n dX1_bearing_4 rfl ?_
    refine am_aload_n dX1_bearing_5 rfl ?_
    refine am_getI 1 0 dX1_bearing_6 fg_X1_46 (sh_3 g) (by decide) rfl ?_
    refine am_icmp_geT (29) 38 dX1_bearing_9 rfl (by rw [hn]; exact Int32.le_refl _) ?_
    refine am_iload_n dX1_bearing_38 rfl ?_
    exact am_iret dX1_bearing_39 rfl
  · intro k hk ih
    refine am_iload_n dX1_bearing_4 rfl ?_
    refine am_aload_n dX1_bearing_5 rfl ?_
    refine am_getI 1 0 dX1_bearing_6 fg_X1_46 (sh_3 g) (by decide) rfl ?_
    refine am_icmp_geF (29) 38 dX1_bearing_9 rfl (by rw [hn]; exact nI_ge hk (by omega)) ?_
    refine am_iload_n dX1_bearing_12 rfl ?_
    refine am_aload_n dX1_bearing_13 rfl ?_
    refine am_getR 1 2 5 dX1_bearing_14 fg_X1_15 (sh_3 g) (by decide) rfl (rf_3_2 g) ?_
    refine am_iload_n dX1_bearing_17 rfl ?_
    refine am_iald dX1_bearing_18 (am_ia.one (sh_5 g)) (vp_in_nI (by omega) (by omega)) ?_
    refine am_iload_n dX1_bearing_19 rfl ?_
    refine am_icmp_lt (9) 29 dX1_bearing_20 rfl ?_ ?_
    · intro hc1
      have hc1 : (h.2.1 5 0 ((nI k).toNatClampNeg)) < a := hc1
      refine am_iconst 0 (v := 0) dX1_bearing_29 (by decide) ?_
      refine am_ior dX1_bearing_30 ?_
      refine am_istore_n dX1_bearing_31 (am_lb rfl) ?_
      change am_At _ _ _ 32 [_, _, _, _] [] _ _
      refine am_iinc dX1_bearing_32 rfl (am_i1 k) ?_
      change am_At _ _ _ 35 [_, _, _, _] [] _ _
      refine am_goto (-31) 4 dX1_bearing_35 rfl ?_
      simp only [nI_clamp (show k < 2 ^ 31 by omega)] at hc1
      simpa [sumN_s, bitsN_s, nI_add, nI_clamp (show k < 2 ^ 31 by omega), hc1, Int32.not_le.mpr hc1] using ih
    · intro hc1n
      have hc1n : ¬ ((h.2.1 5 0 ((nI k).toNatClampNeg)) < a) := hc1n
      refine am_iconst 1 (v := 1) dX1_bearing_23 (by decide) ?_
      refine am_iload_n dX1_bearing_24 rfl ?_
      refine am_ishl dX1_bearing_25 ?_
      refine am_goto (4) 30 dX1_bearing_26 rfl ?_
      refine am_ior dX1_bearing_30 ?_
      refine am_istore_n dX1_bearing_31 (am_lb rfl) ?_
      change am_At _ _ _ 32 [_, _, _, _] [] _ _
      refine am_iinc dX1_bearing_32 rfl (am_i1 k) ?_
      change am_At _ _ _ 35 [_, _, _, _] [] _ _
      refine am_goto (-31) 4 dX1_bearing_35 rfl ?_
      simp only [nI_clamp (show k < 2 ^ 31 by omega)] at hc1n
      simpa [sumN_s, bitsN_s, nI_add, nI_clamp (show k < 2 ^ 31 by omega), hc1n, Int32.not_lt.mp hc1n] using ih
