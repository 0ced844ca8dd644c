theorem ev_X10_blame {d : Nat} {h : am_H} (g : lay h) {a0 a1 : Int32} : am_Ev (d + 0) mX10_blame [.inr (1, 0), am_I a0, am_I a1] h (.inl (none, (am_hM h (if (h.2.1 1 0 5) = 0 then (am_u3 (am_u3 h.2.1 1 0 5 a0) 1 0 6 a1) else h.2.1)))) := by
  refine am_Ev.mk (by decide +kernel) rfl rfl (Nat.le_refl _) (Nat.le_refl _) ?_
  change am_At _ _ _ 0 [_, _, _] [] _ _
  refine am_aload_n dX10_blame_0 rfl ?_
  refine am_getI 10 5 dX10_blame_1 fg_X10_34 (sh_1 g) (by decide) rfl ?_
  refine am_if_ne (13) 17 dX10_blame_4 rfl ?_ ?_
  · intro hc1n
    have hc1n : ¬ ((h.2.1 1 0 5) = 0) := hc1n
    refine am_At.end ?_ (am_vret dX10_blame_17 rfl)
    first | rfl | (simp only [if_neg hc1n]; done) | (simp only [if_neg hc1n]; rfl)
  · intro hc1
    have hc1 : (h.2.1 1 0 5) = 0 := hc1
    refine am_aload_n dX10_blame_7 rfl ?_
    refine am_iload_n dX10_blame_8 rfl ?_
    refine am_putI 10 5 dX10_blame_9 (Or.inl fp_X10_34) (sh_1 g) (by decide) rfl rfl rfl ?_
    refine am_aload_n dX10_blame_12 rfl ?_
    refine am_iload_n dX10_blame_13 rfl ?_
    refine am_putI 10 6 dX10_blame_14 (Or.inl fp_X10_15) (sh_1 g) (by decide) rfl rfl rfl ?_
    refine am_At.end ?_ (am_vret dX10_blame_17 rfl)
    first | rfl | (simp only [if_pos hc1]; done) | (simp only [if_pos hc1]; rfl)
theorem ev_X10_blameToken {d : Nat} {h : am_H} (g : lay h) {a0 : Int32} : am_Ev (d + 1) mX10_blameToken [.inr (1, 0), am_I a0] h (.inl (none, (am_hM h (if (h.2.1 1 0 5) = 0 then (am_u3 (am_u3 h.2.1 1 0 5 a0) 1 0 6 (h.2.1 1 0 4)) else h.2.1)))) := by
  refine am_Ev.mk (by decide +kernel) rfl rfl (Nat.le_refl _) (Nat.le_refl _) ?_
  change am_At _ _ _ 0 [_, _] [] _ _
  refine am_aload_n dX10_blameToken_0 rfl ?_
  refine am_iload_n dX10_blameToken_1 rfl ?_
  refine am_aload_n dX10_blameToken_2 rfl ?_
  refine am_getI 10 4 dX10_blameToken_3 fg_X10_37 (sh_1 g) (by decide) rfl ?_
  refine am_callV [_, _] dX10_blameToken_6 ml_X10_40 vm_X10_blame (sh_1 g) rfl (fun _ => Nat.le_of_ble_eq_true rfl) (by omega) rfl (ev_X10_blame (d := d + 0) g ) rfl ?_
  change am_At _ _ _ 9 [_, _] [] _ _
  exact am_vret dX10_blameToken_9 rfl
theorem ev_X10_faultAnswer {d : Nat} {h : am_H} (g : lay h) : am_Ev (d + 0) mX10_faultAnswer [.inr (1, 0)] h (.inl (some (am_I ((h.2.1 1 0 5) - (10 : Int32))), h)) := by
  refine am_Ev.mk (by decide +kernel) rfl rfl (Nat.le_refl _) (Nat.le_refl _) ?_
  change am_At _ _ _ 0 [_] [] _ _
  refine am_aload_n dX10_faultAnswer_0 rfl ?_
  refine am_getI 10 5 dX10_faultAnswer_1 fg_X10_34 (sh_1 g) (by decide) rfl ?_
  refine am_bipush 10 (v := 10) dX10_faultAnswer_4 (by decide) ?_
  refine am_isub dX10_faultAnswer_6 ?_
  exact am_iret dX10_faultAnswer_7 rfl
theorem ev_X10_hasRoom {d : Nat} {h : am_H} (g : lay h) {a0 : Int32} : am_Ev (d + 0) mX10_hasRoom [.inr (1, 0), am_I a0] h (.inl (some (am_I (if (600 : Int32) < ((h.2.1 1 0 1) + a0) then (0 : Int32) else (1 : Int32))), h)) := by
  refine am_Ev.mk (by decide +kernel) rfl rfl (Nat.le_refl _) (Nat.le_refl _) ?_
  change am_At _ _ _ 0 [_, _] [] _ _
  refine am_aload_n dX10_hasRoom_0 rfl ?_
  refine am_getI 10 1 dX10_hasRoom_1 fg_X10_19 (sh_1 g) (by decide) rfl ?_
  refine am_iload_n dX10_hasRoom_4 rfl ?_
  refine am_iadd dX10_hasRoom_5 ?_
  refine am_aload_n dX10_hasRoom_6 rfl ?_
  refine am_getR 10 0 2 dX10_hasRoom_7 fg_X10_9 (sh_1 g) (by decide) rfl (rf_1_0 g) ?_
  refine am_blen dX10_hasRoom_10 (sh_2 g) rfl ?_
  refine am_icmp_gt (7) 18 dX10_hasRoom_11 rfl ?_ ?_
  · intro hc1
    have hc1 : (600 : Int32) < ((h.2.1 1 0 1) + a0) := hc1
    refine am_iconst 0 (v := 0) dX10_hasRoom_18 (by decide) ?_
    refine am_At.end ?_ (am_zret dX10_hasRoom_19 rfl rfl)
    first | rfl | (simp only [if_pos hc1]; done) | (simp only [if_pos hc1]; rfl)
  · intro hc1n
    have hc1n : ¬ ((600 : Int32) < ((h.2.1 1 0 1) + a0)) := hc1n
    refine am_iconst 1 (v := 1) dX10_hasRoom_14 (by decide) ?_
    refine am_goto (4) 19 dX10_hasRoom_15 rfl ?_
    refine am_At.end ?_ (am_zret dX10_hasRoom_19 rfl rfl)
    first | rfl | (simp only [if_neg hc1n]; done) | (simp only [if_neg hc1n]; rfl)
theorem ev_X10_isFaulty {d : Nat} {h : am_H} (g : lay h) : am_Ev (d + 0) mX10_isFaulty [.inr (1, 0)] h (.inl (some (am_I (if (h.2.1 1 0 5) = 0 then (0 : Int32) else (1 : Int32))), h)) := by
  refine am_Ev.mk (by decide +kernel) rfl rfl (Nat.le_refl _) (Nat.le_refl _) ?_
  change am_At _ _ _ 0 [_] [] _ _
  refine am_aload_n dX10_isFaulty_0 rfl ?_
  refine am_getI 10 5 dX10_isFaulty_1 fg_X10_34 (sh_1 g) (by decide) rfl ?_
  refine am_if_eq (7) 11 dX10_isFaulty_4 rfl ?_ ?_
  · intro hc1
    have hc1 : (h.2.1 1 0 5) = 0 := hc1
    refine am_iconst 0 (v := 0) dX10_isFaulty_11 (by decide) ?_
    refine am_At.end ?_ (am_zret dX10_isFaulty_12 rfl rfl)
    first | rfl | (simp only [if_pos hc1]; done) | (simp only [if_pos hc1]; rfl)
  · intro hc1n
    have hc1n : ¬ ((h.2.1 1 0 5) = 0) := hc1n
    refine am_iconst 1 (v := 1) dX10_isFaulty_7 (by decide) ?_
    refine am_goto (4) 12 dX10_isFaulty_8 rfl ?_
    refine am_At.end ?_ (am_zret dX10_isFaulty_12 rfl rfl)
    first | rfl | (simp only [if_neg hc1n]; done) | (simp only [if_neg hc1n]; rfl)
theorem ev_X10_size {d : Nat} {h : am_H} (g : lay h) : am_Ev (d + 0) mX10_size [.inr (1, 0)] h (.inl (some (am_I (h.2.1 1 0 1)), h)) := by
  refine am_Ev.mk (by decide +kernel) rfl rfl (Nat.le_refl _) (Nat.le_refl _) ?_
  change am_At _ _ _ 0 [_] [] _ _
  refine am_aload_n dX10_size_0 rfl ?_
  refine am_getI 10 1 dX10_size_1 fg_X10_19 (sh_1 g) (by decide) rfl ?_
  exact am_iret dX10_size_4 rfl
theorem ev_X11_allBits {d : Nat} {h : am_H} {a0 : Int32} : am_Ev (d + 0) mX11_allBits [am_I a0] h (.inl (some (am_I (((1 : Int32) <<< (a0 &&& 31)) - (1 : Int32))), h)) := by
  refine am_Ev.mk (by decide +kernel) rfl rfl (Nat.le_refl _) (Nat.le_refl _) ?_
  change am_At _ _ _ 0 [_] [] _ _
  refine am_iconst 1 (v := 1) dX11_allBits_0 (by decide) ?_
  refine am_iload_n dX11_allBits_1 rfl ?_
  refine am_ishl dX11_allBits_2 ?_
  refine am_iconst 1 (v := 1) dX11_allBits_3 (by decide) ?_
  refine am_isub dX11_allBits_4 ?_
  exact am_iret dX11_allBits_5 rfl
theorem ev_X11_count {d : Nat} {h : am_H} (g : lay h) {a0 : Int32} : am_Ev (d + 1) mX11_count [.inr (0, 0), am_I a0] h (.inl (some (am_I (if a0 = (0 : Int32) then (h.2.1 31 0 3) else (if a0 = (1 : Int32) then (h.2.1 1 0 1) else (if a0 = (2 : Int32) then (h.2.1 31 0 1) else (-1 : Int32))))), h)) := by
  refine am_Ev.mk (by decide +kernel) rfl rfl (Nat.le_refl _) (Nat.le_refl _) ?_
  change am_At _ _ _ 0 [_, _] [] _ _
  refine am_iload_n dX11_count_0 rfl ?_
  by_cases hc1 : a0 = (0 : Int32)
  · refine am_tabIn (27) 28 dX11_count_1 (by rw [hc1]; decide) (by rw [hc1]; decide) (by rw [hc1]; rfl) rfl ?_
    refine am_aload_n dX11_count_28 rfl ?_
    refine am_getR 11 6 31 dX11_count_29 fg_X11_52 (sh_0 g) (by decide) rfl (rf_0_6 g) ?_
    refine am_getI 7 3 dX11_count_32 fg_X11_387 (sh_31 g) (by decide) rfl ?_
    refine am_At.end ?_ (am_iret dX11_count_35 rfl)
    first | rfl | (simp only [if_pos hc1]; done) | (simp only [if_pos hc1]; rfl)
  · have hc1n := hc1
    by_cases hc2 : a0 = (1 : Int32)
    · refine am_tabIn (35) 36 dX11_count_1 (by rw [hc2]; decide) (by rw [hc2]; decide) (by rw [hc2]; rfl) rfl ?_
      refine am_aload_n dX11_count_36 rfl ?_
      refine am_getR 11 0 1 dX11_count_37 fg_X11_10 (sh_0 g) (by decide) rfl (rf_0_0 g) ?_
      refine am_callV [] dX11_count_40 ml_X11_103 vm_X10_size (sh_1 g) rfl (fun _ => Nat.le_of_ble_eq_true rfl) (by omega) rfl (ev_X10_size (d := d + 0) g ) rfl ?_
      change am_At _ _ _ 43 [_, _] [_] _ _
      refine am_At.end ?_ (am_iret dX11_count_43 rfl)
      first | rfl | (simp only [if_neg hc1n, if_pos hc2]; done) | (simp only [if_neg hc1n, if_pos hc2]; rfl)
    · have hc2n := hc2
      by_cases hc3 : a0 = (2 : Int32)
      · refine am_tabIn (43) 44 dX11_count_1 (by rw [hc3]; decide) (by rw [hc3]; decide) (by rw [hc3]; rfl) rfl ?_
        refine am_aload_n dX11_count_44 rfl ?_
        refine am_getR 11 6 31 dX11_count_45 fg_X11_52 (sh_0 g) (by decide) rfl (rf_0_6 g) ?_
        refine am_getI 7 1 dX11_count_48 fg_X11_172 (sh_31 g) (by decide) rfl ?_
        refine am_At.end ?_ (am_iret dX11_count_51 rfl)
        first | rfl | (simp only [if_neg hc1n, if_neg hc2n, if_pos hc3]; done) | (simp only [if_neg hc1n, if_neg hc2n, if_pos hc3]; rfl)
      · have hc3n := hc3
        refine am_tabOut 52 dX11_count_1 (by have q0 := lv_neT (a := 0) hc1n (by decide); have q1 := lv_neT (a := 1) hc2n (by decide); have q2 := lv_neT (a := 2) hc3n (by decide); omega) rfl ?_
        refine am_iconst (-1) (v := (-1)) dX11_count_52 (by decide) ?_
        refine am_At.end ?_ (am_iret dX11_count_53 rfl)
        first | rfl | (simp only [if_neg hc1n, if_neg hc2n, if_neg hc3n]; done) | (simp only [if_neg hc1n, if_neg hc2n, if_neg hc3n]; rfl)
theorem ev_X11_fault {d : Nat} {h : am_H} (g : lay h) : am_Ev (d + 0) mX11_fault [.inr (0, 0)] h (.inl (some (am_I (h.2.1 1 0 6)), h)) := by
  refine am_Ev.mk (by decide +kernel) rfl rfl (Nat.le_refl _) (Nat.le_refl _) ?_
  change am_At _ _ _ 0 [_] [] _ _
  refine am_aload_n dX11_fault_0 rfl ?_
  refine am_getR 11 0 1 dX11_fault_1 fg_X11_10 (sh_0 g) (by decide) rfl (rf_0_0 g) ?_
  refine am_getI 10 6 dX11_fault_4 fg_X11_169 (sh_1 g) (by decide) rfl ?_
  exact am_iret dX11_fault_7 rfl
theorem ev_X11_status {d : Nat} {h : am_H} (g : lay h) {a0 : Int32} : am_Ev (d + 0) mX11_status [.inr (0, 0), am_I a0] h (.inl (some (am_I (if a0 = 0 then (h.2.1 0 0 13) else (if a0 = (1 : Int32) then (h.2.1 0 0 14) else (-1 : Int32)))), h)) := by
  refine am_Ev.mk (by decide +kernel) rfl rfl (Nat.le_refl _) (Nat.le_refl _) ?_
  change am_At _ _ _ 0 [_, _] [] _ _
  refine am_iload_n dX11_status_0 rfl ?_
  refine am_if_ne (8) 9 dX11_status_1 rfl ?_ ?_
  · intro hc1n
    have hc1n : ¬ (a0 = 0) := hc1n
    refine am_iload_n dX11_status_9 rfl ?_
    refine am_iconst 1 (v := 1) dX11_status_10 (by decide) ?_
    refine am_icmp_ne (10) 21 dX11_status_11 rfl ?_ ?_
    · intro hc2n
      have hc2n : ¬ (a0 = (1 : Int32)) := hc2n
      refine am_iconst (-1) (v := (-1)) dX11_status_21 (by decide) ?_
      refine am_At.end ?_ (am_iret dX11_status_22 rfl)
      first | rfl | (simp only [if_neg hc1n, if_neg hc2n]; done) | (simp only [if_neg hc1n, if_neg hc2n]; rfl)
    · intro hc2
      have hc2 : a0 = (1 : Int32) := hc2
      refine am_aload_n dX11_status_14 rfl ?_
      refine am_getI 11 14 dX11_status_15 fg_X11_396 (sh_0 g) (by decide) rfl ?_
      refine am_goto (4) 22 dX11_status_18 rfl ?_
      refine am_At.end ?_ (am_iret dX11_status_22 rfl)
      first | rfl | (simp only [if_neg hc1n, if_pos hc2]; done) | (simp only [if_neg hc1n, if_pos hc2]; rfl)
  · intro hc1
    have hc1 : a0 = 0 := hc1
    refine am_aload_n dX11_status_4 rfl ?_
    refine am_getI 11 13 dX11_status_5 fg_X11_393 (sh_0 g) (by decide) rfl ?_
    refine am_At.end ?_ (am_iret dX11_status_8 rfl)
    first | rfl | (simp only [if_pos hc1]; done) | (simp only [if_pos hc1]; rfl)
theorem ev_X12_byteAt {d : Nat} {h : am_H} (g : lay h) {a0 : Int32} (s1 : (a0 < (h.2.1 54 0 2)) → vp_in a0 600) : am_Ev (d + 0) mX12_byteAt [.inr (54, 0), am_I a0] h (.inl (some (am_I (if a0 < (h.2.1 54 0 2) then (h.2.1 55 0 a0.toNatClampNeg) else (-1 : Int32))), h)) := by
  refine am_Ev.mk (by decide +kernel) rfl rfl (Nat.le_refl _) (Nat.le_refl _) ?_
  change am_At _ _ _ 0 [_, _] [] _ _
  refine am_iload_n dX12_byteAt_0 rfl ?_
  refine am_aload_n dX12_byteAt_1 rfl ?_
  refine am_getI 12 2 dX12_byteAt_2 fg_X12_109 (sh_54 g) (by decide) rfl ?_
  refine am_icmp_lt (7) 12 dX12_byteAt_5 rfl ?_ ?_
  · intro hc1
    have hc1 : a0 < (h.2.1 54 0 2) := hc1
    refine am_aload_n dX12_byteAt_12 rfl ?_
    refine am_getR 12 9 55 dX12_byteAt_13 fg_X12_13 (sh_54 g) (by decide) rfl (rf_54_9 g) ?_
    refine am_iload_n dX12_byteAt_16 rfl ?_
    refine am_iald dX12_byteAt_17 (am_ia.one (sh_55 g)) (s1 hc1) ?_
    refine am_At.end ?_ (am_iret dX12_byteAt_18 rfl)
    first | rfl | (simp only [if_pos hc1]; done) | (simp only [if_pos hc1]; rfl)
  · intro hc1n
    have hc1n : ¬ (a0 < (h.2.1 54 0 2)) := hc1n
    refine am_iconst (-1) (v := (-1)) dX12_byteAt_8 (by decide) ?_
    refine am_goto (9) 18 dX12_byteAt_9 rfl ?_
    refine am_At.end ?_ (am_iret dX12_byteAt_18 rfl)
    first | rfl | (simp only [if_neg hc1n]; done) | (simp only [if_neg hc1n]; rfl)
theorem ev_X12_comesIn_54_72 {d : Nat} {h : am_H} (g : lay h) {a0 : Int32} (s1 : ¬ (a0 = (4 : Int32)) → vp_in a0 4) : am_Ev (d + 0) mX12_comesIn [.inr (54, 0), .inr (72, 0), am_I a0] h (.inl (some (am_I (if a0 = (4 : Int32) then (h.2.1 72 0 64) else (h.2.1 62 (a0.toNatClampNeg + 1) 1))), h)) := by
  refine am_Ev.mk (by decide +kernel) rfl rfl (Nat.le_refl _) (Nat.le_refl _) ?_
  change am_At _ _ _ 0 [_, _, _] [] _ _
  refine am_iload_n dX12_comesIn_0 rfl ?_
  refine am_iconst 4 (v := 4) dX12_comesIn_1 (by decide) ?_
  refine am_icmp_ne (10) 12 dX12_comesIn_2 rfl ?_ ?_
  · intro hc1n
    have hc1n : ¬ (a0 = (4 : Int32)) := hc1n
    refine am_aload_n dX12_comesIn_12 rfl ?_
    refine am_getR 12 16 62 dX12_comesIn_13 fg_X12_37 (sh_54 g) (by decide) rfl (rf_54_16 g) ?_
    refine am_iload_n dX12_comesIn_16 rfl ?_
    refine am_aald dX12_comesIn_17 (sh_62 g) (s1 hc1n) ?_
    refine am_iconst 1 (v := 1) dX12_comesIn_18 (by decide) ?_
    refine am_iald dX12_comesIn_19 (am_ia.row (sh_62 g) (by omega) (am_vlt (s1 hc1n))) (am_lit rfl) ?_
    refine am_At.end ?_ (am_iret dX12_comesIn_20 rfl)
    first | rfl | (simp only [if_neg hc1n]; done) | (simp only [if_neg hc1n]; rfl)
  · intro hc1
    have hc1 : a0 = (4 : Int32) := hc1
    refine am_aload_n dX12_comesIn_5 rfl ?_
    refine am_bipush 64 (v := 64) dX12_comesIn_6 (by decide) ?_
    refine am_iald dX12_comesIn_8 (am_ia.one (sh_72 g)) (am_lit rfl) ?_
    refine am_goto (11) 20 dX12_comesIn_9 rfl ?_
    refine am_At.end ?_ (am_iret dX12_comesIn_20 rfl)
    first | rfl | (simp only [if_pos hc1]; done) | (simp only [if_pos hc1]; rfl)
theorem ev_X12_comesIn_54_73 {d : Nat} {h : am_H} (g : lay h) {a0 : Int32} (s1 : ¬ (a0 = (4 : Int32)) → vp_in a0 4) : am_Ev (d + 0) mX12_comesIn [.inr (54, 0), .inr (73, 0), am_I a0] h (.inl (some (am_I (if a0 = (4 : Int32) then (h.2.1 73 0 64) else (h.2.1 62 (a0.toNatClampNeg + 1) 1))), h)) := by
  refine am_Ev.mk (by decide +kernel) rfl rfl (Nat.le_refl _) (Nat.le_refl _) ?_
  change am_At _ _ _ 0 [_, _, _] [] _ _
  refine am_iload_n dX12_comesIn_0 rfl ?_
  refine am_iconst 4 (v := 4) dX12_comesIn_1 (by decide) ?_
  refine am_icmp_ne (10) 12 dX12_comesIn_2 rfl ?_ ?_
  · intro hc1n
    have hc1n : ¬ (a0 = (4 : Int32)) := hc1n
    refine am_aload_n dX12_comesIn_12 rfl ?_
    refine am_getR 12 16 62 dX12_comesIn_13 fg_X12_37 (sh_54 g) (by decide) rfl (rf_54_16 g) ?_
    refine am_iload_n dX12_comesIn_16 rfl ?_
    refine am_aald dX12_comesIn_17 (sh_62 g) (s1 hc1n) ?_
    refine am_iconst 1 (v := 1) dX12_comesIn_18 (by decide) ?_
    refine am_iald dX12_comesIn_19 (am_ia.row (sh_62 g) (by omega) (am_vlt (s1 hc1n))) (am_lit rfl) ?_
    refine am_At.end ?_ (am_iret dX12_comesIn_20 rfl)
    first | rfl | (simp only [if_neg hc1n]; done) | (simp only [if_neg hc1n]; rfl)
  · intro hc1
    have hc1 : a0 = (4 : Int32) := hc1
    refine am_aload_n dX12_comesIn_5 rfl ?_
    refine am_bipush 64 (v := 64) dX12_comesIn_6 (by decide) ?_
    refine am_iald dX12_comesIn_8 (am_ia.one (sh_73 g)) (am_lit rfl) ?_
    refine am_goto (11) 20 dX12_comesIn_9 rfl ?_
    refine am_At.end ?_ (am_iret dX12_comesIn_20 rfl)
    first | rfl | (simp only [if_pos hc1]; done) | (simp only [if_pos hc1]; rfl)
theorem ev_X12_count {d : Nat} {h : am_H} (g : lay h) {a0 : Int32} : am_Ev (d + 0) mX12_count [.inr (54, 0), am_I a0] h (.inl (some (am_I (if a0 = 0 then (h.2.1 54 0 37) else (if a0 = (1 : Int32) then (h.2.1 54 0 1) else (if a0 = (2 : Int32) then (h.2.1 54 0 35) else (-1 : Int32))))), (am_hM h (am_u3 h.2.1 54 0 0 (0 : Int32))))) := by
  refine am_Ev.mk (by decide +kernel) rfl rfl (Nat.le_refl _) (Nat.le_refl _) ?_
  change am_At _ _ _ 0 [_, _] [] _ _
  refine am_aload_n dX12_count_0 rfl ?_
  refine am_iconst 0 (v := 0) dX12_count_1 (by decide) ?_
  refine am_putI 12 0 dX12_count_2 (Or.inl fp_X12_103) (sh_54 g) (by decide) rfl rfl rfl ?_
  refine am_iload_n dX12_count_5 rfl ?_
  refine am_if_ne (10) 16 dX12_count_6 rfl ?_ ?_
  · intro hc1n
    have hc1n : ¬ (a0 = 0) := hc1n
    refine am_iload_n dX12_count_16 rfl ?_
    refine am_iconst 1 (v := 1) dX12_count_17 (by decide) ?_
    refine am_icmp_ne (10) 28 dX12_count_18 rfl ?_ ?_
    · intro hc2n
      have hc2n : ¬ (a0 = (1 : Int32)) := hc2n
      refine am_iload_n dX12_count_28 rfl ?_
      refine am_iconst 2 (v := 2) dX12_count_29 (by decide) ?_
      refine am_icmp_ne (10) 40 dX12_count_30 rfl ?_ ?_
      · intro hc3n
        have hc3n : ¬ (a0 = (2 : Int32)) := hc3n
        refine am_iconst (-1) (v := (-1)) dX12_count_40 (by decide) ?_
        refine am_At.end ?_ (am_iret dX12_count_41 rfl)
        first | rfl | (simp only [if_neg hc1n, if_neg hc2n, if_neg hc3n]; done) | (simp only [if_neg hc1n, if_neg hc2n, if_neg hc3n]; rfl)
      · intro hc3
        have hc3 : a0 = (2 : Int32) := hc3
        refine am_aload_n dX12_count_33 rfl ?_
        refine am_getI 12 35 dX12_count_34 fg_X12_202 (sh_54 g) (by decide) rfl ?_
        refine am_goto (4) 41 dX12_count_37 rfl ?_
        refine am_At.end ?_ (am_iret dX12_count_41 rfl)
        first | rfl | (simp only [if_neg hc1n, if_neg hc2n, if_pos hc3]; done) | (simp only [if_neg hc1n, if_neg hc2n, if_pos hc3]; rfl)
    · intro hc2
      have hc2 : a0 = (1 : Int32) := hc2
      refine am_aload_n dX12_count_21 rfl ?_
      refine am_getI 12 1 dX12_count_22 fg_X12_106 (sh_54 g) (by decide) rfl ?_
      refine am_goto (16) 41 dX12_count_25 rfl ?_
      refine am_At.end ?_ (am_iret dX12_count_41 rfl)
      first | rfl | (simp only [if_neg hc1n, if_pos hc2]; done) | (simp only [if_neg hc1n, if_pos hc2]; rfl)
  · intro hc1
    have hc1 : a0 = 0 := hc1
    refine am_aload_n dX12_count_9 rfl ?_
    refine am_getI 12 37 dX12_count_10 fg_X12_208 (sh_54 g) (by decide) rfl ?_
    refine am_goto (28) 41 dX12_count_13 rfl ?_
    refine am_At.end ?_ (am_iret dX12_count_41 rfl)
    first | rfl | (simp only [if_pos hc1]; done) | (simp only [if_pos hc1]; rfl)
theorem ev_X12_ends {d : Nat} {h : am_H} (g : lay h) : am_Ev (d + 0) mX12_ends [.inr (54, 0)] h (.inl (some (am_I ((h.2.1 54 0 5) - (10 : Int32))), (am_hM h (am_u3 h.2.1 54 0 3 (h.2.1 54 0 6))))) := by
  refine am_Ev.mk (by decide +kernel) rfl rfl (Nat.le_refl _) (Nat.le_refl _) ?_
  change am_At _ _ _ 0 [_] [] _ _
  refine am_aload_n dX12_ends_0 rfl ?_
  refine am_aload_n dX12_ends_1 rfl ?_
  refine am_getI 12 6 dX12_ends_2 fg_X12_122 (sh_54 g) (by decide) rfl ?_
  refine am_putI 12 3 dX12_ends_5 (Or.inl fp_X12_9) (sh_54 g) (by decide) rfl rfl rfl ?_
  refine am_aload_n dX12_ends_8 rfl ?_
  refine am_getI 12 5 dX12_ends_9 fg_X12_119 (sh_54 g) (by decide) rfl ?_
  refine am_bipush 10 (v := 10) dX12_ends_12 (by decide) ?_
  refine am_isub dX12_ends_14 ?_
  exact am_iret dX12_ends_15 rfl
theorem ev_X12_fault {d : Nat} {h : am_H} (g : lay h) : am_Ev (d + 0) mX12_fault [.inr (54, 0)] h (.inl (some (am_I (h.2.1 54 0 3)), (am_hM h (am_u3 h.2.1 54 0 0 (0 : Int32))))) := by
  refine am_Ev.mk (by decide +kernel) rfl rfl (Nat.le_refl _) (Nat.le_refl _) ?_
  change am_At _ _ _ 0 [_] [] _ _
  refine am_aload_n dX12_fault_0 rfl ?_
  refine am_iconst 0 (v := 0) dX12_fault_1 (by decide) ?_
  refine am_putI 12 0 dX12_fault_2 (Or.inl fp_X12_103) (sh_54 g) (by decide) rfl rfl rfl ?_
  refine am_aload_n dX12_fault_5 rfl ?_
  refine am_getI 12 3 dX12_fault_6 fg_X12_9 (sh_54 g) (by decide) rfl ?_
  exact am_iret dX12_fault_9 rfl
theorem ev_X12_has {d : Nat} {h : am_H} {a0 a1 : Int32} : am_Ev (d + 0) mX12_has [am_I a0, am_I a1] h (.inl (some (am_I (if ((a0 >>> (a1 &&& 31)) &&& (1 : Int32)) = (1 : Int32) then (1 : Int32) else (0 : Int32))), h)) := by
  refine am_Ev.mk (by decide +kernel) rfl rfl (Nat.le_refl _) (Nat.le_refl _) ?_
  change am_At _ _ _ 0 [_, _] [] _ _
  refine am_iload_n dX12_has_0 rfl ?_
  refine am_iload_n dX12_has_1 rfl ?_
  refine am_ishr dX12_has_2 ?_
  refine am_iconst 1 (v := 1) dX12_has_3 (by decide) ?_
  refine am_iand dX12_has_4 ?_
  refine am_iconst 1 (v := 1) dX12_has_5 (by decide) ?_
  refine am_icmp_ne (7) 13 dX12_has_6 rfl ?_ ?_
  · intro hc1n
    have hc1n : ¬ (((a0 >>> (a1 &&& 31)) &&& (1 : Int32)) = (1 : Int32)) := hc1n
    refine am_iconst 0 (v := 0) dX12_has_13 (by decide) ?_
    refine am_At.end ?_ (am_zret dX12_has_14 rfl rfl)
    first | rfl | (simp only [if_neg hc1n]; done) | (simp only [if_neg hc1n]; rfl)
  · intro hc1
    have hc1 : ((a0 >>> (a1 &&& 31)) &&& (1 : Int32)) = (1 : Int32) := hc1
    refine am_iconst 1 (v := 1) dX12_has_9 (by decide) ?_
    refine am_goto (4) 14 dX12_has_10 rfl ?_
    refine am_At.end ?_ (am_zret dX12_has_14 rfl rfl)
    first | rfl | (simp only [if_pos hc1]; done) | (simp only [if_pos hc1]; rfl)
theorem ev_X12_in {d : Nat} {h : am_H} {a0 a1 a2 : Int32} : am_Ev (d + 0) mX12_in [am_I a0, am_I a1, am_I a2] h (.inl (some (am_I (if a0 < a1 then (0 : Int32) else (if a2 < a0 then (0 : Int32) else (1 : Int32)))), h)) := by
  refine am_Ev.mk (by decide +kernel) rfl rfl (Nat.le_refl _) (Nat.le_refl _) ?_
  change am_At _ _ _ 0 [_, _, _] [] _ _
  refine am_iload_n dX12_in_0 rfl ?_
  refine am_iload_n dX12_in_1 rfl ?_
  refine am_icmp_lt (12) 14 dX12_in_2 rfl ?_ ?_
  · intro hc1
    have hc1 : a0 < a1 := hc1
    refine am_iconst 0 (v := 0) dX12_in_14 (by decide) ?_
    refine am_At.end ?_ (am_zret dX12_in_15 rfl rfl)
    first | rfl | (simp only [if_pos hc1]; done) | (simp only [if_pos hc1]; rfl)
  · intro hc1n
    have hc1n : ¬ (a0 < a1) := hc1n
    refine am_iload_n dX12_in_5 rfl ?_
    refine am_iload_n dX12_in_6 rfl ?_
    refine am_icmp_gt (7) 14 dX12_in_7 rfl ?_ ?_
    · intro hc2
      have hc2 : a2 < a0 := hc2
      refine am_iconst 0 (v := 0) dX12_in_14 (by decide) ?_
      refine am_At.end ?_ (am_zret dX12_in_15 rfl rfl)
      first | rfl | (simp only [if_neg hc1n, if_pos hc2]; done) | (simp only [if_neg hc1n, if_pos hc2]; rfl)
    · intro hc2n
      have hc2n : ¬ (a2 < a0) := hc2n
      refine am_iconst 1 (v := 1) dX12_in_10 (by decide) ?_
      refine am_goto (4) 15 dX12_in_11 rfl ?_
      refine am_At.end ?_ (am_zret dX12_in_15 rfl rfl)
      first | rfl | (simp only [if_neg hc1n, if_neg hc2n]; done) | (simp only [if_neg hc1n, if_neg hc2n]; rfl)
theorem ev_X12_isBarge_54_72 {d : Nat} {h : am_H} (g : lay h) {a0 : Int32} : am_Ev (d + 0) mX12_isBarge [.inr (54, 0), .inr (72, 0), am_I a0] h (.inl (some (am_I (if a0 < (h.2.1 58 0 1) then (1 : Int32) else (if a0 = (4 : Int32) then (if (h.2.1 72 0 64) = (-1 : Int32) then (0 : Int32) else (1 : Int32)) else (0 : Int32)))), h)) := by
  refine am_Ev.mk (by decide +kernel) rfl rfl (Nat.le_refl _) (Nat.le_refl _) ?_
  change am_At _ _ _ 0 [_, _, _] [] _ _
  refine am_iload_n dX12_isBarge_0 rfl ?_
  refine am_aload_n dX12_isBarge_1 rfl ?_
  refine am_getR 12 12 58 dX12_isBarge_2 fg_X12_23 (sh_54 g) (by decide) rfl (rf_54_12 g) ?_
  refine am_iconst 1 (v := 1) dX12_isBarge_5 (by decide) ?_
  refine am_iald dX12_isBarge_6 (am_ia.one (sh_58 g)) (am_lit rfl) ?_
  refine am_icmp_lt (16) 23 dX12_isBarge_7 rfl ?_ ?_
  · intro hc1
    have hc1 : a0 < (h.2.1 58 0 1) := hc1
    refine am_iconst 1 (v := 1) dX12_isBarge_23 (by decide) ?_
    refine am_goto (4) 28 dX12_isBarge_24 rfl ?_
    refine am_At.end ?_ (am_zret dX12_isBarge_28 rfl rfl)
    first | rfl | (simp only [if_pos hc1]; done) | (simp only [if_pos hc1]; rfl)
  · intro hc1n
    have hc1n : ¬ (a0 < (h.2.1 58 0 1)) := hc1n
    refine am_iload_n dX12_isBarge_10 rfl ?_
    refine am_iconst 4 (v := 4) dX12_isBarge_11 (by decide) ?_
    refine am_icmp_ne (15) 27 dX12_isBarge_12 rfl ?_ ?_
    · intro hc2n
      have hc2n : ¬ (a0 = (4 : Int32)) := hc2n
      refine am_iconst 0 (v := 0) dX12_isBarge_27 (by decide) ?_
      refine am_At.end ?_ (am_zret dX12_isBarge_28 rfl rfl)
      first | rfl | (simp only [if_neg hc1n, if_neg hc2n]; done) | (simp only [if_neg hc1n, if_neg hc2n]; rfl)
    · intro hc2
      have hc2 : a0 = (4 : Int32) := hc2
      refine am_aload_n dX12_isBarge_15 rfl ?_
      refine am_bipush 64 (v := 64) dX12_isBarge_16 (by decide) ?_
      refine am_iald dX12_isBarge_18 (am_ia.one (sh_72 g)) (am_lit rfl) ?_
      refine am_iconst (-1) (v := (-1)) dX12_isBarge_19 (by decide) ?_
      refine am_icmp_eq (7) 27 dX12_isBarge_20 rfl ?_ ?_
      · intro hc3
        have hc3 : (h.2.1 72 0 64) = (-1 : Int32) := hc3
        refine am_iconst 0 (v := 0) dX12_isBarge_27 (by decide) ?_
        refine am_At.end ?_ (am_zret dX12_isBarge_28 rfl rfl)
        first | rfl | (simp only [if_neg hc1n, if_pos hc2, if_pos hc3]; done) | (simp only [if_neg hc1n, if_pos hc2, if_pos hc3]; rfl)
      · intro hc3n
        have hc3n : ¬ ((h.2.1 72 0 64) = (-1 : Int32)) := hc3n
        refine am_iconst 1 (v := 1) dX12_isBarge_23 (by decide) ?_
        refine am_goto (4) 28 dX12_isBarge_24 rfl ?_
        refine am_At.end ?_ (am_zret dX12_isBarge_28 rfl rfl)
        first | rfl | (simp only [if_neg hc1n, if_pos hc2, if_neg hc3n]; done) | (simp only [if_neg hc1n, if_pos hc2, if_neg hc3n]; rfl)
theorem ev_X12_isBarge_54_73 {d : Nat} {h : am_H} (g : lay h) {a0 : Int32} : am_Ev (d + 0) mX12_isBarge [.inr (54, 0), .inr (73, 0), am_I a0] h (.inl (some (am_I (if a0 < (h.2.1 58 0 1) then (1 : Int32) else (if a0 = (4 : Int32) then (if (h.2.1 73 0 64) = (-1 : Int32) then (0 : Int32) else (1 : Int32)) else (0 : Int32)))), h)) := by
  refine am_Ev.mk (by decide +kernel) rfl rfl (Nat.le_refl _) (Nat.le_refl _) ?_
  change am_At _ _ _ 0 [_, _, _] [] _ _
  refine am_iload_n dX12_isBarge_0 rfl ?_
  refine am_aload_n dX12_isBarge_1 rfl ?_
  refine am_getR 12 12 58 dX12_isBarge_2 fg_X12_23 (sh_54 g) (by decide) rfl (rf_54_12 g) ?_
  refine am_iconst 1 (v := 1) dX12_isBarge_5 (by decide) ?_
  refine am_iald dX12_isBarge_6 (am_ia.one (sh_58 g)) (am_lit rfl) ?_
  refine am_icmp_lt (16) 23 dX12_isBarge_7 rfl ?_ ?_
  · intro hc1
    have hc1 : a0 < (h.2.1 58 0 1) := hc1
    refine am_iconst 1 (v := 1) dX12_isBarge_23 (by decide) ?_
    refine am_goto (4) 28 dX12_isBarge_24 rfl ?_
    refine am_At.end ?_ (am_zret dX12_isBarge_28 rfl rfl)
    first | rfl | (simp only [if_pos hc1]; done) | (simp only [if_pos hc1]; rfl)
  · intro hc1n
    have hc1n : ¬ (a0 < (h.2.1 58 0 1)) := hc1n
    refine am_iload_n dX12_isBarge_10 rfl ?_
    refine am_iconst 4 (v := 4) dX12_isBarge_11 (by decide) ?_
    refine am_icmp_ne (15) 27 dX12_isBarge_12 rfl ?_ ?_
    · intro hc2n
      have hc2n : ¬ (a0 = (4 : Int32)) := hc2n
      refine am_iconst 0 (v := 0) dX12_isBarge_27 (by decide) ?_
      refine am_At.end ?_ (am_zret dX12_isBarge_28 rfl rfl)
      first | rfl | (simp only [if_neg hc1n, if_neg hc2n]; done) | (simp only [if_neg hc1n, if_neg hc2n]; rfl)
    · intro hc2
      have hc2 : a0 = (4 : Int32) := hc2
      refine am_aload_n dX12_isBarge_15 rfl ?_
      refine am_bipush 64 (v := 64) dX12_isBarge_16 (by decide) ?_
      refine am_iald dX12_isBarge_18 (am_ia.one (sh_73 g)) (am_lit rfl) ?_
      refine am_iconst (-1) (v := (-1)) dX12_isBarge_19 (by decide) ?_
      refine am_icmp_eq (7) 27 dX12_isBarge_20 rfl ?_ ?_
      · intro hc3
        have hc3 : (h.2.1 73 0 64) = (-1 : Int32) := hc3
        refine am_iconst 0 (v := 0) dX12_isBarge_27 (by decide) ?_
        refine am_At.end ?_ (am_zret dX12_isBarge_28 rfl rfl)
        first | rfl | (simp only [if_neg hc1n, if_pos hc2, if_pos hc3]; done) | (simp only [if_neg hc1n, if_pos hc2, if_pos hc3]; rfl)
      · intro hc3n
        have hc3n : ¬ ((h.2.1 73 0 64) = (-1 : Int32)) := hc3n
        refine am_iconst 1 (v := 1) dX12_isBarge_23 (by decide) ?_
        refine am_goto (4) 28 dX12_isBarge_24 rfl ?_
        refine am_At.end ?_ (am_zret dX12_isBarge_28 rfl rfl)
        first | rfl | (simp only [if_neg hc1n, if_pos hc2, if_neg hc3n]; done) | (simp only [if_neg hc1n, if_pos hc2, if_neg hc3n]; rfl)
theorem ev_X12_isBoard {d : Nat} {h : am_H} (g : lay h) {a0 : Int32} (s1 : narrow .boolean (.int (if a0 < (0 : Int32) then (0 : Int32) else (if ((h.2.1 58 0 0) - (1 : Int32)) < a0 then (0 : Int32) else (1 : Int32)))) = .int (if a0 < (0 : Int32) then (0 : Int32) else (if ((h.2.1 58 0 0) - (1 : Int32)) < a0 then (0 : Int32) else (1 : Int32)))) : am_Ev (d + 1) mX12_isBoard [.inr (54, 0), am_I a0] h (.inl (some (am_I (if a0 < (0 : Int32) then (0 : Int32) else (if ((h.2.1 58 0 0) - (1 : Int32)) < a0 then (0 : Int32) else (1 : Int32)))), h)) := by
  refine am_Ev.mk (by decide +kernel) rfl rfl (Nat.le_refl _) (Nat.le_refl _) ?_
  change am_At _ _ _ 0 [_, _] [] _ _
  refine am_iload_n dX12_isBoard_0 rfl ?_
  refine am_iconst 0 (v := 0) dX12_isBoard_1 (by decide) ?_
  refine am_aload_n dX12_isBoard_2 rfl ?_
  refine am_getR 12 12 58 dX12_isBoard_3 fg_X12_23 (sh_54 g) (by decide) rfl (rf_54_12 g) ?_
  refine am_iconst 0 (v := 0) dX12_isBoard_6 (by decide) ?_
  refine am_iald dX12_isBoard_7 (am_ia.one (sh_58 g)) (am_lit rfl) ?_
  refine am_iconst 1 (v := 1) dX12_isBoard_8 (by decide) ?_
  refine am_isub dX12_isBoard_9 ?_
  refine am_callS (c := 0) (k := 0) (n := 0) (w := 0) [_, _, _] dX12_isBoard_10 ml_X12_137 sm_X12_in rfl (fun _ => Nat.le_of_ble_eq_true rfl) (by omega) rfl (ev_X12_in (d := d + 0)  ) rfl ?_
  change am_At _ _ _ 13 [_, _] [_] _ _
  exact am_zret dX12_isBoard_13 rfl s1
theorem ev_X12_isDigit {d : Nat} {h : am_H} {a0 : Int32} : am_Ev (d + 0) mX12_isDigit [am_I a0] h (.inl (some (am_I (if a0 < (48 : Int32) then (0 : Int32) else (if (57 : Int32) < a0 then (0 : Int32) else (1 : Int32)))), h)) := by
  refine am_Ev.mk (by decide +kernel) rfl rfl (Nat.le_refl _) (Nat.le_refl _) ?_
  change am_At _ _ _ 0 [_] [] _ _
  refine am_iload_n dX12_isDigit_0 rfl ?_
  refine am_bipush 48 (v := 48) dX12_isDigit_1 (by decide) ?_
  refine am_icmp_lt (13) 16 dX12_isDigit_3 rfl ?_ ?_
  · intro hc1
    have hc1 : a0 < (48 : Int32) := hc1
    refine am_iconst 0 (v := 0) dX12_isDigit_16 (by decide) ?_
    refine am_At.end ?_ (am_zret dX12_isDigit_17 rfl rfl)
    first | rfl | (simp only [if_pos hc1]; done) | (simp only [if_pos hc1]; rfl)
  · intro hc1n
    have hc1n : ¬ (a0 < (48 : Int32)) := hc1n
    refine am_iload_n dX12_isDigit_6 rfl ?_
    refine am_bipush 57 (v := 57) dX12_isDigit_7 (by decide) ?_
    refine am_icmp_gt (7) 16 dX12_isDigit_9 rfl ?_ ?_
    · intro hc2
      have hc2 : (57 : Int32) < a0 := hc2
      refine am_iconst 0 (v := 0) dX12_isDigit_16 (by decide) ?_
      refine am_At.end ?_ (am_zret dX12_isDigit_17 rfl rfl)
      first | rfl | (simp only [if_neg hc1n, if_pos hc2]; done) | (simp only [if_neg hc1n, if_pos hc2]; rfl)
    · intro hc2n
      have hc2n : ¬ ((57 : Int32) < a0) := hc2n
      refine am_iconst 1 (v := 1) dX12_isDigit_12 (by decide) ?_
      refine am_goto (4) 17 dX12_isDigit_13 rfl ?_
      refine am_At.end ?_ (am_zret dX12_isDigit_17 rfl rfl)
      first | rfl | (simp only [if_neg hc1n, if_neg hc2n]; done) | (simp only [if_neg hc1n, if_neg hc2n]; rfl)
theorem ev_X12_isFull {d : Nat} {h : am_H} (g : lay h) {a0 : Int32} : am_Ev (d + 0) mX12_isFull [.inr (54, 0), am_I a0] h (.inl (some (am_I (if a0 = 0 then (if (h.2.1 57 0 0) = (16 : Int32) then (1 : Int32) else (if a0 = (1 : Int32) then (if (h.2.1 57 0 1) = (4 : Int32) then (1 : Int32) else (if a0 = (2 : Int32) then (if (h.2.1 57 0 2) = (8 : Int32) then (1 : Int32) else (0 : Int32)) else (0 : Int32))) else (if a0 = (2 : Int32) then (if (h.2.1 57 0 2) = (8 : Int32) then (1 : Int32) else (0 : Int32)) else (0 : Int32)))) else (if a0 = (1 : Int32) then (if (h.2.1 57 0 1) = (4 : Int32) then (1 : Int32) else (if a0 = (2 : Int32) then (if (h.2.1 57 0 2) = (8 : Int32) then (1 : Int32) else (0 : Int32)) else (0 : Int32))) else (if a0 = (2 : Int32) then (if (h.2.1 57 0 2) = (8 : Int32) then (1 : Int32) else (0 : Int32)) else (0 : Int32))))), h)) := by
  refine am_Ev.mk (by decide +kernel) rfl rfl (Nat.le_refl _) (Nat.le_refl _) ?_
  change am_At _ _ _ 0 [_, _] [] _ _
  refine am_iload_n dX12_isFull_0 rfl ?_
  refine am_if_ne (14) 15 dX12_isFull_1 rfl ?_ ?_
  · intro hc1n
    have hc1n : ¬ (a0 = 0) := hc1n
    refine am_iload_n dX12_isFull_15 rfl ?_
    refine am_iconst 1 (v := 1) dX12_isFull_16 (by decide) ?_
    refine am_icmp_ne (13) 30 dX12_isFull_17 rfl ?_ ?_
    · intro hc2n
      have hc2n : ¬ (a0 = (1 : Int32)) := hc2n
      refine am_iload_n dX12_isFull_30 rfl ?_
      refine am_iconst 2 (v := 2) dX12_isFull_31 (by decide) ?_
      refine am_icmp_ne (18) 50 dX12_isFull_32 rfl ?_ ?_
      · intro hc3n
        have hc3n : ¬ (a0 = (2 : Int32)) := hc3n
        refine am_iconst 0 (v := 0) dX12_isFull_50 (by decide) ?_
        refine am_At.end ?_ (am_zret dX12_isFull_51 rfl rfl)
        first | rfl | (simp only [if_neg hc1n, if_neg hc2n, if_neg hc3n]; done) | (simp only [if_neg hc1n, if_neg hc2n, if_neg hc3n]; rfl)
      · intro hc3
        have hc3 : a0 = (2 : Int32) := hc3
        refine am_aload_n dX12_isFull_35 rfl ?_
        refine am_getR 12 11 57 dX12_isFull_36 fg_X12_20 (sh_54 g) (by decide) rfl (rf_54_11 g) ?_
        refine am_iconst 2 (v := 2) dX12_isFull_39 (by decide) ?_
        refine am_iald dX12_isFull_40 (am_ia.one (sh_57 g)) (am_lit rfl) ?_
        refine am_bipush 8 (v := 8) dX12_isFull_41 (by decide) ?_
        refine am_icmp_ne (7) 50 dX12_isFull_43 rfl ?_ ?_
        · intro hc4n
          have hc4n : ¬ ((h.2.1 57 0 2) = (8 : Int32)) := hc4n
          refine am_iconst 0 (v := 0) dX12_isFull_50 (by decide) ?_
          refine am_At.end ?_ (am_zret dX12_isFull_51 rfl rfl)
          first | rfl | (simp only [if_neg hc1n, if_neg hc2n, if_pos hc3, if_neg hc4n]; done) | (simp only [if_neg hc1n, if_neg hc2n, if_pos hc3, if_neg hc4n]; rfl)
        · intro hc4
          have hc4 : (h.2.1 57 0 2) = (8 : Int32) := hc4
          refine am_iconst 1 (v := 1) dX12_isFull_46 (by decide) ?_
          refine am_goto (4) 51 dX12_isFull_47 rfl ?_
          refine am_At.end ?_ (am_zret dX12_isFull_51 rfl rfl)
          first | rfl | (simp only [if_neg hc1n, if_neg hc2n, if_pos hc3, if_pos hc4]; done) | (simp only [if_neg hc1n, if_neg hc2n, if_pos hc3, if_pos hc4]; rfl)
    · intro hc2
      have hc2 : a0 = (1 : Int32) := hc2
      refine am_aload_n dX12_isFull_20 rfl ?_
      refine am_getR 12 11 57 dX12_isFull_21 fg_X12_20 (sh_54 g) (by decide) rfl (rf_54_11 g) ?_
      refine am_iconst 1 (v := 1) dX12_isFull_24 (by decide) ?_
      refine am_iald dX12_isFull_25 (am_ia.one (sh_57 g)) (am_lit rfl) ?_
      refine am_iconst 4 (v := 4) dX12_isFull_26 (by decide) ?_
      refine am_icmp_eq (19) 46 dX12_isFull_27 rfl ?_ ?_
      · intro hc3
        have hc3 : (h.2.1 57 0 1) = (4 : Int32) := hc3
        refine am_iconst 1 (v := 1) dX12_isFull_46 (by decide) ?_
        refine am_goto (4) 51 dX12_isFull_47 rfl ?_
        refine am_At.end ?_ (am_zret dX12_isFull_51 rfl rfl)
        first | rfl | (simp only [if_neg hc1n, if_pos hc2, if_pos hc3]; done) | (simp only [if_neg hc1n, if_pos hc2, if_pos hc3]; rfl)
      · intro hc3n
        have hc3n : ¬ ((h.2.1 57 0 1) = (4 : Int32)) := hc3n
        refine am_iload_n dX12_isFull_30 rfl ?_
        refine am_iconst 2 (v := 2) dX12_isFull_31 (by decide) ?_
        refine am_icmp_ne (18) 50 dX12_isFull_32 rfl ?_ ?_
        · intro hc4n
          have hc4n : ¬ (a0 = (2 : Int32)) := hc4n
          refine am_iconst 0 (v := 0) dX12_isFull_50 (by decide) ?_
          refine am_At.end ?_ (am_zret dX12_isFull_51 rfl rfl)
          first | rfl | (simp only [if_neg hc1n, if_pos hc2, if_neg hc3n, if_neg hc4n]; done) | (simp only [if_neg hc1n, if_pos hc2, if_neg hc3n, if_neg hc4n]; rfl)
        · intro hc4
          have hc4 : a0 = (2 : Int32) := hc4
          refine am_aload_n dX12_isFull_35 rfl ?_
          refine am_getR 12 11 57 dX12_isFull_36 fg_X12_20 (sh_54 g) (by decide) rfl (rf_54_11 g) ?_
          refine am_iconst 2 (v := 2) dX12_isFull_39 (by decide) ?_
          refine am_iald dX12_isFull_40 (am_ia.one (sh_57 g)) (am_lit rfl) ?_
          refine am_bipush 8 (v := 8) dX12_isFull_41 (by decide) ?_
          refine am_icmp_ne (7) 50 dX12_isFull_43 rfl ?_ ?_
          · intro hc5n
            have hc5n : ¬ ((h.2.1 57 0 2) = (8 : Int32)) := hc5n
            refine am_iconst 0 (v := 0) dX12_isFull_50 (by decide) ?_
            refine am_At.end ?_ (am_zret dX12_isFull_51 rfl rfl)
            first | rfl | (simp only [if_neg hc1n, if_pos hc2, if_neg hc3n, if_pos hc4, if_neg hc5n]; done) | (simp only [if_neg hc1n, if_pos hc2, if_neg hc3n, if_pos hc4, if_neg hc5n]; rfl)
          · intro hc5
            have hc5 : (h.2.1 57 0 2) = (8 : Int32) := hc5
            refine am_iconst 1 (v := 1) dX12_isFull_46 (by decide) ?_
            refine am_goto (4) 51 dX12_isFull_47 rfl ?_
            refine am_At.end ?_ (am_zret dX12_isFull_51 rfl rfl)
            first | rfl | (simp only [if_neg hc1n, if_pos hc2, if_neg hc3n, if_pos hc4, if_pos hc5]; done) | (simp only [if_neg hc1n, if_pos hc2, if_neg hc3n, if_pos hc4, if_pos hc5]; rfl)
  · intro hc1
    have hc1 : a0 = 0 := hc1
    refine am_aload_n dX12_isFull_4 rfl ?_
    refine am_getR 12 11 57 dX12_isFull_5 fg_X12_20 (sh_54 g) (by decide) rfl (rf_54_11 g) ?_
    refine am_iconst 0 (v := 0) dX12_isFull_8 (by decide) ?_
    refine am_iald dX12_isFull_9 (am_ia.one (sh_57 g)) (am_lit rfl) ?_
    refine am_bipush 16 (v := 16) dX12_isFull_10 (by decide) ?_
    refine am_icmp_eq (34) 46 dX12_isFull_12 rfl ?_ ?_
    · intro hc2
      have hc2 : (h.2.1 57 0 0) = (16 : Int32) := hc2
      refine am_iconst 1 (v := 1) dX12_isFull_46 (by decide) ?_
      refine am_goto (4) 51 dX12_isFull_47 rfl ?_
      refine am_At.end ?_ (am_zret dX12_isFull_51 rfl rfl)
      first | rfl | (simp only [if_pos hc1, if_pos hc2]; done) | (simp only [if_pos hc1, if_pos hc2]; rfl)
    · intro hc2n
      have hc2n : ¬ ((h.2.1 57 0 0) = (16 : Int32)) := hc2n
      refine am_iload_n dX12_isFull_15 rfl ?_
      refine am_iconst 1 (v := 1) dX12_isFull_16 (by decide) ?_
      refine am_icmp_ne (13) 30 dX12_isFull_17 rfl ?_ ?_
      · intro hc3n
        have hc3n : ¬ (a0 = (1 : Int32)) := hc3n
        refine am_iload_n dX12_isFull_30 rfl ?_
        refine am_iconst 2 (v := 2) dX12_isFull_31 (by decide) ?_
        refine am_icmp_ne (18) 50 dX12_isFull_32 rfl ?_ ?_
        · intro hc4n
          have hc4n : ¬ (a0 = (2 : Int32)) := hc4n
          refine am_iconst 0 (v := 0) dX12_isFull_50 (by decide) ?_
          refine am_At.end ?_ (am_zret dX12_isFull_51 rfl rfl)
          first | rfl | (simp only [if_pos hc1, if_neg hc2n, if_neg hc3n, if_neg hc4n]; done) | (simp only [if_pos hc1, if_neg hc2n, if_neg hc3n, if_neg hc4n]; rfl)
        · intro hc4
          have hc4 : a0 = (2 : Int32) := hc4
          refine am_aload_n dX12_isFull_35 rfl ?_
          refine am_getR 12 11 57 dX12_isFull_36 fg_X12_20 (sh_54 g) (by decide) rfl (rf_54_11 g) ?_
          refine am_iconst 2 (v := 2) dX12_isFull_39 (by decide) ?_
          refine am_iald dX12_isFull_40 (am_ia.one (sh_57 g)) (am_lit rfl) ?_
          refine am_bipush 8 (v := 8) dX12_isFull_41 (by decide) ?_
          refine am_icmp_ne (7) 50 dX12_isFull_43 rfl ?_ ?_
          · intro hc5n
            have hc5n : ¬ ((h.2.1 57 0 2) = (8 : Int32)) := hc5n
            refine am_iconst 0 (v := 0) dX12_isFull_50 (by decide) ?_
            refine am_At.end ?_ (am_zret dX12_isFull_51 rfl rfl)
            first | rfl | (simp only [if_pos hc1, if_neg hc2n, if_neg hc3n, if_pos hc4, if_neg hc5n]; done) | (simp only [if_pos hc1, if_neg hc2n, if_neg hc3n, if_pos hc4, if_neg hc5n]; rfl)
          · intro hc5
            have hc5 : (h.2.1 57 0 2) = (8 : Int32) := hc5
            refine am_iconst 1 (v := 1) dX12_isFull_46 (by decide) ?_
            refine am_goto (4) 51 dX12_isFull_47 rfl ?_
            refine am_At.end ?_ (am_zret dX12_isFull_51 rfl rfl)
            first | rfl | (simp only [if_pos hc1, if_neg hc2n, if_neg hc3n, if_pos hc4, if_pos hc5]; done) | (simp only [if_pos hc1, if_neg hc2n, if_neg hc3n, if_pos hc4, if_pos hc5]; rfl)
      · intro hc3
        have hc3 : a0 = (1 : Int32) := hc3
        refine am_aload_n dX12_isFull_20 rfl ?_
        refine am_getR 12 11 57 dX12_isFull_21 fg_X12_20 (sh_54 g) (by decide) rfl (rf_54_11 g) ?_
        refine am_iconst 1 (v := 1) dX12_isFull_24 (by decide) ?_
        refine am_iald dX12_isFull_25 (am_ia.one (sh_57 g)) (am_lit rfl) ?_
        refine am_iconst 4 (v := 4) dX12_isFull_26 (by decide) ?_
        refine am_icmp_eq (19) 46 dX12_isFull_27 rfl ?_ ?_
        · intro hc4
          have hc4 : (h.2.1 57 0 1) = (4 : Int32) := hc4
          refine am_iconst 1 (v := 1) dX12_isFull_46 (by decide) ?_
          refine am_goto (4) 51 dX12_isFull_47 rfl ?_
          refine am_At.end ?_ (am_zret dX12_isFull_51 rfl rfl)
          first | rfl | (simp only [if_pos hc1, if_neg hc2n, if_pos hc3, if_pos hc4]; done) | (simp only [if_pos hc1, if_neg hc2n, if_pos hc3, if_pos hc4]; rfl)
        · intro hc4n
          have hc4n : ¬ ((h.2.1 57 0 1) = (4 : Int32)) := hc4n
          refine am_iload_n dX12_isFull_30 rfl ?_
          refine am_iconst 2 (v := 2) dX12_isFull_31 (by decide) ?_
          refine am_icmp_ne (18) 50 dX12_isFull_32 rfl ?_ ?_
          · intro hc5n
            have hc5n : ¬ (a0 = (2 : Int32)) := hc5n
            refine am_iconst 0 (v := 0) dX12_isFull_50 (by decide) ?_
            refine am_At.end ?_ (am_zret dX12_isFull_51 rfl rfl)
            first | rfl | (simp only [if_pos hc1, if_neg hc2n, if_pos hc3, if_neg hc4n, if_neg hc5n]; done) | (simp only [if_pos hc1, if_neg hc2n, if_pos hc3, if_neg hc4n, if_neg hc5n]; rfl)
          · intro hc5
            have hc5 : a0 = (2 : Int32) := hc5
            refine am_aload_n dX12_isFull_35 rfl ?_
            refine am_getR 12 11 57 dX12_isFull_36 fg_X12_20 (sh_54 g) (by decide) rfl (rf_54_11 g) ?_
            refine am_iconst 2 (v := 2) dX12_isFull_39 (by decide) ?_
            refine am_iald dX12_isFull_40 (am_ia.one (sh_57 g)) (am_lit rfl) ?_
            refine am_bipush 8 (v := 8) dX12_isFull_41 (by decide) ?_
            refine am_icmp_ne (7) 50 dX12_isFull_43 rfl ?_ ?_
            · intro hc6n
              have hc6n : ¬ ((h.2.1 57 0 2) = (8 : Int32)) := hc6n
              refine am_iconst 0 (v := 0) dX12_isFull_50 (by decide) ?_
              refine am_At.end ?_ (am_zret dX12_isFull_51 rfl rfl)
              first | rfl | (simp only [if_pos hc1, if_neg hc2n, if_pos hc3, if_neg hc4n, if_pos hc5, if_neg hc6n]; done) | (simp only [if_pos hc1, if_neg hc2n, if_pos hc3, if_neg hc4n, if_pos hc5, if_neg hc6n]; rfl)
            · intro hc6
              have hc6 : (h.2.1 57 0 2) = (8 : Int32) := hc6
              refine am_iconst 1 (v := 1) dX12_isFull_46 (by decide) ?_
              refine am_goto (4) 51 dX12_isFull_47 rfl ?_
              refine am_At.end ?_ (am_zret dX12_isFull_51 rfl rfl)
              first | rfl | (simp only [if_pos hc1, if_neg hc2n, if_pos hc3, if_neg hc4n, if_pos hc5, if_pos hc6]; done) | (simp only [if_pos hc1, if_neg hc2n, if_pos hc3, if_neg hc4n, if_pos hc5, if_pos hc6]; rfl)
theorem ev_X12_isMast {d : Nat} {h : am_H} {a0 : Int32} (s1 : narrow .boolean (.int (if a0 < (0 : Int32) then (0 : Int32) else (if (9 : Int32) < a0 then (0 : Int32) else (1 : Int32)))) = .int (if a0 < (0 : Int32) then (0 : Int32) else (if (9 : Int32) < a0 then (0 : Int32) else (1 : Int32)))) : am_Ev (d + 1) mX12_isMast [am_I a0] h (.inl (some (am_I (if a0 < (0 : Int32) then (0 : Int32) else (if (9 : Int32) < a0 then (0 : Int32) else (1 : Int32)))), h)) := by
  refine am_Ev.mk (by decide +kernel) rfl rfl (Nat.le_refl _) (Nat.le_refl _) ?_
  change am_At _ _ _ 0 [_] [] _ _
  refine am_iload_n dX12_isMast_0 rfl ?_
  refine am_iconst 0 (v := 0) dX12_isMast_1 (by decide) ?_
  refine am_bipush 9 (v := 9) dX12_isMast_2 (by decide) ?_
  refine am_callS (c := 0) (k := 0) (n := 0) (w := 0) [_, _, _] dX12_isMast_4 ml_X12_137 sm_X12_in rfl (fun _ => Nat.le_of_ble_eq_true rfl) (by omega) rfl (ev_X12_in (d := d + 0)  ) rfl ?_
  change am_At _ _ _ 7 [_] [_] _ _
  exact am_zret dX12_isMast_7 rfl s1
theorem ev_X12_isSmall {d : Nat} {h : am_H} {a0 : Int32} : am_Ev (d + 0) mX12_isSmall [am_I a0] h (.inl (some (am_I (if a0 < (97 : Int32) then (0 : Int32) else (if (122 : Int32) < a0 then (0 : Int32) else (1 : Int32)))), h)) := by
  refine am_Ev.mk (by decide +kernel) rfl rfl (Nat.le_refl _) (Nat.le_refl _) ?_
  change am_At _ _ _ 0 [_] [] _ _
  refine am_iload_n dX12_isSmall_0 rfl ?_
  refine am_bipush 97 (v := 97) dX12_isSmall_1 (by decide) ?_
  refine am_icmp_lt (13) 16 dX12_isSmall_3 rfl ?_ ?_
  · intro hc1
    have hc1 : a0 < (97 : Int32) := hc1
    refine am_iconst 0 (v := 0) dX12_isSmall_16 (by decide) ?_
    refine am_At.end ?_ (am_zret dX12_isSmall_17 rfl rfl)
    first | rfl | (simp only [if_pos hc1]; done) | (simp only [if_pos hc1]; rfl)
  · intro hc1n
    have hc1n : ¬ (a0 < (97 : Int32)) := hc1n
    refine am_iload_n dX12_isSmall_6 rfl ?_
    refine am_bipush 122 (v := 122) dX12_isSmall_7 (by decide) ?_
    refine am_icmp_gt (7) 16 dX12_isSmall_9 rfl ?_ ?_
    · intro hc2
      have hc2 : (122 : Int32) < a0 := hc2
      refine am_iconst 0 (v := 0) dX12_isSmall_16 (by decide) ?_
      refine am_At.end ?_ (am_zret dX12_isSmall_17 rfl rfl)
      first | rfl | (simp only [if_neg hc1n, if_pos hc2]; done) | (simp only [if_neg hc1n, if_pos hc2]; rfl)
    · intro hc2n
      have hc2n : ¬ ((122 : Int32) < a0) := hc2n
      refine am_iconst 1 (v := 1) dX12_isSmall_12 (by decide) ?_
      refine am_goto (4) 17 dX12_isSmall_13 rfl ?_
      refine am_At.end ?_ (am_zret dX12_isSmall_17 rfl rfl)
      first | rfl | (simp only [if_neg hc1n, if_neg hc2n]; done) | (simp only [if_neg hc1n, if_neg hc2n]; rfl)
theorem ev_X12_isWeight {d : Nat} {h : am_H} {a0 : Int32} (s1 : narrow .boolean (.int (if a0 < (0 : Int32) then (0 : Int32) else (if (20 : Int32) < a0 then (0 : Int32) else (1 : Int32)))) = .int (if a0 < (0 : Int32) then (0 : Int32) else (if (20 : Int32) < a0 then (0 : Int32) else (1 : Int32)))) : am_Ev (d + 1) mX12_isWeight [am_I a0] h (.inl (some (am_I (if a0 < (0 : Int32) then (0 : Int32) else (if (20 : Int32) < a0 then (0 : Int32) else (1 : Int32)))), h)) := by
  refine am_Ev.mk (by decide +kernel) rfl rfl (Nat.le_refl _) (Nat.le_refl _) ?_
  change am_At _ _ _ 0 [_] [] _ _
  refine am_iload_n dX12_isWeight_0 rfl ?_
  refine am_iconst 0 (v := 0) dX12_isWeight_1 (by decide) ?_
  refine am_bipush 20 (v := 20) dX12_isWeight_2 (by decide) ?_
  refine am_callS (c := 0) (k := 0) (n := 0) (w := 0) [_, _, _] dX12_isWeight_4 ml_X12_137 sm_X12_in rfl (fun _ => Nat.le_of_ble_eq_true rfl) (by omega) rfl (ev_X12_in (d := d + 0)  ) rfl ?_
  change am_At _ _ _ 7 [_] [_] _ _
  exact am_zret dX12_isWeight_7 rfl s1
theorem ev_X12_isWinter {d : Nat} {h : am_H} {a0 a1 : Int32} : am_Ev (d + 1) mX12_isWinter [am_I a0, am_I a1] h (.inl (some (am_I (if (if a0 < (0 : Int32) then (0 : Int32) else (if (16 : Int32) < a0 then (0 : Int32) else (1 : Int32))) = 0 then (0 : Int32) else (if (if a1 < (1 : Int32) then (0 : Int32) else (if (240 : Int32) < a1 then (0 : Int32) else (1 : Int32))) = 0 then (0 : Int32) else (1 : Int32)))), h)) := by
  refine am_Ev.mk (by decide +kernel) rfl rfl (Nat.le_refl _) (Nat.le_refl _) ?_
  change am_At _ _ _ 0 [_, _] [] _ _
  refine am_iload_n dX12_isWinter_0 rfl ?_
  refine am_iconst 0 (v := 0) dX12_isWinter_1 (by decide) ?_
  refine am_bipush 16 (v := 16) dX12_isWinter_2 (by decide) ?_
  refine am_callS (c := 0) (k := 0) (n := 0) (w := 0) [_, _, _] dX12_isWinter_4 ml_X12_137 sm_X12_in rfl (fun _ => Nat.le_of_ble_eq_true rfl) (by omega) rfl (ev_X12_in (d := d + 0)  ) rfl ?_
  change am_At _ _ _ 7 [_, _] [_] _ _
  refine am_if_eq (18) 25 dX12_isWinter_7 rfl ?_ ?_
  · intro hc1
    have hc1 : (if a0 < (0 : Int32) then (0 : Int32) else (if (16 : Int32) < a0 then (0 : Int32) else (1 : Int32))) = 0 := hc1
    refine am_iconst 0 (v := 0) dX12_isWinter_25 (by decide) ?_
    refine am_At.end ?_ (am_zret dX12_isWinter_26 rfl rfl)
    first | rfl | (simp only [if_pos hc1]; done) | (simp only [if_pos hc1]; rfl)
  · intro hc1n
    have hc1n : ¬ ((if a0 < (0 : Int32) then (0 : Int32) else (if (16 : Int32) < a0 then (0 : Int32) else (1 : Int32))) = 0) := hc1n
    refine am_iload_n dX12_isWinter_10 rfl ?_
    refine am_iconst 1 (v := 1) dX12_isWinter_11 (by decide) ?_
    refine am_sipush 240 (v := 240) dX12_isWinter_12 (by decide) ?_
    refine am_callS (c := 0) (k := 0) (n := 0) (w := 0) [_, _, _] dX12_isWinter_15 ml_X12_137 sm_X12_in rfl (fun _ => Nat.le_of_ble_eq_true rfl) (by omega) rfl (ev_X12_in (d := d + 0)  ) rfl ?_
    change am_At _ _ _ 18 [_, _] [_] _ _
    refine am_if_eq (7) 25 dX12_isWinter_18 rfl ?_ ?_
    · intro hc2
      have hc2 : (if a1 < (1 : Int32) then (0 : Int32) else (if (240 : Int32) < a1 then (0 : Int32) else (1 : Int32))) = 0 := hc2
      refine am_iconst 0 (v := 0) dX12_isWinter_25 (by decide) ?_
      refine am_At.end ?_ (am_zret dX12_isWinter_26 rfl rfl)
      first | rfl | (simp only [if_neg hc1n, if_pos hc2]; done) | (simp only [if_neg hc1n, if_pos hc2]; rfl)
    · intro hc2n
      have hc2n : ¬ ((if a1 < (1 : Int32) then (0 : Int32) else (if (240 : Int32) < a1 then (0 : Int32) else (1 : Int32))) = 0) := hc2n
      refine am_iconst 1 (v := 1) dX12_isWinter_21 (by decide) ?_
      refine am_goto (4) 26 dX12_isWinter_22 rfl ?_
      refine am_At.end ?_ (am_zret dX12_isWinter_26 rfl rfl)
      first | rfl | (simp only [if_neg hc1n, if_neg hc2n]; done) | (simp only [if_neg hc1n, if_neg hc2n]; rfl)
theorem ev_X12_less {d : Nat} {h : am_H} {a0 a1 : Int32} : am_Ev (d + 0) mX12_less [am_I a0, am_I a1] h (.inl (some (am_I (if a1 ≤ a0 then a1 else a0)), h)) := by
  refine am_Ev.mk (by decide +kernel) rfl rfl (Nat.le_refl _) (Nat.le_refl _) ?_
  change am_At _ _ _ 0 [_, _] [] _ _
  refine am_iload_n dX12_less_0 rfl ?_
  refine am_iload_n dX12_less_1 rfl ?_
  refine am_icmp_ge (7) 9 dX12_less_2 rfl ?_ ?_
  · intro hc1
    have hc1 : a1 ≤ a0 := hc1
    refine am_iload_n dX12_less_9 rfl ?_
    refine am_At.end ?_ (am_iret dX12_less_10 rfl)
    first | rfl | (simp only [if_pos hc1]; done) | (simp only [if_pos hc1]; rfl)
  · intro hc1n
    have hc1n : ¬ (a1 ≤ a0) := hc1n
    refine am_iload_n dX12_less_5 rfl ?_
    refine am_goto (4) 10 dX12_less_6 rfl ?_
    refine am_At.end ?_ (am_iret dX12_less_10 rfl)
    first | rfl | (simp only [if_neg hc1n]; done) | (simp only [if_neg hc1n]; rfl)
theorem ev_X12_mastOf_54_72 {d : Nat} {h : am_H} (g : lay h) {a0 : Int32} (s1 : ¬ (a0 = (4 : Int32)) → vp_in a0 4) : am_Ev (d + 0) mX12_mastOf [.inr (54, 0), .inr (72, 0), am_I a0] h (.inl (some (am_I (if a0 = (4 : Int32) then (h.2.1 72 0 65) else (h.2.1 62 (a0.toNatClampNeg + 1) 0))), h)) := by
  refine am_Ev.mk (by decide +kernel) rfl rfl (Nat.le_refl _) (Nat.le_refl _) ?_
  change am_At _ _ _ 0 [_, _, _] [] _ _
  refine am_iload_n dX12_mastOf_0 rfl ?_
  refine am_iconst 4 (v := 4) dX12_mastOf_1 (by decide) ?_
  refine am_icmp_ne (10) 12 dX12_mastOf_2 rfl ?_ ?_
  · intro hc1n
    have hc1n : ¬ (a0 = (4 : Int32)) := hc1n
    refine am_aload_n dX12_mastOf_12 rfl ?_
    refine am_getR 12 16 62 dX12_mastOf_13 fg_X12_37 (sh_54 g) (by decide) rfl (rf_54_16 g) ?_
    refine am_iload_n dX12_mastOf_16 rfl ?_
    refine am_aald dX12_mastOf_17 (sh_62 g) (s1 hc1n) ?_
    refine am_iconst 0 (v := 0) dX12_mastOf_18 (by decide) ?_
    refine am_iald dX12_mastOf_19 (am_ia.row (sh_62 g) (by omega) (am_vlt (s1 hc1n))) (am_lit rfl) ?_
    refine am_At.end ?_ (am_iret dX12_mastOf_20 rfl)
    first | rfl | (simp only [if_neg hc1n]; done) | (simp only [if_neg hc1n]; rfl)
  · intro hc1
    have hc1 : a0 = (4 : Int32) := hc1
    refine am_aload_n dX12_mastOf_5 rfl ?_
    refine am_bipush 65 (v := 65) dX12_mastOf_6 (by decide) ?_
    refine am_iald dX12_mastOf_8 (am_ia.one (sh_72 g)) (am_lit rfl) ?_
    refine am_goto (11) 20 dX12_mastOf_9 rfl ?_
    refine am_At.end ?_ (am_iret dX12_mastOf_20 rfl)
    first | rfl | (simp only [if_pos hc1]; done) | (simp only [if_pos hc1]; rfl)
theorem ev_X12_mastOf_54_73 {d : Nat} {h : am_H} (g : lay h) {a0 : Int32} (s1 : ¬ (a0 = (4 : Int32)) → vp_in a0 4) : am_Ev (d + 0) mX12_mastOf [.inr (54, 0), .inr (73, 0), am_I a0] h (.inl (some (am_I (if a0 = (4 : Int32) then (h.2.1 73 0 65) else (h.2.1 62 (a0.toNatClampNeg + 1) 0))), h)) := by
  refine am_Ev.mk (by decide +kernel) rfl rfl (Nat.le_refl _) (Nat.le_refl _) ?_
  change am_At _ _ _ 0 [_, _, _] [] _ _
  refine am_iload_n dX12_mastOf_0 rfl ?_
  refine am_iconst 4 (v := 4) dX12_mastOf_1 (by decide) ?_
  refine am_icmp_ne (10) 12 dX12_mastOf_2 rfl ?_ ?_
  · intro hc1n
    have hc1n : ¬ (a0 = (4 : Int32)) := hc1n
    refine am_aload_n dX12_mastOf_12 rfl ?_
    refine am_getR 12 16 62 dX12_mastOf_13 fg_X12_37 (sh_54 g) (by decide) rfl (rf_54_16 g) ?_
    refine am_iload_n dX12_mastOf_16 rfl ?_
    refine am_aald dX12_mastOf_17 (sh_62 g) (s1 hc1n) ?_
    refine am_iconst 0 (v := 0) dX12_mastOf_18 (by decide) ?_
    refine am_iald dX12_mastOf_19 (am_ia.row (sh_62 g) (by omega) (am_vlt (s1 hc1n))) (am_lit rfl) ?_
    refine am_At.end ?_ (am_iret dX12_mastOf_20 rfl)
    first | rfl | (simp only [if_neg hc1n]; done) | (simp only [if_neg hc1n]; rfl)
  · intro hc1
    have hc1 : a0 = (4 : Int32) := hc1
    refine am_aload_n dX12_mastOf_5 rfl ?_
    refine am_bipush 65 (v := 65) dX12_mastOf_6 (by decide) ?_
    refine am_iald dX12_mastOf_8 (am_ia.one (sh_73 g)) (am_lit rfl) ?_
    refine am_goto (11) 20 dX12_mastOf_9 rfl ?_
    refine am_At.end ?_ (am_iret dX12_mastOf_20 rfl)
    first | rfl | (simp only [if_pos hc1]; done) | (simp only [if_pos hc1]; rfl)
theorem ev_X12_more {d : Nat} {h : am_H} {a0 a1 : Int32} : am_Ev (d + 0) mX12_more [am_I a0, am_I a1] h (.inl (some (am_I (if a0 ≤ a1 then a1 else a0)), h)) := by
  refine am_Ev.mk (by decide +kernel) rfl rfl (Nat.le_refl _) (Nat.le_refl _) ?_
  change am_At _ _ _ 0 [_, _] [] _ _
  refine am_iload_n dX12_more_0 rfl ?_
  refine am_iload_n dX12_more_1 rfl ?_
  refine am_icmp_le (7) 9 dX12_more_2 rfl ?_ ?_
  · intro hc1
    have hc1 : a0 ≤ a1 := hc1
    refine am_iload_n dX12_more_9 rfl ?_
    refine am_At.end ?_ (am_iret dX12_more_10 rfl)
    first | rfl | (simp only [if_pos hc1]; done) | (simp only [if_pos hc1]; rfl)
  · intro hc1n
    have hc1n : ¬ (a0 ≤ a1) := hc1n
    refine am_iload_n dX12_more_5 rfl ?_
    refine am_goto (4) 10 dX12_more_6 rfl ?_
    refine am_At.end ?_ (am_iret dX12_more_10 rfl)
    first | rfl | (simp only [if_neg hc1n]; done) | (simp only [if_neg hc1n]; rfl)
theorem ev_X12_notes {d : Nat} {h : am_H} (g : lay h) {a0 a1 : Int32} (s1 : ((h.2.1 54 0 5) = 0) → vp_in (h.2.1 54 0 20) 160) (s2 : ((h.2.1 54 0 5) = 0) → vp_in (h.2.1 54 0 20) 160) : am_Ev (d + 0) mX12_notes [.inr (54, 0), am_I a0, am_I a1] h (.inl (none, (am_hM h (if (h.2.1 54 0 5) = 0 then (am_u3 (am_u3 (am_u3 h.2.1 66 ((h.2.1 54 0 20).toNatClampNeg + 1) 0 a0) 66 ((h.2.1 54 0 20).toNatClampNeg + 1) 1 a1) 54 0 20 ((h.2.1 54 0 20) + (1 : Int32))) else h.2.1)))) := by
  refine am_Ev.mk (by decide +kernel) rfl rfl (Nat.le_refl _) (Nat.le_refl _) ?_
  change am_At _ _ _ 0 [_, _, _] [] _ _
  refine am_aload_n dX12_notes_0 rfl ?_
  refine am_getI 12 5 dX12_notes_1 fg_X12_119 (sh_54 g) (by decide) rfl ?_
  refine am_if_eq (4) 8 dX12_notes_4 rfl ?_ ?_
  · intro hc1
    have hc1 : (h.2.1 54 0 5) = 0 := hc1
    refine am_aload_n dX12_notes_8 rfl ?_
    refine am_getR 12 22 66 dX12_notes_9 fg_X12_49 (sh_54 g) (by decide) rfl (rf_54_22 g) ?_
    refine am_aload_n dX12_notes_12 rfl ?_
    refine am_getI 12 20 dX12_notes_13 fg_X12_211 (sh_54 g) (by decide) rfl ?_
    refine am_aald dX12_notes_16 (sh_66 g) (s1 hc1) ?_
    refine am_iconst 0 (v := 0) dX12_notes_17 (by decide) ?_
    refine am_iload_n dX12_notes_18 rfl ?_
    refine am_iast dX12_notes_19 (am_ia.row (sh_66 g) (by omega) (am_vlt (s1 hc1))) (am_lit rfl) ?_
    refine am_aload_n dX12_notes_20 rfl ?_
    refine am_getR 12 22 66 dX12_notes_21 fg_X12_49 (sh_54 g) (by decide) rfl (rf_54_22 g) ?_
    refine am_aload_n dX12_notes_24 rfl ?_
    refine am_getI 12 20 dX12_notes_25 fg_X12_211 (sh_54 g) (by decide) rfl ?_
    refine am_aald dX12_notes_28 (sh_66 g) (s2 hc1) ?_
    refine am_iconst 1 (v := 1) dX12_notes_29 (by decide) ?_
    refine am_iload_n dX12_notes_30 rfl ?_
    refine am_iast dX12_notes_31 (am_ia.row (sh_66 g) (by omega) (am_vlt (s2 hc1))) (am_lit rfl) ?_
    refine am_aload_n dX12_notes_32 rfl ?_
    refine am_dup dX12_notes_33 (fun _ => rfl) ?_
    refine am_getI 12 20 dX12_notes_34 fg_X12_211 (sh_54 g) (by decide) rfl ?_
    refine am_iconst 1 (v := 1) dX12_notes_37 (by decide) ?_
    refine am_iadd dX12_notes_38 ?_
    refine am_putI 12 20 dX12_notes_39 (Or.inl fp_X12_211) (sh_54 g) (by decide) rfl rfl rfl ?_
    refine am_At.end ?_ (am_vret dX12_notes_42 rfl)
    first | rfl | (simp only [if_pos hc1]; done) | (simp only [if_pos hc1]; rfl)
  · intro hc1n
    have hc1n : ¬ ((h.2.1 54 0 5) = 0) := hc1n
    refine am_At.end ?_ (am_vret dX12_notes_7 rfl)
    first | rfl | (simp only [if_neg hc1n]; done) | (simp only [if_neg hc1n]; rfl)
theorem ev_X12_puts_54_72 {d : Nat} {h : am_H} (g : lay h) {a0 a1 : Int32} (s1 : ¬ (a1 = 0) → vp_in (((h.2.1 54 0 38) + (1 : Int32)) - (1 : Int32)) 66) (s2 : (a1 = 0) → vp_in (h.2.1 54 0 38) 66) (s3 : (a1 = 0) → vp_in (((h.2.1 54 0 38) + (1 : Int32)) - (1 : Int32)) 66) : am_Ev (d + 0) mX12_puts [.inr (54, 0), .inr (72, 0), am_I a0, am_I a1] h (.inl (some (am_I (if a1 = 0 then ((am_u3 h.2.1 72 0 ((h.2.1 54 0 38).toNatClampNeg) a0) 72 0 ((((h.2.1 54 0 38) + (1 : Int32)) - (1 : Int32)).toNatClampNeg)) else (h.2.1 72 0 ((((h.2.1 54 0 38) + (1 : Int32)) - (1 : Int32)).toNatClampNeg)))), (am_hM h (if a1 = 0 then (am_u3 (am_u3 h.2.1 72 0 ((h.2.1 54 0 38).toNatClampNeg) a0) 54 0 38 ((h.2.1 54 0 38) + (1 : Int32))) else (am_u3 h.2.1 54 0 38 ((h.2.1 54 0 38) + (1 : Int32))))))) := by
  refine am_Ev.mk (by decide +kernel) rfl rfl (Nat.le_refl _) (Nat.le_refl _) ?_
  change am_At _ _ _ 0 [_, _, _, _] [] _ _
  refine am_iload_n dX12_puts_0 rfl ?_
  refine am_if_ne (10) 11 dX12_puts_1 rfl ?_ ?_
  · intro hc1n
    have hc1n : ¬ (a1 = 0) := hc1n
    refine am_aload_n dX12_puts_11 rfl ?_
    refine am_dup dX12_puts_12 (fun _ => rfl) ?_
    refine am_getI 12 38 dX12_puts_13 fg_X12_383 (sh_54 g) (by decide) rfl ?_
    refine am_iconst 1 (v := 1) dX12_puts_16 (by decide) ?_
    refine am_iadd dX12_puts_17 ?_
    refine am_putI 12 38 dX12_puts_18 (Or.inl fp_X12_383) (sh_54 g) (by decide) rfl rfl rfl ?_
    refine am_aload_n dX12_puts_21 rfl ?_
    refine am_aload_n dX12_puts_22 rfl ?_
    refine am_getI 12 38 dX12_puts_23 fg_X12_383 (sh_54 g) (by decide) rfl ?_
    refine am_iconst 1 (v := 1) dX12_puts_26 (by decide) ?_
    refine am_isub dX12_puts_27 ?_
    refine am_iald dX12_puts_28 (am_ia.one (sh_72 g)) (s1 hc1n) ?_
    refine am_At.end ?_ (am_iret dX12_puts_29 rfl)
    first | rfl | (simp only [if_neg hc1n]; done) | (simp only [if_neg hc1n]; rfl)
  · intro hc1
    have hc1 : a1 = 0 := hc1
    refine am_aload_n dX12_puts_4 rfl ?_
    refine am_aload_n dX12_puts_5 rfl ?_
    refine am_getI 12 38 dX12_puts_6 fg_X12_383 (sh_54 g) (by decide) rfl ?_
    refine am_iload_n dX12_puts_9 rfl ?_
    refine am_iast dX12_puts_10 (am_ia.one (sh_72 g)) (s2 hc1) ?_
    refine am_aload_n dX12_puts_11 rfl ?_
    refine am_dup dX12_puts_12 (fun _ => rfl) ?_
    refine am_getI 12 38 dX12_puts_13 fg_X12_383 (sh_54 g) (by decide) rfl ?_
    refine am_iconst 1 (v := 1) dX12_puts_16 (by decide) ?_
    refine am_iadd dX12_puts_17 ?_
    refine am_putI 12 38 dX12_puts_18 (Or.inl fp_X12_383) (sh_54 g) (by decide) rfl rfl rfl ?_
    refine am_aload_n dX12_puts_21 rfl ?_
    refine am_aload_n dX12_puts_22 rfl ?_
    refine am_getI 12 38 dX12_puts_23 fg_X12_383 (sh_54 g) (by decide) rfl ?_
    refine am_iconst 1 (v := 1) dX12_puts_26 (by decide) ?_
    refine am_isub dX12_puts_27 ?_
    refine am_iald dX12_puts_28 (am_ia.one (sh_72 g)) (s3 hc1) ?_
    refine am_At.end ?_ (am_iret dX12_puts_29 rfl)
    first | rfl | (simp only [if_pos hc1]; done) | (simp only [if_pos hc1]; rfl)
theorem ev_X12_puts_54_73 {d : Nat} {h : am_H} (g : lay h) {a0 a1 : Int32} (s1 : ¬ (a1 = 0) → vp_in (((h.2.1 54 0 38) + (1 : Int32)) - (1 : Int32)) 66) (s2 : (a1 = 0) → vp_in (h.2.1 54 0 38) 66) (s3 : (a1 = 0) → vp_in (((h.2.1 54 0 38) + (1 : Int32)) - (1 : Int32)) 66) : am_Ev (d + 0) mX12_puts [.inr (54, 0), .inr (73, 0), am_I a0, am_I a1] h (.inl (some (am_I (if a1 = 0 then ((am_u3 h.2.1 73 0 ((h.2.1 54 0 38).toNatClampNeg) a0) 73 0 ((((h.2.1 54 0 38) + (1 : Int32)) - (1 : Int32)).toNatClampNeg)) else (h.2.1 73 0 ((((h.2.1 54 0 38) + (1 : Int32)) - (1 : Int32)).toNatClampNeg)))), (am_hM h (if a1 = 0 then (am_u3 (am_u3 h.2.1 73 0 ((h.2.1 54 0 38).toNatClampNeg) a0) 54 0 38 ((h.2.1 54 0 38) + (1 : Int32))) else (am_u3 h.2.1 54 0 38 ((h.2.1 54 0 38) + (1 : Int32))))))) := by
  refine am_Ev.mk (by decide +kernel) rfl rfl (Nat.le_refl _) (Nat.le_refl _) ?_
  change am_At _ _ _ 0 [_, _, _, _] [] _ _
  refine am_iload_n dX12_puts_0 rfl ?_
  refine am_if_ne (10) 11 dX12_puts_1 rfl ?_ ?_
  · intro hc1n
    have hc1n : ¬ (a1 = 0) := hc1n
    refine am_aload_n dX12_puts_11 rfl ?_
    refine am_dup dX12_puts_12 (fun _ => rfl) ?_
    refine am_getI 12 38 dX12_puts_13 fg_X12_383 (sh_54 g) (by decide) rfl ?_
    refine am_iconst 1 (v := 1) dX12_puts_16 (by decide) ?_
    refine am_iadd dX12_puts_17 ?_
    refine am_putI 12 38 dX12_puts_18 (Or.inl fp_X12_383) (sh_54 g) (by decide) rfl rfl rfl ?_
    refine am_aload_n dX12_puts_21 rfl ?_
    refine am_aload_n dX12_puts_22 rfl ?_
    refine am_getI 12 38 dX12_puts_23 fg_X12_383 (sh_54 g) (by decide) rfl ?_
    refine am_iconst 1 (v := 1) dX12_puts_26 (by decide) ?_
    refine am_isub dX12_puts_27 ?_
    refine am_iald dX12_puts_28 (am_ia.one (sh_73 g)) (s1 hc1n) ?_
    refine am_At.end ?_ (am_iret dX12_puts_29 rfl)
    first | rfl | (simp only [if_neg hc1n]; done) | (simp only [if_neg hc1n]; rfl)
  · intro hc1
    have hc1 : a1 = 0 := hc1
    refine am_aload_n dX12_puts_4 rfl ?_
    refine am_aload_n dX12_puts_5 rfl ?_
    refine am_getI 12 38 dX12_puts_6 fg_X12_383 (sh_54 g) (by decide) rfl ?_
    refine am_iload_n dX12_puts_9 rfl ?_
    refine am_iast dX12_puts_10 (am_ia.one (sh_73 g)) (s2 hc1) ?_
    refine am_aload_n dX12_puts_11 rfl ?_
    refine am_dup dX12_puts_12 (fun _ => rfl) ?_
    refine am_getI 12 38 dX12_puts_13 fg_X12_383 (sh_54 g) (by decide) rfl ?_
    refine am_iconst 1 (v := 1) dX12_puts_16 (by decide) ?_
    refine am_iadd dX12_puts_17 ?_
    refine am_putI 12 38 dX12_puts_18 (Or.inl fp_X12_383) (sh_54 g) (by decide) rfl rfl rfl ?_
    refine am_aload_n dX12_puts_21 rfl ?_
    refine am_aload_n dX12_puts_22 rfl ?_
    refine am_getI 12 38 dX12_puts_23 fg_X12_383 (sh_54 g) (by decide) rfl ?_
    refine am_iconst 1 (v := 1) dX12_puts_26 (by decide) ?_
    refine am_isub dX12_puts_27 ?_
    refine am_iald dX12_puts_28 (am_ia.one (sh_73 g)) (s3 hc1) ?_
    refine am_At.end ?_ (am_iret dX12_puts_29 rfl)
    first | rfl | (simp only [if_pos hc1]; done) | (simp only [if_pos hc1]; rfl)
theorem ev_X12_six {d : Nat} {h : am_H} {a0 a1 a2 a3 a4 a5 : Int32} : am_Ev (d + 0) mX12_six [am_I a0, am_I a1, am_I a2, am_I a3, am_I a4, am_I a5] h (.inl (some (am_I (if a3 = 0 then (if a4 = 0 then (if a5 = 0 then (((27 : Int32) * (((27 : Int32) * a0) + a1)) + a2) else (((27 : Int32) * (((27 : Int32) * (((27 : Int32) * a0) + a1)) + a2)) + a5)) else (if a5 = 0 then (((27 : Int32) * (((27 : Int32) * (((27 : Int32) * a0) + a1)) + a2)) + a4) else (((27 : Int32) * (((27 : Int32) * (((27 : Int32) * (((27 : Int32) * a0) + a1)) + a2)) + a4)) + a5))) else (if a4 = 0 then (if a5 = 0 then (((27 : Int32) * (((27 : Int32) * (((27 : Int32) * a0) + a1)) + a2)) + a3) else (((27 : Int32) * (((27 : Int32) * (((27 : Int32) * (((27 : Int32) * a0) + a1)) + a2)) + a3)) + a5)) else (if a5 = 0 then (((27 : Int32) * (((27 : Int32) * (((27 : Int32) * (((27 : Int32) * a0) + a1)) + a2)) + a3)) + a4) else (((27 : Int32) * (((27 : Int32) * (((27 : Int32) * (((27 : Int32) * (((27 : Int32) * a0) + a1)) + a2)) + a3)) + a4)) + a5))))), h)) := by
  refine am_Ev.mk (by decide +kernel) rfl rfl (Nat.le_refl _) (Nat.le_refl _) ?_
  change am_At _ _ _ 0 [_, _, _, _, _, _, _] [] _ _
  refine am_bipush 27 (v := 27) dX12_six_0 (by decide) ?_
  refine am_bipush 27 (v := 27) dX12_six_2 (by decide) ?_
  refine am_iload_n dX12_six_4 rfl ?_
  refine am_imul dX12_six_5 ?_
  refine am_iload_n dX12_six_6 rfl ?_
  refine am_iadd dX12_six_7 ?_
  refine am_imul dX12_six_8 ?_
  refine am_iload_n dX12_six_9 rfl ?_
  refine am_iadd dX12_six_10 ?_
  refine am_istore dX12_six_11 (am_lb rfl) ?_
  change am_At _ _ _ 13 [_, _, _, _, _, _, _] [] _ _
  refine am_iload_n dX12_six_13 rfl ?_
  refine am_if_ne (8) 22 dX12_six_14 rfl ?_ ?_
  · intro hc1n
    have hc1n : ¬ (a3 = 0) := hc1n
    refine am_bipush 27 (v := 27) dX12_six_22 (by decide) ?_
    refine am_iload dX12_six_24 rfl ?_
    refine am_imul dX12_six_26 ?_
    refine am_iload_n dX12_six_27 rfl ?_
    refine am_iadd dX12_six_28 ?_
    refine am_istore dX12_six_29 (am_lb rfl) ?_
    change am_At _ _ _ 31 [_, _, _, _, _, _, _] [] _ _
    refine am_iload dX12_six_31 rfl ?_
    refine am_if_ne (8) 41 dX12_six_33 rfl ?_ ?_
    · intro hc2n
      have hc2n : ¬ (a4 = 0) := hc2n
      refine am_bipush 27 (v := 27) dX12_six_41 (by decide) ?_
      refine am_iload dX12_six_43 rfl ?_
      refine am_imul dX12_six_45 ?_
      refine am_iload dX12_six_46 rfl ?_
      refine am_iadd dX12_six_48 ?_
      refine am_istore dX12_six_49 (am_lb rfl) ?_
      change am_At _ _ _ 51 [_, _, _, _, _, _, _] [] _ _
      refine am_iload dX12_six_51 rfl ?_
      refine am_if_ne (8) 61 dX12_six_53 rfl ?_ ?_
      · intro hc3n
        have hc3n : ¬ (a5 = 0) := hc3n
        refine am_bipush 27 (v := 27) dX12_six_61 (by decide) ?_
        refine am_iload dX12_six_63 rfl ?_
        refine am_imul dX12_six_65 ?_
        refine am_iload dX12_six_66 rfl ?_
        refine am_iadd dX12_six_68 ?_
        refine am_At.end ?_ (am_iret dX12_six_69 rfl)
        first | rfl | (simp only [if_neg hc1n, if_neg hc2n, if_neg hc3n]; done) | (simp only [if_neg hc1n, if_neg hc2n, if_neg hc3n]; rfl)
      · intro hc3
        have hc3 : a5 = 0 := hc3
        refine am_iload dX12_six_56 rfl ?_
        refine am_goto (11) 69 dX12_six_58 rfl ?_
        refine am_At.end ?_ (am_iret dX12_six_69 rfl)
        first | rfl | (simp only [if_neg hc1n, if_neg hc2n, if_pos hc3]; done) | (simp only [if_neg hc1n, if_neg hc2n, if_pos hc3]; rfl)
    · intro hc2
      have hc2 : a4 = 0 := hc2
      refine am_iload dX12_six_36 rfl ?_
      refine am_goto (11) 49 dX12_six_38 rfl ?_
      refine am_istore dX12_six_49 (am_lb rfl) ?_
      change am_At _ _ _ 51 [_, _, _, _, _, _, _] [] _ _
      refine am_iload dX12_six_51 rfl ?_
      refine am_if_ne (8) 61 dX12_six_53 rfl ?_ ?_
      · intro hc3n
        have hc3n : ¬ (a5 = 0) := hc3n
        refine am_bipush 27 (v := 27) dX12_six_61 (by decide) ?_
        refine am_iload dX12_six_63 rfl ?_
        refine am_imul dX12_six_65 ?_
        refine am_iload dX12_six_66 rfl ?_
        refine am_iadd dX12_six_68 ?_
        refine am_At.end ?_ (am_iret dX12_six_69 rfl)
        first | rfl | (simp only [if_neg hc1n, if_pos hc2, if_neg hc3n]; done) | (simp only [if_neg hc1n, if_pos hc2, if_neg hc3n]; rfl)
      · intro hc3
        have hc3 : a5 = 0 := hc3
        refine am_iload dX12_six_56 rfl ?_
        refine am_goto (11) 69 dX12_six_58 rfl ?_
        refine am_At.end ?_ (am_iret dX12_six_69 rfl)
        first | rfl | (simp only [if_neg hc1n, if_pos hc2, if_pos hc3]; done) | (simp only [if_neg hc1n, if_pos hc2, if_pos hc3]; rfl)
  · intro hc1
    have hc1 : a3 = 0 := hc1
    refine am_iload dX12_six_17 rfl ?_
    refine am_goto (10) 29 dX12_six_19 rfl ?_
    refine am_istore dX12_six_29 (am_lb rfl) ?_
    change am_At _ _ _ 31 [_, _, _, _, _, _, _] [] _ _
    refine am_iload dX12_six_31 rfl ?_
    refine am_if_ne (8) 41 dX12_six_33 rfl ?_ ?_
    · intro hc2n
      have hc2n : ¬ (a4 = 0) := hc2n
      refine am_bipush 27 (v := 27) dX12_six_41 (by decide) ?_
      refine am_iload dX12_six_43 rfl ?_
      refine am_imul dX12_six_45 ?_
      refine am_iload dX12_six_46 rfl ?_
      refine am_iadd dX12_six_48 ?_
      refine am_istore dX12_six_49 (am_lb rfl) ?_
      change am_At _ _ _ 51 [_, _, _, _, _, _, _] [] _ _
      refine am_iload dX12_six_51 rfl ?_
      refine am_if_ne (8) 61 dX12_six_53 rfl ?_ ?_
      · intro hc3n
        have hc3n : ¬ (a5 = 0) := hc3n
        refine am_bipush 27 (v := 27) dX12_six_61 (by decide) ?_
        refine am_iload dX12_six_63 rfl ?_
        refine am_imul dX12_six_65 ?_
        refine am_iload dX12_six_66 rfl ?_
        refine am_iadd dX12_six_68 ?_
        refine am_At.end ?_ (am_iret dX12_six_69 rfl)
        first | rfl | (simp only [if_pos hc1, if_neg hc2n, if_neg hc3n]; done) | (simp only [if_pos hc1, if_neg hc2n, if_neg hc3n]; rfl)
      · intro hc3
        have hc3 : a5 = 0 := hc3
        refine am_iload dX12_six_56 rfl ?_
        refine am_goto (11) 69 dX12_six_58 rfl ?_
        refine am_At.end ?_ (am_iret dX12_six_69 rfl)
        first | rfl | (simp only [if_pos hc1, if_neg hc2n, if_pos hc3]; done) | (simp only [if_pos hc1, if_neg hc2n, if_pos hc3]; rfl)
    · intro hc2
      have hc2 : a4 = 0 := hc2
      refine am_iload dX12_six_36 rfl ?_
      refine am_goto (11) 49 dX12_six_38 rfl ?_
      refine am_istore dX12_six_49 (am_lb rfl) ?_
      change am_At _ _ _ 51 [_, _, _, _, _, _, _] [] _ _
      refine am_iload dX12_six_51 rfl ?_
      refine am_if_ne (8) 61 dX12_six_53 rfl ?_ ?_
      · intro hc3n
        have hc3n : ¬ (a5 = 0) := hc3n
        refine am_bipush 27 (v := 27) dX12_six_61 (by decide) ?_
        refine am_iload dX12_six_63 rfl ?_
        refine am_imul dX12_six_65 ?_
        refine am_iload dX12_six_66 rfl ?_
        refine am_iadd dX12_six_68 ?_
        refine am_At.end ?_ (am_iret dX12_six_69 rfl)
        first | rfl | (simp only [if_pos hc1, if_pos hc2, if_neg hc3n]; done) | (simp only [if_pos hc1, if_pos hc2, if_neg hc3n]; rfl)
      · intro hc3
        have hc3 : a5 = 0 := hc3
        refine am_iload dX12_six_56 rfl ?_
        refine am_goto (11) 69 dX12_six_58 rfl ?_
        refine am_At.end ?_ (am_iret dX12_six_69 rfl)
        first | rfl | (simp only [if_pos hc1, if_pos hc2, if_pos hc3]; done) | (simp only [if_pos hc1, if_pos hc2, if_pos hc3]; rfl)
theorem ev_X12_status {d : Nat} {h : am_H} (g : lay h) {a0 : Int32} (s1 : ¬ ((if a0 < (0 : Int32) then (0 : Int32) else (if (1 : Int32) < a0 then (0 : Int32) else (1 : Int32))) = 0) → vp_in a0 2) : am_Ev (d + 1) mX12_status [.inr (54, 0), am_I a0] h (.inl (some (am_I (if (if a0 < (0 : Int32) then (0 : Int32) else (if (1 : Int32) < a0 then (0 : Int32) else (1 : Int32))) = 0 then (-1 : Int32) else (h.2.1 56 0 a0.toNatClampNeg))), (am_hM h (am_u3 h.2.1 54 0 0 (0 : Int32))))) := by
  refine am_Ev.mk (by decide +kernel) rfl rfl (Nat.le_refl _) (Nat.le_refl _) ?_
  change am_At _ _ _ 0 [_, _] [] _ _
  refine am_aload_n dX12_status_0 rfl ?_
  refine am_iconst 0 (v := 0) dX12_status_1 (by decide) ?_
  refine am_putI 12 0 dX12_status_2 (Or.inl fp_X12_103) (sh_54 g) (by decide) rfl rfl rfl ?_
  refine am_iload_n dX12_status_5 rfl ?_
  refine am_iconst 0 (v := 0) dX12_status_6 (by decide) ?_
  refine am_iconst 1 (v := 1) dX12_status_7 (by decide) ?_
  refine am_callS (c := 0) (k := 0) (n := 0) (w := 0) [_, _, _] dX12_status_8 ml_X12_137 sm_X12_in rfl (fun _ => Nat.le_of_ble_eq_true rfl) (by omega) rfl (ev_X12_in (d := d + 0) (h := am_hM h (am_u3 h.2.1 54 0 0 (0 : Int32)))  ) rfl ?_
  change am_At _ _ _ 11 [_, _] [_] _ _
  refine am_if_eq (12) 23 dX12_status_11 rfl ?_ ?_
  · intro hc1
    have hc1 : (if a0 < (0 : Int32) then (0 : Int32) else (if (1 : Int32) < a0 then (0 : Int32) else (1 : Int32))) = 0 := hc1
    refine am_iconst (-1) (v := (-1)) dX12_status_23 (by decide) ?_
    refine am_At.end ?_ (am_iret dX12_status_24 rfl)
    first | rfl | (simp only [if_pos hc1]; done) | (simp only [if_pos hc1]; rfl)
  · intro hc1n
    have hc1n : ¬ ((if a0 < (0 : Int32) then (0 : Int32) else (if (1 : Int32) < a0 then (0 : Int32) else (1 : Int32))) = 0) := hc1n
    refine am_aload_n dX12_status_14 rfl ?_
    refine am_getR 12 10 56 dX12_status_15 fg_X12_17 (sh_54 g) (by decide) rfl (rf_54_10 g) ?_
    refine am_iload_n dX12_status_18 rfl ?_
    refine am_iald dX12_status_19 (am_ia.one (sh_56 g)) (s1 hc1n) ?_
    refine am_goto (4) 24 dX12_status_20 rfl ?_
    refine am_At.end ?_ (am_iret dX12_status_24 rfl)
    first | rfl | (simp only [if_neg hc1n]; done) | (simp only [if_neg hc1n]; rfl)
theorem ev_X12_thrown {d : Nat} {h : am_H} (g : lay h) : am_Ev (d + 0) mX12_thrown [.inr (54, 0)] h (.inl (some (am_I (h.2.1 54 0 0)), h)) := by
  refine am_Ev.mk (by decide +kernel) rfl rfl (Nat.le_refl _) (Nat.le_refl _) ?_
  change am_At _ _ _ 0 [_] [] _ _
  refine am_aload_n dX12_thrown_0 rfl ?_
  refine am_getI 12 0 dX12_thrown_1 fg_X12_103 (sh_54 g) (by decide) rfl ?_
  exact am_iret dX12_thrown_4 rfl
theorem ev_X12_wrong {d : Nat} {h : am_H} (g : lay h) {a0 a1 : Int32} : am_Ev (d + 0) mX12_wrong [.inr (54, 0), am_I a0, am_I a1] h (.inl (none, (am_hM h (if (h.2.1 54 0 5) = 0 then (am_u3 (am_u3 h.2.1 54 0 5 a0) 54 0 6 a1) else h.2.1)))) := by
  refine am_Ev.mk (by decide +kernel) rfl rfl (Nat.le_refl _) (Nat.le_refl _) ?_
  change am_At _ _ _ 0 [_, _, _] [] _ _
  refine am_aload_n dX12_wrong_0 rfl ?_
  refine am_getI 12 5 dX12_wrong_1 fg_X12_119 (sh_54 g) (by decide) rfl ?_
  refine am_if_ne (13) 17 dX12_wrong_4 rfl ?_ ?_
  · intro hc1n
    have hc1n : ¬ ((h.2.1 54 0 5) = 0) := hc1n
    refine am_At.end ?_ (am_vret dX12_wrong_17 rfl)
    first | rfl | (simp only [if_neg hc1n]; done) | (simp only [if_neg hc1n]; rfl)
  · intro hc1
    have hc1 : (h.2.1 54 0 5) = 0 := hc1
    refine am_aload_n dX12_wrong_7 rfl ?_
    refine am_iload_n dX12_wrong_8 rfl ?_
    refine am_putI 12 5 dX12_wrong_9 (Or.inl fp_X12_119) (sh_54 g) (by decide) rfl rfl rfl ?_
    refine am_aload_n dX12_wrong_12 rfl ?_
    refine am_iload_n dX12_wrong_13 rfl ?_
    refine am_putI 12 6 dX12_wrong_14 (Or.inl fp_X12_122) (sh_54 g) (by decide) rfl rfl rfl ?_
    refine am_At.end ?_ (am_vret dX12_wrong_17 rfl)
    first | rfl | (simp only [if_pos hc1]; done) | (simp only [if_pos hc1]; rfl)
theorem ev_X1_hoursTo_3 {d : Nat} {h : am_H} (g : lay h) {a0 : Int32} (s1 : ¬ ((h.2.1 3 0 12) ≤ 0) → ¬ (h.2.1 3 0 12) = 0) : am_Ev (d + 0) mX1_hoursTo [.inr (3, 0), am_I a0] h (.inl (some (am_I (if (h.2.1 3 0 12) ≤ 0 then (0 : Int32) else (a0 / (h.2.1 3 0 12)))), h)) := by
  refine am_Ev.mk (by decide +kernel) rfl rfl (Nat.le_refl _) (Nat.le_refl _) ?_
  change am_At _ _ _ 0 [_, _] [] _ _
  refine am_aload_n dX1_hoursTo_0 rfl ?_
  refine am_getI 1 12 dX1_hoursTo_1 fg_X1_39 (sh_3 g) (by decide) rfl ?_
  refine am_if_le (12) 16 dX1_hoursTo_4 rfl ?_ ?_
  · intro hc1
    have hc1 : (h.2.1 3 0 12) ≤ 0 := hc1
    refine am_iconst 0 (v := 0) dX1_hoursTo_16 (by decide) ?_
    refine am_At.end ?_ (am_iret dX1_hoursTo_17 rfl)
    first | rfl | (simp only [if_pos hc1]; done) | (simp only [if_pos hc1]; rfl)
  · intro hc1n
    have hc1n : ¬ ((h.2.1 3 0 12) ≤ 0) := hc1n
    refine am_iload_n dX1_hoursTo_7 rfl ?_
    refine am_aload_n dX1_hoursTo_8 rfl ?_
    refine am_getI 1 12 dX1_hoursTo_9 fg_X1_39 (sh_3 g) (by decide) rfl ?_
    refine am_idiv dX1_hoursTo_12 (s1 hc1n) ?_
    refine am_goto (4) 17 dX1_hoursTo_13 rfl ?_
    refine am_At.end ?_ (am_iret dX1_hoursTo_17 rfl)
    first | rfl | (simp only [if_neg hc1n]; done) | (simp only [if_neg hc1n]; rfl)
theorem ev_X1_hoursTo_13 {d : Nat} {h : am_H} (g : lay h) {a0 : Int32} (s1 : ¬ ((h.2.1 13 0 12) ≤ 0) → ¬ (h.2.1 13 0 12) = 0) : am_Ev (d + 0) mX1_hoursTo [.inr (13, 0), am_I a0] h (.inl (some (am_I (if (h.2.1 13 0 12) ≤ 0 then (0 : Int32) else (a0 / (h.2.1 13 0 12)))), h)) := by
  refine am_Ev.mk (by decide +kernel) rfl rfl (Nat.le_refl _) (Nat.le_refl _) ?_
  change am_At _ _ _ 0 [_, _] [] _ _
  refine am_aload_n dX1_hoursTo_0 rfl ?_
  refine am_getI 1 12 dX1_hoursTo_1 fg_X1_39 (sh_13 g) (by decide) rfl ?_
  refine am_if_le (12) 16 dX1_hoursTo_4 rfl ?_ ?_
  · intro hc1
    have hc1 : (h.2.1 13 0 12) ≤ 0 := hc1
    refine am_iconst 0 (v := 0) dX1_hoursTo_16 (by decide) ?_
    refine am_At.end ?_ (am_iret dX1_hoursTo_17 rfl)
    first | rfl | (simp only [if_pos hc1]; done) | (simp only [if_pos hc1]; rfl)
  · intro hc1n
    have hc1n : ¬ ((h.2.1 13 0 12) ≤ 0) := hc1n
    refine am_iload_n dX1_hoursTo_7 rfl ?_
    refine am_aload_n dX1_hoursTo_8 rfl ?_
    refine am_getI 1 12 dX1_hoursTo_9 fg_X1_39 (sh_13 g) (by decide) rfl ?_
    refine am_idiv dX1_hoursTo_12 (s1 hc1n) ?_
    refine am_goto (4) 17 dX1_hoursTo_13 rfl ?_
    refine am_At.end ?_ (am_iret dX1_hoursTo_17 rfl)
    first | rfl | (simp only [if_neg hc1n]; done) | (simp only [if_neg hc1n]; rfl)
theorem ev_X3_isNestedDeeper {d : Nat} {h : am_H} (g : lay h) {a0 : Int32} : am_Ev (d + 2) mX3_isNestedDeeper [.inr (1, 0), am_I a0] h (.inl (some (am_I (if a0 = (6 : Int32) then (if (if ((if (h.2.1 1 0 5) = 0 then (am_u3 (am_u3 h.2.1 1 0 5 (3 : Int32)) 1 0 6 (h.2.1 1 0 4)) else h.2.1) 1 0 5) = 0 then (0 : Int32) else (1 : Int32)) = 0 then (1 : Int32) else (0 : Int32)) else (if (if (h.2.1 1 0 5) = 0 then (0 : Int32) else (1 : Int32)) = 0 then (1 : Int32) else (0 : Int32)))), (am_hM h (if a0 = (6 : Int32) then (if (if ((if (h.2.1 1 0 5) = 0 then (am_u3 (am_u3 h.2.1 1 0 5 (3 : Int32)) 1 0 6 (h.2.1 1 0 4)) else h.2.1) 1 0 5) = 0 then (0 : Int32) else (1 : Int32)) = 0 then (if (h.2.1 1 0 5) = 0 then (am_u3 (am_u3 h.2.1 1 0 5 (3 : Int32)) 1 0 6 (h.2.1 1 0 4)) else h.2.1) else (if (h.2.1 1 0 5) = 0 then (am_u3 (am_u3 h.2.1 1 0 5 (3 : Int32)) 1 0 6 (h.2.1 1 0 4)) else h.2.1)) else (if (if (h.2.1 1 0 5) = 0 then (0 : Int32) else (1 : Int32)) = 0 then h.2.1 else h.2.1))))) := by
  refine am_Ev.mk (by decide +kernel) rfl rfl (Nat.le_refl _) (Nat.le_refl _) ?_
  change am_At _ _ _ 0 [_, _] [] _ _
  refine am_iload_n dX3_isNestedDeeper_0 rfl ?_
  refine am_bipush 6 (v := 6) dX3_isNestedDeeper_1 (by decide) ?_
  refine am_icmp_ne (8) 11 dX3_isNestedDeeper_3 rfl ?_ ?_
  · intro hc1n
    have hc1n : ¬ (a0 = (6 : Int32)) := hc1n
    refine am_aload_n dX3_isNestedDeeper_11 rfl ?_
    refine am_callV [] dX3_isNestedDeeper_12 ml_X3_47 vm_X10_isFaulty (sh_1 g) rfl (fun _ => Nat.le_of_ble_eq_true rfl) (by omega) rfl (ev_X10_isFaulty (d := d + 1) g ) rfl ?_
    change am_At _ _ _ 15 [_, _] [_] _ _
    refine am_if_ne (7) 22 dX3_isNestedDeeper_15 rfl ?_ ?_
    · intro hc2n
      have hc2n : ¬ ((if (h.2.1 1 0 5) = 0 then (0 : Int32) else (1 : Int32)) = 0) := hc2n
      refine am_iconst 0 (v := 0) dX3_isNestedDeeper_22 (by decide) ?_
      refine am_At.end ?_ (am_zret dX3_isNestedDeeper_23 rfl rfl)
      first | rfl | (simp only [if_neg hc1n, if_neg hc2n]; done) | (simp only [if_neg hc1n, if_neg hc2n]; rfl)
    · intro hc2
      have hc2 : (if (h.2.1 1 0 5) = 0 then (0 : Int32) else (1 : Int32)) = 0 := hc2
      refine am_iconst 1 (v := 1) dX3_isNestedDeeper_18 (by decide) ?_
      refine am_goto (4) 23 dX3_isNestedDeeper_19 rfl ?_
      refine am_At.end ?_ (am_zret dX3_isNestedDeeper_23 rfl rfl)
      first | rfl | (simp only [if_neg hc1n, if_pos hc2]; done) | (simp only [if_neg hc1n, if_pos hc2]; rfl)
  · intro hc1
    have hc1 : a0 = (6 : Int32) := hc1
    refine am_aload_n dX3_isNestedDeeper_6 rfl ?_
    refine am_iconst 3 (v := 3) dX3_isNestedDeeper_7 (by decide) ?_
    refine am_callV [_] dX3_isNestedDeeper_8 ml_X3_94 vm_X10_blameToken (sh_1 g) rfl (fun _ => Nat.le_of_ble_eq_true rfl) (by omega) rfl (ev_X10_blameToken (d := d + 0) g ) rfl ?_
    change am_At _ _ _ 11 [_, _] [] _ _
    refine am_aload_n dX3_isNestedDeeper_11 rfl ?_
    refine am_callV [] dX3_isNestedDeeper_12 ml_X3_47 vm_X10_isFaulty (sh_1 g) rfl (fun _ => Nat.le_of_ble_eq_true rfl) (by omega) rfl (ev_X10_isFaulty (d := d + 1) g ) rfl ?_
    change am_At _ _ _ 15 [_, _] [_] _ _
    refine am_if_ne (7) 22 dX3_isNestedDeeper_15 rfl ?_ ?_
    · intro hc2n
      have hc2n : ¬ ((if ((if (h.2.1 1 0 5) = 0 then (am_u3 (am_u3 h.2.1 1 0 5 (3 : Int32)) 1 0 6 (h.2.1 1 0 4)) else h.2.1) 1 0 5) = 0 then (0 : Int32) else (1 : Int32)) = 0) := hc2n
      refine am_iconst 0 (v := 0) dX3_isNestedDeeper_22 (by decide) ?_
      refine am_At.end ?_ (am_zret dX3_isNestedDeeper_23 rfl rfl)
      first | rfl | (simp only [if_pos hc1, if_neg hc2n]; done) | (simp only [if_pos hc1, if_neg hc2n]; rfl)
    · intro hc2
      have hc2 : (if ((if (h.2.1 1 0 5) = 0 then (am_u3 (am_u3 h.2.1 1 0 5 (3 : Int32)) 1 0 6 (h.2.1 1 0 4)) else h.2.1) 1 0 5) = 0 then (0 : Int32) else (1 : Int32)) = 0 := hc2
      refine am_iconst 1 (v := 1) dX3_isNestedDeeper_18 (by decide) ?_
      refine am_goto (4) 23 dX3_isNestedDeeper_19 rfl ?_
      refine am_At.end ?_ (am_zret dX3_isNestedDeeper_23 rfl rfl)
      first | rfl | (simp only [if_pos hc1, if_pos hc2]; done) | (simp only [if_pos hc1, if_pos hc2]; rfl)
theorem ev_X3_join {d : Nat} {h : am_H} {a0 a1 a2 : Int32} (s1 : ¬ (a0 = (8 : Int32)) → ¬ (a0 = (9 : Int32)) → ¬ (a0 = (10 : Int32)) → ¬ (a0 = (11 : Int32)) → ¬ (a0 = (12 : Int32)) → (a0 = (13 : Int32)) → ¬ (a2 = 0) → ¬ a2 = 0) (s2 : ¬ (a0 = (8 : Int32)) → ¬ (a0 = (9 : Int32)) → ¬ (a0 = (10 : Int32)) → ¬ (a0 = (11 : Int32)) → ¬ (a0 = (12 : Int32)) → ¬ (a0 = (13 : Int32)) → (a0 = (14 : Int32)) → ¬ (a2 = 0) → ¬ a2 = 0) : am_Ev (d + 0) mX3_join [am_I a0, am_I a1, am_I a2] h (.inl (some (am_I (if a0 = (8 : Int32) then (if a2 ≤ a1 then a2 else a1) else (if a0 = (9 : Int32) then (if a1 ≤ a2 then a2 else a1) else (if a0 = (10 : Int32) then (a1 + a2) else (if a0 = (11 : Int32) then (a1 - a2) else (if a0 = (12 : Int32) then (a1 * a2) else (if a0 = (13 : Int32) then (if a2 = 0 then (0 : Int32) else (a1 / a2)) else (if a0 = (14 : Int32) then (if a2 = 0 then (0 : Int32) else (a1 - a1 / a2 * a2)) else (0 : Int32))))))))), h)) := by
  refine am_Ev.mk (by decide +kernel) rfl rfl (Nat.le_refl _) (Nat.le_refl _) ?_
  change am_At _ _ _ 0 [_, _, _] [] _ _
  refine am_iload_n dX3_join_0 rfl ?_
  by_cases hc1 : a0 = (8 : Int32)
  · refine am_tabIn (43) 44 dX3_join_1 (by rw [hc1]; decide) (by rw [hc1]; decide) (by rw [hc1]; rfl) rfl ?_
    refine am_iload_n dX3_join_44 rfl ?_
    refine am_iload_n dX3_join_45 rfl ?_
    refine am_icmp_ge (7) 53 dX3_join_46 rfl ?_ ?_
    · intro hc2
      have hc2 : a2 ≤ a1 := hc2
      refine am_iload_n dX3_join_53 rfl ?_
      refine am_At.end ?_ (am_iret dX3_join_54 rfl)
      first | rfl | (simp only [if_pos hc1, if_pos hc2]; done) | (simp only [if_pos hc1, if_pos hc2]; rfl)
    · intro hc2n
      have hc2n : ¬ (a2 ≤ a1) := hc2n
      refine am_iload_n dX3_join_49 rfl ?_
      refine am_goto (4) 54 dX3_join_50 rfl ?_
      refine am_At.end ?_ (am_iret dX3_join_54 rfl)
      first | rfl | (simp only [if_pos hc1, if_neg hc2n]; done) | (simp only [if_pos hc1, if_neg hc2n]; rfl)
  · have hc1n := hc1
    by_cases hc2 : a0 = (9 : Int32)
    · refine am_tabIn (54) 55 dX3_join_1 (by rw [hc2]; decide) (by rw [hc2]; decide) (by rw [hc2]; rfl) rfl ?_
      refine am_iload_n dX3_join_55 rfl ?_
      refine am_iload_n dX3_join_56 rfl ?_
      refine am_icmp_le (7) 64 dX3_join_57 rfl ?_ ?_
      · intro hc3
        have hc3 : a1 ≤ a2 := hc3
        refine am_iload_n dX3_join_64 rfl ?_
        refine am_At.end ?_ (am_iret dX3_join_65 rfl)
        first | rfl | (simp only [if_neg hc1n, if_pos hc2, if_pos hc3]; done) | (simp only [if_neg hc1n, if_pos hc2, if_pos hc3]; rfl)
      · intro hc3n
        have hc3n : ¬ (a1 ≤ a2) := hc3n
        refine am_iload_n dX3_join_60 rfl ?_
        refine am_goto (4) 65 dX3_join_61 rfl ?_
        refine am_At.end ?_ (am_iret dX3_join_65 rfl)
        first | rfl | (simp only [if_neg hc1n, if_pos hc2, if_neg hc3n]; done) | (simp only [if_neg hc1n, if_pos hc2, if_neg hc3n]; rfl)
    · have hc2n := hc2
      by_cases hc3 : a0 = (10 : Int32)
      · refine am_tabIn (65) 66 dX3_join_1 (by rw [hc3]; decide) (by rw [hc3]; decide) (by rw [hc3]; rfl) rfl ?_
        refine am_iload_n dX3_join_66 rfl ?_
        refine am_iload_n dX3_join_67 rfl ?_
        refine am_iadd dX3_join_68 ?_
        refine am_At.end ?_ (am_iret dX3_join_69 rfl)
        first | rfl | (simp only [if_neg hc1n, if_neg hc2n, if_pos hc3]; done) | (simp only [if_neg hc1n, if_neg hc2n, if_pos hc3]; rfl)
      · have hc3n := hc3
        by_cases hc4 : a0 = (11 : Int32)
        · refine am_tabIn (69) 70 dX3_join_1 (by rw [hc4]; decide) (by rw [hc4]; decide) (by rw [hc4]; rfl) rfl ?_
          refine am_iload_n dX3_join_70 rfl ?_
          refine am_iload_n dX3_join_71 rfl ?_
          refine am_isub dX3_join_72 ?_
          refine am_At.end ?_ (am_iret dX3_join_73 rfl)
          first | rfl | (simp only [if_neg hc1n, if_neg hc2n, if_neg hc3n, if_pos hc4]; done) | (simp only [if_neg hc1n, if_neg hc2n, if_neg hc3n, if_pos hc4]; rfl)
        · have hc4n := hc4
          by_cases hc5 : a0 = (12 : Int32)
          · refine am_tabIn (73) 74 dX3_join_1 (by rw [hc5]; decide) (by rw [hc5]; decide) (by rw [hc5]; rfl) rfl ?_
            refine am_iload_n dX3_join_74 rfl ?_
            refine am_iload_n dX3_join_75 rfl ?_
            refine am_imul dX3_join_76 ?_
            refine am_At.end ?_ (am_iret dX3_join_77 rfl)
            first | rfl | (simp only [if_neg hc1n, if_neg hc2n, if_neg hc3n, if_neg hc4n, if_pos hc5]; done) | (simp only [if_neg hc1n, if_neg hc2n, if_neg hc3n, if_neg hc4n, if_pos hc5]; rfl)
          · have hc5n := hc5
            by_cases hc6 : a0 = (13 : Int32)
            · refine am_tabIn (77) 78 dX3_join_1 (by rw [hc6]; decide) (by rw [hc6]; decide) (by rw [hc6]; rfl) rfl ?_
              refine am_iload_n dX3_join_78 rfl ?_
              refine am_if_ne (7) 86 dX3_join_79 rfl ?_ ?_
              · intro hc7n
                have hc7n : ¬ (a2 = 0) := hc7n
                refine am_iload_n dX3_join_86 rfl ?_
                refine am_iload_n dX3_join_87 rfl ?_
                refine am_idiv dX3_join_88 (s1 hc1n hc2n hc3n hc4n hc5n hc6 hc7n) ?_
                refine am_At.end ?_ (am_iret dX3_join_89 rfl)
                first | rfl | (simp only [if_neg hc1n, if_neg hc2n, if_neg hc3n, if_neg hc4n, if_neg hc5n, if_pos hc6, if_neg hc7n]; done) | (simp only [if_neg hc1n, if_neg hc2n, if_neg hc3n, if_neg hc4n, if_neg hc5n, if_pos hc6, if_neg hc7n]; rfl)
              · intro hc7
                have hc7 : a2 = 0 := hc7
                refine am_iconst 0 (v := 0) dX3_join_82 (by decide) ?_
                refine am_goto (6) 89 dX3_join_83 rfl ?_
                refine am_At.end ?_ (am_iret dX3_join_89 rfl)
                first | rfl | (simp only [if_neg hc1n, if_neg hc2n, if_neg hc3n, if_neg hc4n, if_neg hc5n, if_pos hc6, if_pos hc7]; done) | (simp only [if_neg hc1n, if_neg hc2n, if_neg hc3n, if_neg hc4n, if_neg hc5n, if_pos hc6, if_pos hc7]; rfl)
            · have hc6n := hc6
              by_cases hc7 : a0 = (14 : Int32)
              · refine am_tabIn (89) 90 dX3_join_1 (by rw [hc7]; decide) (by rw [hc7]; decide) (by rw [hc7]; rfl) rfl ?_
                refine am_iload_n dX3_join_90 rfl ?_
                refine am_if_ne (7) 98 dX3_join_91 rfl ?_ ?_
                · intro hc8n
                  have hc8n : ¬ (a2 = 0) := hc8n
                  refine am_iload_n dX3_join_98 rfl ?_
                  refine am_iload_n dX3_join_99 rfl ?_
                  refine am_irem dX3_join_100 (s2 hc1n hc2n hc3n hc4n hc5n hc6n hc7 hc8n) ?_
                  refine am_At.end ?_ (am_iret dX3_join_101 rfl)
                  first | rfl | (simp only [if_neg hc1n, if_neg hc2n, if_neg hc3n, if_neg hc4n, if_neg hc5n, if_neg hc6n, if_pos hc7, if_neg hc8n]; done) | (simp only [if_neg hc1n, if_neg hc2n, if_neg hc3n, if_neg hc4n, if_neg hc5n, if_neg hc6n, if_pos hc7, if_neg hc8n]; rfl)
                · intro hc8
                  have hc8 : a2 = 0 := hc8
                  refine am_iconst 0 (v := 0) dX3_join_94 (by decide) ?_
                  refine am_goto (6) 101 dX3_join_95 rfl ?_
                  refine am_At.end ?_ (am_iret dX3_join_101 rfl)
                  first | rfl | (simp only [if_neg hc1n, if_neg hc2n, if_neg hc3n, if_neg hc4n, if_neg hc5n, if_neg hc6n, if_pos hc7, if_pos hc8]; done) | (simp only [if_neg hc1n, if_neg hc2n, if_neg hc3n, if_neg hc4n, if_neg hc5n, if_neg hc6n, if_pos hc7, if_pos hc8]; rfl)
              · have hc7n := hc7
                refine am_tabOut 102 dX3_join_1 (by have q0 := lv_neT (a := 8) hc1n (by decide); have q1 := lv_neT (a := 9) hc2n (by decide); have q2 := lv_neT (a := 10) hc3n (by decide); have q3 := lv_neT (a := 11) hc4n (by decide); have q4 := lv_neT (a := 12) hc5n (by decide); have q5 := lv_neT (a := 13) hc6n (by decide); have q6 := lv_neT (a := 14) hc7n (by decide); omega) rfl ?_
                refine am_iconst 0 (v := 0) dX3_join_102 (by decide) ?_
                refine am_At.end ?_ (am_iret dX3_join_103 rfl)
                first | rfl | (simp only [if_neg hc1n, if_neg hc2n, if_neg hc3n, if_neg hc4n, if_neg hc5n, if_neg hc6n, if_neg hc7n]; done) | (simp only [if_neg hc1n, if_neg hc2n, if_neg hc3n, if_neg hc4n, if_neg hc5n, if_neg hc6n, if_neg hc7n]; rfl)
theorem ev_X3_mindsFines {d : Nat} {h : am_H} (g : lay h) (s1 : narrow .boolean (.int (h.2.1 23 0 4)) = .int (h.2.1 23 0 4)) : am_Ev (d + 0) mX3_mindsFines [.inr (23, 0)] h (.inl (some (am_I (h.2.1 23 0 4)), h)) := by
  refine am_Ev.mk (by decide +kernel) rfl rfl (Nat.le_refl _) (Nat.le_refl _) ?_
  change am_At _ _ _ 0 [_] [] _ _
  refine am_aload_n dX3_mindsFines_0 rfl ?_
  refine am_getI 3 4 dX3_mindsFines_1 fg_X3_51 (sh_23 g) (by decide) rfl ?_
  exact am_zret dX3_mindsFines_4 rfl s1
theorem ev_X4_hasKnocked {d : Nat} {h : am_H} (g : lay h) {a0 a1 : Int32} : am_Ev (d + 0) mX4_hasKnocked [.inr (28, 0), am_I a0, am_I a1] h (.inl (some (am_I (if (h.2.1 3 0 0) ≤ a1 then (0 : Int32) else (if (h.2.1 3 0 12) ≤ (a1 - a0) then (0 : Int32) else (1 : Int32)))), h)) := by
  refine am_Ev.mk (by decide +kernel) rfl rfl (Nat.le_refl _) (Nat.le_refl _) ?_
  change am_At _ _ _ 0 [_, _, _] [] _ _
  refine am_iload_n dX4_hasKnocked_0 rfl ?_
  refine am_aload_n dX4_hasKnocked_1 rfl ?_
  refine am_getR 4 0 3 dX4_hasKnocked_2 fg_X4_9 (sh_28 g) (by decide) rfl (rf_28_0 g) ?_
  refine am_getI 1 0 dX4_hasKnocked_5 fg_X4_25 (sh_3 g) (by decide) rfl ?_
  refine am_icmp_ge (20) 28 dX4_hasKnocked_8 rfl ?_ ?_
  · intro hc1
    have hc1 : (h.2.1 3 0 0) ≤ a1 := hc1
    refine am_iconst 0 (v := 0) dX4_hasKnocked_28 (by decide) ?_
    refine am_At.end ?_ (am_zret dX4_hasKnocked_29 rfl rfl)
    first | rfl | (simp only [if_pos hc1]; done) | (simp only [if_pos hc1]; rfl)
  · intro hc1n
    have hc1n : ¬ ((h.2.1 3 0 0) ≤ a1) := hc1n
    refine am_iload_n dX4_hasKnocked_11 rfl ?_
    refine am_iload_n dX4_hasKnocked_12 rfl ?_
    refine am_isub dX4_hasKnocked_13 ?_
    refine am_aload_n dX4_hasKnocked_14 rfl ?_
    refine am_getR 4 0 3 dX4_hasKnocked_15 fg_X4_9 (sh_28 g) (by decide) rfl (rf_28_0 g) ?_
    refine am_getI 1 12 dX4_hasKnocked_18 fg_X4_52 (sh_3 g) (by decide) rfl ?_
    refine am_icmp_ge (7) 28 dX4_hasKnocked_21 rfl ?_ ?_
    · intro hc2
      have hc2 : (h.2.1 3 0 12) ≤ (a1 - a0) := hc2
      refine am_iconst 0 (v := 0) dX4_hasKnocked_28 (by decide) ?_
      refine am_At.end ?_ (am_zret dX4_hasKnocked_29 rfl rfl)
      first | rfl | (simp only [if_neg hc1n, if_pos hc2]; done) | (simp only [if_neg hc1n, if_pos hc2]; rfl)
    · intro hc2n
      have hc2n : ¬ ((h.2.1 3 0 12) ≤ (a1 - a0)) := hc2n
      refine am_iconst 1 (v := 1) dX4_hasKnocked_24 (by decide) ?_
      refine am_goto (4) 29 dX4_hasKnocked_25 rfl ?_
      refine am_At.end ?_ (am_zret dX4_hasKnocked_29 rfl rfl)
      first | rfl | (simp only [if_neg hc1n, if_neg hc2n]; done) | (simp only [if_neg hc1n, if_neg hc2n]; rfl)
theorem ev_X4_lets {d : Nat} {h : am_H} (g : lay h) {a0 a1 a2 : Int32} (s1 : vp_in a1 16) : am_Ev (d + 1) mX4_lets [.inr (28, 0), am_I a0, am_I a1, am_I a2] h (.inl (some (am_I (if a0 ≤ (h.2.1 4 0 a1.toNatClampNeg) then (1 : Int32) else (if (bitZ a2 a1) = 0 then (0 : Int32) else (1 : Int32)))), h)) := by
  refine am_Ev.mk (by decide +kernel) rfl rfl (Nat.le_refl _) (Nat.le_refl _) ?_
  change am_At _ _ _ 0 [_, _, _, _] [] _ _
  refine am_iload_n dX4_lets_0 rfl ?_
  refine am_aload_n dX4_lets_1 rfl ?_
  refine am_getR 4 0 3 dX4_lets_2 fg_X4_9 (sh_28 g) (by decide) rfl (rf_28_0 g) ?_
  refine am_getR 1 1 4 dX4_lets_5 fg_X4_44 (sh_3 g) (by decide) rfl (rf_3_1 g) ?_
  refine am_iload_n dX4_lets_8 rfl ?_
  refine am_iald dX4_lets_9 (am_ia.one (sh_4 g)) s1 ?_
  refine am_icmp_le (11) 21 dX4_lets_10 rfl ?_ ?_
  · intro hc1
    have hc1 : a0 ≤ (h.2.1 4 0 a1.toNatClampNeg) := hc1
    refine am_iconst 1 (v := 1) dX4_lets_21 (by decide) ?_
    refine am_goto (4) 26 dX4_lets_22 rfl ?_
    refine am_At.end ?_ (am_zret dX4_lets_26 rfl rfl)
    first | rfl | (simp only [if_pos hc1]; done) | (simp only [if_pos hc1]; rfl)
  · intro hc1n
    have hc1n : ¬ (a0 ≤ (h.2.1 4 0 a1.toNatClampNeg)) := hc1n
    refine am_iload_n dX4_lets_13 rfl ?_
    refine am_iload_n dX4_lets_14 rfl ?_
    refine am_callSN (c := 0) (k := 0) (n := 0) (w := 0) [_, _] dX4_lets_15 ml_X4_48 sm_X11_isBitOf rfl (fun _ => Nat.le_of_ble_eq_true rfl) (by omega) rfl (ev_isBitOf (d := d + 0)  ) rfl ?_
    change am_At _ _ _ 18 [_, _, _, _] [_] _ _
    refine am_if_eq (7) 25 dX4_lets_18 rfl ?_ ?_
    · intro hc2
      have hc2 : (bitZ a2 a1) = 0 := hc2
      refine am_iconst 0 (v := 0) dX4_lets_25 (by decide) ?_
      refine am_At.end ?_ (am_zret dX4_lets_26 rfl rfl)
      first | rfl | (simp only [if_neg hc1n, if_pos hc2]; done) | (simp only [if_neg hc1n, if_pos hc2]; rfl)
    · intro hc2n
      have hc2n : ¬ ((bitZ a2 a1) = 0) := hc2n
      refine am_iconst 1 (v := 1) dX4_lets_21 (by decide) ?_
      refine am_goto (4) 26 dX4_lets_22 rfl ?_
      refine am_At.end ?_ (am_zret dX4_lets_26 rfl rfl)
      first | rfl | (simp only [if_neg hc1n, if_neg hc2n]; done) | (simp only [if_neg hc1n, if_neg hc2n]; rfl)
theorem ev_X4_openBits_28_29 {d : Nat} {h : am_H} (g : lay h) {a0 : Int32} : am_Ev (d + 1) mX4_openBits [.inr (28, 0), .inr (29, 0), am_I a0] h (.inl (some (am_I ((h.2.1 30 0 1) ||| (a0 &&& ((h.2.1 30 0 2) ^^^ (-1 : Int32))))), h)) := by
  refine am_Ev.mk (by decide +kernel) rfl rfl (Nat.le_refl _) (Nat.le_refl _) ?_
  change am_At _ _ _ 0 [_, _, _] [] _ _
  refine am_aload_n dX4_openBits_0 rfl ?_
  refine am_callV [] dX4_openBits_1 ml_X4_37 vm_X8_lifted (sh_29 g) rfl (fun _ => Nat.le_of_ble_eq_true rfl) (by omega) rfl (ev_lifted (d := d + 0) g ) rfl ?_
  change am_At _ _ _ 4 [_, _, _] [_] _ _
  refine am_iload_n dX4_openBits_4 rfl ?_
  refine am_aload_n dX4_openBits_5 rfl ?_
  refine am_callV [] dX4_openBits_6 ml_X4_41 vm_X8_shut (sh_29 g) rfl (fun _ => Nat.le_of_ble_eq_true rfl) (by omega) rfl (ev_shut (d := d + 0) g ) rfl ?_
  change am_At _ _ _ 9 [_, _, _] [_, _, _] _ _
  refine am_iconst (-1) (v := (-1)) dX4_openBits_9 (by decide) ?_
  refine am_ixor dX4_openBits_10 ?_
  refine am_iand dX4_openBits_11 ?_
  refine am_ior dX4_openBits_12 ?_
  exact am_iret dX4_openBits_13 rfl
theorem ev_X4_openBits_28_39 {d : Nat} {h : am_H} (g : lay h) {a0 : Int32} : am_Ev (d + 1) mX4_openBits [.inr (28, 0), .inr (39, 0), am_I a0] h (.inl (some (am_I ((h.2.1 40 0 1) ||| (a0 &&& ((h.2.1 40 0 2) ^^^ (-1 : Int32))))), h)) := by
  refine am_Ev.mk (by decide +kernel) rfl rfl (Nat.le_refl _) (Nat.le_refl _) ?_
  change am_At _ _ _ 0 [_, _, _] [] _ _
  refine am_aload_n dX4_openBits_0 rfl ?_
  refine am_callV [] dX4_openBits_1 ml_X4_37 vm_X8_lifted (sh_39 g) rfl (fun _ => Nat.le_of_ble_eq_true rfl) (by omega) rfl (ev_liftedT (d := d + 0) g ) rfl ?_
  change am_At _ _ _ 4 [_, _, _] [_] _ _
  refine am_iload_n dX4_openBits_4 rfl ?_
  refine am_aload_n dX4_openBits_5 rfl ?_
  refine am_callV [] dX4_openBits_6 ml_X4_41 vm_X8_shut (sh_39 g) rfl (fun _ => Nat.le_of_ble_eq_true rfl) (by omega) rfl (ev_shutT (d := d + 0) g ) rfl ?_
  change am_At _ _ _ 9 [_, _, _] [_, _, _] _ _
  refine am_iconst (-1) (v := (-1)) dX4_openBits_9 (by decide) ?_
  refine am_ixor dX4_openBits_10 ?_
  refine am_iand dX4_openBits_11 ?_
  refine am_ior dX4_openBits_12 ?_
  exact am_iret dX4_openBits_13 rfl
theorem ev_X5_waysBy {d : Nat} {h : am_H} (g : lay h) {a0 a1 : Int32} (s1 : vp_in ((a0 * (32 : Int32)) + a1) 512) (s2 : vp_in ((a0 * (32 : Int32)) + a1) 512) : am_Ev (d + 0) mX5_waysBy [.inr (45, 0), am_I a0, am_I a1] h (.inl (some (am_I ((h.2.1 48 0 (((a0 * (32 : Int32)) + a1).toNatClampNeg)) * (h.2.1 49 0 (((a0 * (32 : Int32)) + a1).toNatClampNeg)))), h)) := by
  refine am_Ev.mk (by decide +kernel) rfl rfl (Nat.le_refl _) (Nat.le_refl _) ?_
  change am_At _ _ _ 0 [_, _, _] [] _ _
  refine am_aload_n dX5_waysBy_0 rfl ?_
  refine am_getR 5 4 48 dX5_waysBy_1 fg_X5_18 (sh_45 g) (by decide) rfl (rf_45_4 g) ?_
  refine am_iload_n dX5_waysBy_4 rfl ?_
  refine am_bipush 32 (v := 32) dX5_waysBy_5 (by decide) ?_
  refine am_imul dX5_waysBy_7 ?_
  refine am_iload_n dX5_waysBy_8 rfl ?_
  refine am_iadd dX5_waysBy_9 ?_
  refine am_iald dX5_waysBy_10 (am_ia.one (sh_48 g)) s1 ?_
  refine am_aload_n dX5_waysBy_11 rfl ?_
  refine am_getR 5 5 49 dX5_waysBy_12 fg_X5_21 (sh_45 g) (by decide) rfl (rf_45_5 g) ?_
  refine am_iload_n dX5_waysBy_15 rfl ?_
  refine am_bipush 32 (v := 32) dX5_waysBy_16 (by decide) ?_
  refine am_imul dX5_waysBy_18 ?_
  refine am_iload_n dX5_waysBy_19 rfl ?_
  refine am_iadd dX5_waysBy_20 ?_
  refine am_iald dX5_waysBy_21 (am_ia.one (sh_49 g)) s2 ?_
  refine am_imul dX5_waysBy_22 ?_
  exact am_iret dX5_waysBy_23 rfl
theorem ev_X5_windowBehind {d : Nat} {h : am_H} (g : lay h) {a0 a1 : Int32} : am_Ev (d + 0) mX5_windowBehind [.inr (45, 0), am_I a0, am_I a1] h (.inl (some (am_I ((a0 >>> ((1 : Int32) &&& 31)) ||| (a1 <<< ((h.2.1 3 0 13) &&& 31)))), h)) := by
  refine am_Ev.mk (by decide +kernel) rfl rfl (Nat.le_refl _) (Nat.le_refl _) ?_
  change am_At _ _ _ 0 [_, _, _] [] _ _
  refine am_iload_n dX5_windowBehind_0 rfl ?_
  refine am_iconst 1 (v := 1) dX5_windowBehind_1 (by decide) ?_
  refine am_ishr dX5_windowBehind_2 ?_
  refine am_iload_n dX5_windowBehind_3 rfl ?_
  refine am_aload_n dX5_windowBehind_4 rfl ?_
  refine am_getR 5 0 3 dX5_windowBehind_5 fg_X5_27 (sh_45 g) (by decide) rfl (rf_45_0 g) ?_
  refine am_getI 1 13 dX5_windowBehind_8 fg_X5_74 (sh_3 g) (by decide) rfl ?_
  refine am_ishl dX5_windowBehind_11 ?_
  refine am_ior dX5_windowBehind_12 ?_
  exact am_iret dX5_windowBehind_13 rfl
theorem ev_X5_windows {d : Nat} {h : am_H} (g : lay h) : am_Ev (d + 0) mX5_windows [.inr (45, 0)] h (.inl (some (am_I ((2 : Int32) <<< ((h.2.1 3 0 13) &&& 31))), h)) := by
  refine am_Ev.mk (by decide +kernel) rfl rfl (Nat.le_refl _) (Nat.le_refl _) ?_
  change am_At _ _ _ 0 [_] [] _ _
  refine am_iconst 2 (v := 2) dX5_windows_0 (by decide) ?_
  refine am_aload_n dX5_windows_1 rfl ?_
  refine am_getR 5 0 3 dX5_windows_2 fg_X5_27 (sh_45 g) (by decide) rfl (rf_45_0 g) ?_
  refine am_getI 1 13 dX5_windows_5 fg_X5_74 (sh_3 g) (by decide) rfl ?_
  refine am_ishl dX5_windows_8 ?_
  exact am_iret dX5_windows_9 rfl
theorem ev_X6_forget {d : Nat} {h : am_H} (g : lay h) : am_Ev (d + 0) mX6_forget [.inr (38, 0)] h (.inl (none, (am_hM h (am_u3 h.2.1 38 0 5 (0 : Int32))))) := by
  refine am_Ev.mk (by decide +kernel) rfl rfl (Nat.le_refl _) (Nat.le_refl _) ?_
  change am_At _ _ _ 0 [_] [] _ _
  refine am_aload_n dX6_forget_0 rfl ?_
  refine am_iconst 0 (v := 0) dX6_forget_1 (by decide) ?_
  refine am_putI 6 5 dX6_forget_2 (Or.inl fp_X6_36) (sh_38 g) (by decide) rfl rfl rfl ?_
  exact am_vret dX6_forget_5 rfl
theorem ev_X7_clear {d : Nat} {h : am_H} (g : lay h) : am_Ev (d + 0) mX7_clear [.inr (31, 0)] h (.inl (none, (am_hM h (am_u3 (am_u3 h.2.1 31 0 1 (0 : Int32)) 31 0 3 (0 : Int32))))) := by
  refine am_Ev.mk (by decide +kernel) rfl rfl (Nat.le_refl _) (Nat.le_refl _) ?_
  change am_At _ _ _ 0 [_] [] _ _
  refine am_aload_n dX7_clear_0 rfl ?_
  refine am_iconst 0 (v := 0) dX7_clear_1 (by decide) ?_
  refine am_putI 7 1 dX7_clear_2 (Or.inl fp_X7_22) (sh_31 g) (by decide) rfl rfl rfl ?_
  refine am_aload_n dX7_clear_5 rfl ?_
  refine am_iconst 0 (v := 0) dX7_clear_6 (by decide) ?_
  refine am_putI 7 3 dX7_clear_7 (Or.inl fp_X7_26) (sh_31 g) (by decide) rfl rfl rfl ?_
  exact am_vret dX7_clear_10 rfl
theorem ev_X7_isFull {d : Nat} {h : am_H} (g : lay h) : am_Ev (d + 0) mX7_isFull [.inr (31, 0)] h (.inl (some (am_I (if (h.2.1 31 0 1) < (16 : Int32) then (0 : Int32) else (1 : Int32))), h)) := by
  refine am_Ev.mk (by decide +kernel) rfl rfl (Nat.le_refl _) (Nat.le_refl _) ?_
  change am_At _ _ _ 0 [_] [] _ _
  refine am_aload_n dX7_isFull_0 rfl ?_
  refine am_getI 7 1 dX7_isFull_1 fg_X7_22 (sh_31 g) (by decide) rfl ?_
  refine am_bipush 16 (v := 16) dX7_isFull_4 (by decide) ?_
  refine am_icmp_lt (7) 13 dX7_isFull_6 rfl ?_ ?_
  · intro hc1
    have hc1 : (h.2.1 31 0 1) < (16 : Int32) := hc1
    refine am_iconst 0 (v := 0) dX7_isFull_13 (by decide) ?_
    refine am_At.end ?_ (am_zret dX7_isFull_14 rfl rfl)
    first | rfl | (simp only [if_pos hc1]; done) | (simp only [if_pos hc1]; rfl)
  · intro hc1n
    have hc1n : ¬ ((h.2.1 31 0 1) < (16 : Int32)) := hc1n
    refine am_iconst 1 (v := 1) dX7_isFull_9 (by decide) ?_
    refine am_goto (4) 14 dX7_isFull_10 rfl ?_
    refine am_At.end ?_ (am_zret dX7_isFull_14 rfl rfl)
    first | rfl | (simp only [if_neg hc1n]; done) | (simp only [if_neg hc1n]; rfl)
theorem ev_X9_modeBy {d : Nat} {h : am_H} {a0 : Int32} : am_Ev (d + 0) mX9_modeBy [am_I a0] h (.inl (some (am_I (if a0 = 0 then (1 : Int32) else (if a0 = (1 : Int32) then (2 : Int32) else (0 : Int32)))), h)) := by
  refine am_Ev.mk (by decide +kernel) rfl rfl (Nat.le_refl _) (Nat.le_refl _) ?_
  change am_At _ _ _ 0 [_] [] _ _
  refine am_iload_n dX9_modeBy_0 rfl ?_
  refine am_if_ne (5) 6 dX9_modeBy_1 rfl ?_ ?_
  · intro hc1n
    have hc1n : ¬ (a0 = 0) := hc1n
    refine am_iload_n dX9_modeBy_6 rfl ?_
    refine am_iconst 1 (v := 1) dX9_modeBy_7 (by decide) ?_
    refine am_icmp_ne (7) 15 dX9_modeBy_8 rfl ?_ ?_
    · intro hc2n
      have hc2n : ¬ (a0 = (1 : Int32)) := hc2n
      refine am_iconst 0 (v := 0) dX9_modeBy_15 (by decide) ?_
      refine am_At.end ?_ (am_iret dX9_modeBy_16 rfl)
      first | rfl | (simp only [if_neg hc1n, if_neg hc2n]; done) | (simp only [if_neg hc1n, if_neg hc2n]; rfl)
    · intro hc2
      have hc2 : a0 = (1 : Int32) := hc2
      refine am_iconst 2 (v := 2) dX9_modeBy_11 (by decide) ?_
      refine am_goto (4) 16 dX9_modeBy_12 rfl ?_
      refine am_At.end ?_ (am_iret dX9_modeBy_16 rfl)
      first | rfl | (simp only [if_neg hc1n, if_pos hc2]; done) | (simp only [if_neg hc1n, if_pos hc2]; rfl)
  · intro hc1
    have hc1 : a0 = 0 := hc1
    refine am_iconst 1 (v := 1) dX9_modeBy_4 (by decide) ?_
    refine am_At.end ?_ (am_iret dX9_modeBy_5 rfl)
    first | rfl | (simp only [if_pos hc1]; done) | (simp only [if_pos hc1]; rfl)
theorem ev_X12_areBoards {d : Nat} {h : am_H} (g : lay h) {a0 : Int32} (s1 : narrow .boolean (.int (if a0 < (0 : Int32) then (0 : Int32) else (if (((1 : Int32) <<< ((h.2.1 58 0 0) &&& 31)) - (1 : Int32)) < a0 then (0 : Int32) else (1 : Int32)))) = .int (if a0 < (0 : Int32) then (0 : Int32) else (if (((1 : Int32) <<< ((h.2.1 58 0 0) &&& 31)) - (1 : Int32)) < a0 then (0 : Int32) else (1 : Int32)))) : am_Ev (d + 1) mX12_areBoards [.inr (54, 0), am_I a0] h (.inl (some (am_I (if a0 < (0 : Int32) then (0 : Int32) else (if (((1 : Int32) <<< ((h.2.1 58 0 0) &&& 31)) - (1 : Int32)) < a0 then (0 : Int32) else (1 : Int32)))), h)) := by
  refine am_Ev.mk (by decide +kernel) rfl rfl (Nat.le_refl _) (Nat.le_refl _) ?_
  change am_At _ _ _ 0 [_, _] [] _ _
  refine am_iload_n dX12_areBoards_0 rfl ?_
  refine am_iconst 0 (v := 0) dX12_areBoards_1 (by decide) ?_
  refine am_iconst 1 (v := 1) dX12_areBoards_2 (by decide) ?_
  refine am_aload_n dX12_areBoards_3 rfl ?_
  refine am_getR 12 12 58 dX12_areBoards_4 fg_X12_23 (sh_54 g) (by decide) rfl (rf_54_12 g) ?_
  refine am_iconst 0 (v := 0) dX12_areBoards_7 (by decide) ?_
  refine am_iald dX12_areBoards_8 (am_ia.one (sh_58 g)) (am_lit rfl) ?_
  refine am_ishl dX12_areBoards_9 ?_
  refine am_iconst 1 (v := 1) dX12_areBoards_10 (by decide) ?_
  refine am_isub dX12_areBoards_11 ?_
  refine am_callS (c := 0) (k := 0) (n := 0) (w := 0) [_, _, _] dX12_areBoards_12 ml_X12_137 sm_X12_in rfl (fun _ => Nat.le_of_ble_eq_true rfl) (by omega) rfl (ev_X12_in (d := d + 0)  ) rfl ?_
  change am_At _ _ _ 15 [_, _] [_] _ _
  exact am_zret dX12_areBoards_15 rfl s1
theorem ev_X12_by {d : Nat} {h : am_H} {a0 a1 a2 : Int32} (s1 : ¬ (a0 = (2 : Int32)) → ¬ (a0 = (3 : Int32)) → ¬ (a0 = (4 : Int32)) → (a0 = (5 : Int32)) → ¬ (a2 = 0) → ¬ (a2 = (-1 : Int32)) → ¬ a2 = 0) (s2 : ¬ (a0 = (2 : Int32)) → ¬ (a0 = (3 : Int32)) → ¬ (a0 = (4 : Int32)) → ¬ (a0 = (5 : Int32)) → (a0 = (6 : Int32)) → ¬ (a2 = 0) → ¬ (a2 = (-1 : Int32)) → ¬ a2 = 0) : am_Ev (d + 1) mX12_by [am_I a0, am_I a1, am_I a2] h (.inl (some (am_I (if a0 = (2 : Int32) then (a1 + a2) else (if a0 = (3 : Int32) then (a1 - a2) else (if a0 = (4 : Int32) then (a1 * a2) else (if a0 = (5 : Int32) then (if a2 = 0 then (0 : Int32) else (if a2 = (-1 : Int32) then (-a1) else (a1 / a2))) else (if a0 = (6 : Int32) then (if a2 = 0 then (0 : Int32) else (if a2 = (-1 : Int32) then (0 : Int32) else (a1 - a1 / a2 * a2))) else (if a0 = (7 : Int32) then (if a2 ≤ a1 then a2 else a1) else (if a1 ≤ a2 then a2 else a1)))))))), h)) := by
  refine am_Ev.mk (by decide +kernel) rfl rfl (Nat.le_refl _) (Nat.le_refl _) ?_
  change am_At _ _ _ 0 [_, _, _] [] _ _
  refine am_iload_n dX12_by_0 rfl ?_
  by_cases hc1 : a0 = (2 : Int32)
  · refine am_tabIn (39) 40 dX12_by_1 (by rw [hc1]; decide) (by rw [hc1]; decide) (by rw [hc1]; rfl) rfl ?_
    refine am_iload_n dX12_by_40 rfl ?_
    refine am_iload_n dX12_by_41 rfl ?_
    refine am_iadd dX12_by_42 ?_
    refine am_At.end ?_ (am_iret dX12_by_43 rfl)
    first | rfl | (simp only [if_pos hc1]; done) | (simp only [if_pos hc1]; rfl)
  · have hc1n := hc1
    by_cases hc2 : a0 = (3 : Int32)
    · refine am_tabIn (43) 44 dX12_by_1 (by rw [hc2]; decide) (by rw [hc2]; decide) (by rw [hc2]; rfl) rfl ?_
      refine am_iload_n dX12_by_44 rfl ?_
      refine am_iload_n dX12_by_45 rfl ?_
      refine am_isub dX12_by_46 ?_
      refine am_At.end ?_ (am_iret dX12_by_47 rfl)
      first | rfl | (simp only [if_neg hc1n, if_pos hc2]; done) | (simp only [if_neg hc1n, if_pos hc2]; rfl)
    · have hc2n := hc2
      by_cases hc3 : a0 = (4 : Int32)
      · refine am_tabIn (47) 48 dX12_by_1 (by rw [hc3]; decide) (by rw [hc3]; decide) (by rw [hc3]; rfl) rfl ?_
        refine am_iload_n dX12_by_48 rfl ?_
        refine am_iload_n dX12_by_49 rfl ?_
        refine am_imul dX12_by_50 ?_
        refine am_At.end ?_ (am_iret dX12_by_51 rfl)
        first | rfl | (simp only [if_neg hc1n, if_neg hc2n, if_pos hc3]; done) | (simp only [if_neg hc1n, if_neg hc2n, if_pos hc3]; rfl)
      · have hc3n := hc3
        by_cases hc4 : a0 = (5 : Int32)
        · refine am_tabIn (51) 52 dX12_by_1 (by rw [hc4]; decide) (by rw [hc4]; decide) (by rw [hc4]; rfl) rfl ?_
          refine am_iload_n dX12_by_52 rfl ?_
          refine am_if_ne (7) 60 dX12_by_53 rfl ?_ ?_
          · intro hc5n
            have hc5n : ¬ (a2 = 0) := hc5n
            refine am_iload_n dX12_by_60 rfl ?_
            refine am_iconst (-1) (v := (-1)) dX12_by_61 (by decide) ?_
            refine am_icmp_ne (8) 70 dX12_by_62 rfl ?_ ?_
            · intro hc6n
              have hc6n : ¬ (a2 = (-1 : Int32)) := hc6n
              refine am_iload_n dX12_by_70 rfl ?_
              refine am_iload_n dX12_by_71 rfl ?_
              refine am_idiv dX12_by_72 (s1 hc1n hc2n hc3n hc4 hc5n hc6n) ?_
              refine am_At.end ?_ (am_iret dX12_by_73 rfl)
              first | rfl | (simp only [if_neg hc1n, if_neg hc2n, if_neg hc3n, if_pos hc4, if_neg hc5n, if_neg hc6n]; done) | (simp only [if_neg hc1n, if_neg hc2n, if_neg hc3n, if_pos hc4, if_neg hc5n, if_neg hc6n]; rfl)
            · intro hc6
              have hc6 : a2 = (-1 : Int32) := hc6
              refine am_iload_n dX12_by_65 rfl ?_
              refine am_ineg dX12_by_66 ?_
              refine am_goto (6) 73 dX12_by_67 rfl ?_
              refine am_At.end ?_ (am_iret dX12_by_73 rfl)
              first | rfl | (simp only [if_neg hc1n, if_neg hc2n, if_neg hc3n, if_pos hc4, if_neg hc5n, if_pos hc6]; done) | (simp only [if_neg hc1n, if_neg hc2n, if_neg hc3n, if_pos hc4, if_neg hc5n, if_pos hc6]; rfl)
          · intro hc5
            have hc5 : a2 = 0 := hc5
            refine am_iconst 0 (v := 0) dX12_by_56 (by decide) ?_
            refine am_goto (16) 73 dX12_by_57 rfl ?_
            refine am_At.end ?_ (am_iret dX12_by_73 rfl)
            first | rfl | (simp only [if_neg hc1n, if_neg hc2n, if_neg hc3n, if_pos hc4, if_pos hc5]; done) | (simp only [if_neg hc1n, if_neg hc2n, if_neg hc3n, if_pos hc4, if_pos hc5]; rfl)
        · have hc4n := hc4
          by_cases hc5 : a0 = (6 : Int32)
          · refine am_tabIn (73) 74 dX12_by_1 (by rw [hc5]; decide) (by rw [hc5]; decide) (by rw [hc5]; rfl) rfl ?_
            refine am_iload_n dX12_by_74 rfl ?_
            refine am_if_eq (8) 83 dX12_by_75 rfl ?_ ?_
            · intro hc6
              have hc6 : a2 = 0 := hc6
              refine am_iconst 0 (v := 0) dX12_by_83 (by decide) ?_
              refine am_goto (6) 90 dX12_by_84 rfl ?_
              refine am_At.end ?_ (am_iret dX12_by_90 rfl)
              first | rfl | (simp only [if_neg hc1n, if_neg hc2n, if_neg hc3n, if_neg hc4n, if_pos hc5, if_pos hc6]; done) | (simp only [if_neg hc1n, if_neg hc2n, if_neg hc3n, if_neg hc4n, if_pos hc5, if_pos hc6]; rfl)
            · intro hc6n
              have hc6n : ¬ (a2 = 0) := hc6n
              refine am_iload_n dX12_by_78 rfl ?_
              refine am_iconst (-1) (v := (-1)) dX12_by_79 (by decide) ?_
              refine am_icmp_ne (7) 87 dX12_by_80 rfl ?_ ?_
              · intro hc7n
                have hc7n : ¬ (a2 = (-1 : Int32)) := hc7n
                refine am_iload_n dX12_by_87 rfl ?_
                refine am_iload_n dX12_by_88 rfl ?_
                refine am_irem dX12_by_89 (s2 hc1n hc2n hc3n hc4n hc5 hc6n hc7n) ?_
                refine am_At.end ?_ (am_iret dX12_by_90 rfl)
                first | rfl | (simp only [if_neg hc1n, if_neg hc2n, if_neg hc3n, if_neg hc4n, if_pos hc5, if_neg hc6n, if_neg hc7n]; done) | (simp only [if_neg hc1n, if_neg hc2n, if_neg hc3n, if_neg hc4n, if_pos hc5, if_neg hc6n, if_neg hc7n]; rfl)
              · intro hc7
                have hc7 : a2 = (-1 : Int32) := hc7
                refine am_iconst 0 (v := 0) dX12_by_83 (by decide) ?_
                refine am_goto (6) 90 dX12_by_84 rfl ?_
                refine am_At.end ?_ (am_iret dX12_by_90 rfl)
                first | rfl | (simp only [if_neg hc1n, if_neg hc2n, if_neg hc3n, if_neg hc4n, if_pos hc5, if_neg hc6n, if_pos hc7]; done) | (simp only [if_neg hc1n, if_neg hc2n, if_neg hc3n, if_neg hc4n, if_pos hc5, if_neg hc6n, if_pos hc7]; rfl)
          · have hc5n := hc5
            by_cases hc6 : a0 = (7 : Int32)
            · refine am_tabIn (90) 91 dX12_by_1 (by rw [hc6]; decide) (by rw [hc6]; decide) (by rw [hc6]; rfl) rfl ?_
              refine am_iload_n dX12_by_91 rfl ?_
              refine am_iload_n dX12_by_92 rfl ?_
              refine am_callS (c := 0) (k := 0) (n := 0) (w := 0) [_, _] dX12_by_93 ml_X12_239 sm_X12_less rfl (fun _ => Nat.le_of_ble_eq_true rfl) (by omega) rfl (ev_X12_less (d := d + 0)  ) rfl ?_
              change am_At _ _ _ 96 [_, _, _] [_] _ _
              refine am_At.end ?_ (am_iret dX12_by_96 rfl)
              first | rfl | (simp only [if_neg hc1n, if_neg hc2n, if_neg hc3n, if_neg hc4n, if_neg hc5n, if_pos hc6]; done) | (simp only [if_neg hc1n, if_neg hc2n, if_neg hc3n, if_neg hc4n, if_neg hc5n, if_pos hc6]; rfl)
            · have hc6n := hc6
              refine am_tabOut 97 dX12_by_1 (by have q0 := lv_neT (a := 2) hc1n (by decide); have q1 := lv_neT (a := 3) hc2n (by decide); have q2 := lv_neT (a := 4) hc3n (by decide); have q3 := lv_neT (a := 5) hc4n (by decide); have q4 := lv_neT (a := 6) hc5n (by decide); have q5 := lv_neT (a := 7) hc6n (by decide); omega) rfl ?_
              refine am_iload_n dX12_by_97 rfl ?_
              refine am_iload_n dX12_by_98 rfl ?_
              refine am_callS (c := 0) (k := 0) (n := 0) (w := 0) [_, _] dX12_by_99 ml_X12_242 sm_X12_more rfl (fun _ => Nat.le_of_ble_eq_true rfl) (by omega) rfl (ev_X12_more (d := d + 0)  ) rfl ?_
              change am_At _ _ _ 102 [_, _, _] [_] _ _
              refine am_At.end ?_ (am_iret dX12_by_102 rfl)
              first | rfl | (simp only [if_neg hc1n, if_neg hc2n, if_neg hc3n, if_neg hc4n, if_neg hc5n, if_neg hc6n]; done) | (simp only [if_neg hc1n, if_neg hc2n, if_neg hc3n, if_neg hc4n, if_neg hc5n, if_neg hc6n]; rfl)
