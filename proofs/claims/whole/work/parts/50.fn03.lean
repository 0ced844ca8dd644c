theorem eL_X1_lowerThan_4 {d : Nat} {h : am_H} (g : lay h) {x1 : Int32} {M : Mem} {r : am_R} (n : Nat) : ∀ (s : Int32 × Int32) (e : Int32), wh (L_X1_lowerThan_4 x1 M) n s = some e → ((fun (x2 : Int32) => am_At am_X0 (d + 0) mX1_lowerThan 38 [some (.inr (3, 0)), some (am_I (x1)), some (am_I (x2)), none] [] (am_hM h M) r) e) → (match s with | (x2, x3) => am_At am_X0 (d + 0) mX1_lowerThan 4 [some (.inr (3, 0)), some (am_I (x1)), some (am_I (x2)), some (am_I (x3))] [] (am_hM h M) r) := by
  refine am_wh (At := fun (s : Int32 × Int32) => match s with | (x2, x3) => am_At am_X0 (d + 0) mX1_lowerThan 4 [some (.inr (3, 0)), some (am_I (x1)), some (am_I (x2)), some (am_I (x3))] [] (am_hM h M) r) (Ex := fun (e : Int32) => (fun (x2 : Int32) => am_At am_X0 (d + 0) mX1_lowerThan 38 [some (.inr (3, 0)), some (am_I (x1)), some (am_I (x2)), none] [] (am_hM h M) r) e) ?_ n
  rintro ⟨x2, x3⟩ y hyp hx
  unfold L_X1_lowerThan_4 at hyp
  try dsimp only at hyp
  change am_At _ _ _ 4 [_, _, _, _] [] _ _
  refine am_iload_n dX1_lowerThan_4 rfl ?_
  refine am_aload_n dX1_lowerThan_5 rfl ?_
  refine am_getI 1 0 dX1_lowerThan_6 fg_X1_46 (sh_3 g) (by decide) rfl ?_
  refine am_icmp_ge (29) 38 dX1_lowerThan_9 rfl ?_ ?_
  · intro hc1
    have hc1 : (M 3 0 0) ≤ x3 := hc1
    replace hyp := it_pos hc1 hyp
    cases hyp
    refine am_At.drop 3 ?_
    exact hx
  · intro hc1n
    have hc1n : ¬ ((M 3 0 0) ≤ x3) := hc1n
    replace hyp := it_neg hc1n hyp
    refine am_iload_n dX1_lowerThan_12 rfl ?_
    refine am_aload_n dX1_lowerThan_13 rfl ?_
    refine am_getR 1 1 4 dX1_lowerThan_14 fg_X1_9 (sh_3 g) (by decide) rfl (rf_3_1 g) ?_
    refine am_iload_n dX1_lowerThan_17 rfl ?_
    obtain ⟨hg2, hyp⟩ := gd_some hyp
    refine am_iald dX1_lowerThan_18 (am_ia.one (sh_4 g)) (am_lit hg2) ?_
    refine am_iload_n dX1_lowerThan_19 rfl ?_
    refine am_icmp_ge (9) 29 dX1_lowerThan_20 rfl ?_ ?_
    · intro hc3
      have hc3 : x1 ≤ (M 4 0 x3.toNatClampNeg) := hc3
      replace hyp := it_pos hc3 hyp
      refine am_iconst 0 (v := 0) dX1_lowerThan_29 (by decide) ?_
      refine am_ior dX1_lowerThan_30 ?_
      refine am_istore_n dX1_lowerThan_31 (am_lb rfl) ?_
      change am_At _ _ _ 32 [_, _, _, _] [] _ _
      refine am_iinc dX1_lowerThan_32 rfl (am_ix _) ?_
      change am_At _ _ _ 35 [_, _, _, _] [] _ _
      refine am_goto (-31) 4 dX1_lowerThan_35 rfl ?_
      cases hyp
      exact hx
    · intro hc3n
      have hc3n : ¬ (x1 ≤ (M 4 0 x3.toNatClampNeg)) := hc3n
      replace hyp := it_neg hc3n hyp
      refine am_iconst 1 (v := 1) dX1_lowerThan_23 (by decide) ?_
      refine am_iload_n dX1_lowerThan_24 rfl ?_
      refine am_ishl dX1_lowerThan_25 ?_
      refine am_goto (4) 30 dX1_lowerThan_26 rfl ?_
      refine am_ior dX1_lowerThan_30 ?_
      refine am_istore_n dX1_lowerThan_31 (am_lb rfl) ?_
      change am_At _ _ _ 32 [_, _, _, _] [] _ _
      refine am_iinc dX1_lowerThan_32 rfl (am_ix _) ?_
      change am_At _ _ _ 35 [_, _, _, _] [] _ _
      refine am_goto (-31) 4 dX1_lowerThan_35 rfl ?_
      cases hyp
      exact hx
theorem ef_X1_lowerThan {d : Nat} {h : am_H} (g : lay h) {x1 : Int32} {M : Mem} {v : Int32} (hyp : f_X1_lowerThan x1 M = some v) : am_Ev (d + 0) mX1_lowerThan [.inr (3, 0), am_I x1] (am_hM h M) (.inl (some (am_I v), am_hM h M)) := by
  unfold f_X1_lowerThan at hyp
  refine am_Ev.mk (by decide +kernel) rfl rfl (Nat.le_refl _) (Nat.le_refl _) ?_
  change am_At _ _ _ 0 [_, _, _, _] [] _ _
  refine am_iconst 0 (v := 0) dX1_lowerThan_0 (by decide) ?_
  refine am_istore_n dX1_lowerThan_1 (am_lb rfl) ?_
  change am_At _ _ _ 2 [_, _, _, _] [] _ _
  refine am_iconst 0 (v := 0) dX1_lowerThan_2 (by decide) ?_
  refine am_istore_n dX1_lowerThan_3 (am_lb rfl) ?_
  change am_At _ _ _ 4 [_, _, _, _] [] _ _
  obtain ⟨x2_4, hw4, hyp⟩ := bd_some hyp
  try dsimp only at hyp
  refine eL_X1_lowerThan_4 (d := d) (h := h) g (M := M) FU ((0 : Int32), (0 : Int32)) x2_4 hw4 ?_
  change am_At _ _ _ 38 [_, _, _, _] [] _ _
  refine am_iload_n dX1_lowerThan_38 rfl ?_
  cases hyp
  exact am_iret dX1_lowerThan_39 rfl
theorem ef_X1_readBarge {d : Nat} {h : am_H} (g : lay h) {M : Mem} {M' : Mem} (hyp : f_X1_readBarge M = some M') : am_Ev (d + 2) mX1_readBarge [.inr (13, 0), .inr (1, 0)] (am_hM h M) (.inl (none, am_hM h M')) := by
  unfold f_X1_readBarge at hyp
  refine am_Ev.mk (by decide +kernel) rfl rfl (Nat.le_refl _) (Nat.le_refl _) ?_
  change am_At _ _ _ 0 [_, _, _, _] [] _ _
  refine am_aload_n dX1_readBarge_0 rfl ?_
  refine am_getI 1 5 dX1_readBarge_1 fg_X1_49 (sh_13 g) (by decide) rfl ?_
  refine am_iconst 4 (v := 4) dX1_readBarge_4 (by decide) ?_
  refine am_icmp_ne (8) 13 dX1_readBarge_5 rfl ?_ ?_
  · intro hc1n
    have hc1n : ¬ ((M 13 0 5) = (4 : Int32)) := hc1n
    replace hyp := it_neg hc1n hyp
    refine am_aload_n dX1_readBarge_13 rfl ?_
    refine am_iconst 0 (v := 0) dX1_readBarge_14 (by decide) ?_
    refine am_bipush 9 (v := 9) dX1_readBarge_15 (by decide) ?_
    obtain ⟨⟨v2, M2⟩, hk2, hyp⟩ := bd_some hyp
    try dsimp only at hyp
    refine am_callV [_, _] dX1_readBarge_17 ml_X1_101 vm_X10_number (sh_1 g) rfl (fun _ => Nat.le_of_ble_eq_true rfl) (by omega) rfl (ef_X10_number (d := d + 0) (h := h) g hk2) rfl ?_
    change am_At _ _ _ 20 [_, _, _, _] [_] _ _
    refine am_istore_n dX1_readBarge_20 (am_lb rfl) ?_
    change am_At _ _ _ 21 [_, _, _, _] [] _ _
    refine am_aload_n dX1_readBarge_21 rfl ?_
    refine am_iconst 0 (v := 0) dX1_readBarge_22 (by decide) ?_
    refine am_bipush 95 (v := 95) dX1_readBarge_23 (by decide) ?_
    obtain ⟨⟨v3, M3⟩, hk3, hyp⟩ := bd_some hyp
    try dsimp only at hyp
    refine am_callV [_, _] dX1_readBarge_25 ml_X1_101 vm_X10_number (sh_1 g) rfl (fun _ => Nat.le_of_ble_eq_true rfl) (by omega) rfl (ef_X10_number (d := d + 0) (h := h) g hk3) rfl ?_
    change am_At _ _ _ 28 [_, _, _, _] [_] _ _
    refine am_istore_n dX1_readBarge_28 (am_lb rfl) ?_
    change am_At _ _ _ 29 [_, _, _, _] [] _ _
    refine am_aload_n dX1_readBarge_29 rfl ?_
    refine am_callV [] dX1_readBarge_30 ml_X1_67 vm_X10_isFaulty (sh_1 g) rfl (fun _ => Nat.le_of_ble_eq_true rfl) (by omega) rfl (ef_X10_isFaulty (d := d + 1) (h := h) g  (M := M3) rfl) rfl ?_
    change am_At _ _ _ 33 [_, _, _, _] [_] _ _
    refine am_if_ne (33) 66 dX1_readBarge_33 rfl ?_ ?_
    · intro hc4n
      have hc4n : ¬ ((f_X10_isFaulty M3) = 0) := hc4n
      replace hyp := it_neg hc4n hyp
      cases hyp
      exact am_vret dX1_readBarge_66 rfl
    · intro hc4
      have hc4 : (f_X10_isFaulty M3) = 0 := hc4
      replace hyp := it_pos hc4 hyp
      refine am_aload_n dX1_readBarge_36 rfl ?_
      refine am_getR 1 6 18 dX1_readBarge_37 fg_X1_24 (sh_13 g) (by decide) rfl (rf_13_6 g) ?_
      refine am_aload_n dX1_readBarge_40 rfl ?_
      refine am_getI 1 5 dX1_readBarge_41 fg_X1_49 (sh_13 g) (by decide) rfl ?_
      refine am_iload_n dX1_readBarge_44 rfl ?_
      obtain ⟨hg5, hyp⟩ := gd_some hyp
      refine am_iast dX1_readBarge_45 (am_ia.one (sh_18 g)) (am_lit hg5) ?_
      refine am_aload_n dX1_readBarge_46 rfl ?_
      refine am_getR 1 7 19 dX1_readBarge_47 fg_X1_27 (sh_13 g) (by decide) rfl (rf_13_7 g) ?_
      refine am_aload_n dX1_readBarge_50 rfl ?_
      refine am_getI 1 5 dX1_readBarge_51 fg_X1_49 (sh_13 g) (by decide) rfl ?_
      refine am_iload_n dX1_readBarge_54 rfl ?_
      refine am_iast dX1_readBarge_55 (am_ia.one (sh_19 g)) (am_lit hg5) ?_
      refine am_aload_n dX1_readBarge_56 rfl ?_
      refine am_dup dX1_readBarge_57 (fun _ => rfl) ?_
      refine am_getI 1 5 dX1_readBarge_58 fg_X1_49 (sh_13 g) (by decide) rfl ?_
      refine am_iconst 1 (v := 1) dX1_readBarge_61 (by decide) ?_
      refine am_iadd dX1_readBarge_62 ?_
      refine am_putI 1 5 dX1_readBarge_63 (Or.inl fp_X1_49) (sh_13 g) (by decide) rfl rfl rfl ?_
      cases hyp
      exact am_vret dX1_readBarge_66 rfl
  · intro hc1
    have hc1 : (M 13 0 5) = (4 : Int32) := hc1
    replace hyp := it_pos hc1 hyp
    refine am_aload_n dX1_readBarge_8 rfl ?_
    refine am_iconst 3 (v := 3) dX1_readBarge_9 (by decide) ?_
    refine am_callV [_] dX1_readBarge_10 ml_X1_82 vm_X10_blameToken (sh_1 g) rfl (fun _ => Nat.le_of_ble_eq_true rfl) (by omega) rfl (ef_X10_blameToken (d := d + 0) (h := h) g (x1 := (3 : Int32)) (M := M) rfl) rfl ?_
    change am_At _ _ _ 13 [_, _, _, _] [] _ _
    refine am_aload_n dX1_readBarge_13 rfl ?_
    refine am_iconst 0 (v := 0) dX1_readBarge_14 (by decide) ?_
    refine am_bipush 9 (v := 9) dX1_readBarge_15 (by decide) ?_
    obtain ⟨⟨v6, M6⟩, hk6, hyp⟩ := bd_some hyp
    try dsimp only at hyp
    refine am_callV [_, _] dX1_readBarge_17 ml_X1_101 vm_X10_number (sh_1 g) rfl (fun _ => Nat.le_of_ble_eq_true rfl) (by omega) rfl (ef_X10_number (d := d + 0) (h := h) g hk6) rfl ?_
    change am_At _ _ _ 20 [_, _, _, _] [_] _ _
    refine am_istore_n dX1_readBarge_20 (am_lb rfl) ?_
    change am_At _ _ _ 21 [_, _, _, _] [] _ _
    refine am_aload_n dX1_readBarge_21 rfl ?_
    refine am_iconst 0 (v := 0) dX1_readBarge_22 (by decide) ?_
    refine am_bipush 95 (v := 95) dX1_readBarge_23 (by decide) ?_
    obtain ⟨⟨v7, M7⟩, hk7, hyp⟩ := bd_some hyp
    try dsimp only at hyp
    refine am_callV [_, _] dX1_readBarge_25 ml_X1_101 vm_X10_number (sh_1 g) rfl (fun _ => Nat.le_of_ble_eq_true rfl) (by omega) rfl (ef_X10_number (d := d + 0) (h := h) g hk7) rfl ?_
    change am_At _ _ _ 28 [_, _, _, _] [_] _ _
    refine am_istore_n dX1_readBarge_28 (am_lb rfl) ?_
    change am_At _ _ _ 29 [_, _, _, _] [] _ _
    refine am_aload_n dX1_readBarge_29 rfl ?_
    refine am_callV [] dX1_readBarge_30 ml_X1_67 vm_X10_isFaulty (sh_1 g) rfl (fun _ => Nat.le_of_ble_eq_true rfl) (by omega) rfl (ef_X10_isFaulty (d := d + 1) (h := h) g  (M := M7) rfl) rfl ?_
    change am_At _ _ _ 33 [_, _, _, _] [_] _ _
    refine am_if_ne (33) 66 dX1_readBarge_33 rfl ?_ ?_
    · intro hc8n
      have hc8n : ¬ ((f_X10_isFaulty M7) = 0) := hc8n
      replace hyp := it_neg hc8n hyp
      cases hyp
      exact am_vret dX1_readBarge_66 rfl
    · intro hc8
      have hc8 : (f_X10_isFaulty M7) = 0 := hc8
      replace hyp := it_pos hc8 hyp
      refine am_aload_n dX1_readBarge_36 rfl ?_
      refine am_getR 1 6 18 dX1_readBarge_37 fg_X1_24 (sh_13 g) (by decide) rfl (rf_13_6 g) ?_
      refine am_aload_n dX1_readBarge_40 rfl ?_
      refine am_getI 1 5 dX1_readBarge_41 fg_X1_49 (sh_13 g) (by decide) rfl ?_
      refine am_iload_n dX1_readBarge_44 rfl ?_
      obtain ⟨hg9, hyp⟩ := gd_some hyp
      refine am_iast dX1_readBarge_45 (am_ia.one (sh_18 g)) (am_lit hg9) ?_
      refine am_aload_n dX1_readBarge_46 rfl ?_
      refine am_getR 1 7 19 dX1_readBarge_47 fg_X1_27 (sh_13 g) (by decide) rfl (rf_13_7 g) ?_
      refine am_aload_n dX1_readBarge_50 rfl ?_
      refine am_getI 1 5 dX1_readBarge_51 fg_X1_49 (sh_13 g) (by decide) rfl ?_
      refine am_iload_n dX1_readBarge_54 rfl ?_
      refine am_iast dX1_readBarge_55 (am_ia.one (sh_19 g)) (am_lit hg9) ?_
      refine am_aload_n dX1_readBarge_56 rfl ?_
      refine am_dup dX1_readBarge_57 (fun _ => rfl) ?_
      refine am_getI 1 5 dX1_readBarge_58 fg_X1_49 (sh_13 g) (by decide) rfl ?_
      refine am_iconst 1 (v := 1) dX1_readBarge_61 (by decide) ?_
      refine am_iadd dX1_readBarge_62 ?_
      refine am_putI 1 5 dX1_readBarge_63 (Or.inl fp_X1_49) (sh_13 g) (by decide) rfl rfl rfl ?_
      cases hyp
      exact am_vret dX1_readBarge_66 rfl
theorem ef_X1_readBoard {d : Nat} {h : am_H} (g : lay h) {M : Mem} {M' : Mem} (hyp : f_X1_readBoard M = some M') : am_Ev (d + 2) mX1_readBoard [.inr (13, 0), .inr (1, 0)] (am_hM h M) (.inl (none, am_hM h M')) := by
  unfold f_X1_readBoard at hyp
  refine am_Ev.mk (by decide +kernel) rfl rfl (Nat.le_refl _) (Nat.le_refl _) ?_
  change am_At _ _ _ 0 [_, _, _, _, _] [] _ _
  refine am_aload_n dX1_readBoard_0 rfl ?_
  refine am_getI 1 0 dX1_readBoard_1 fg_X1_46 (sh_13 g) (by decide) rfl ?_
  refine am_bipush 16 (v := 16) dX1_readBoard_4 (by decide) ?_
  refine am_icmp_ne (8) 14 dX1_readBoard_6 rfl ?_ ?_
  · intro hc1n
    have hc1n : ¬ ((M 13 0 0) = (16 : Int32)) := hc1n
    replace hyp := it_neg hc1n hyp
    refine am_aload_n dX1_readBoard_14 rfl ?_
    refine am_iconst 0 (v := 0) dX1_readBoard_15 (by decide) ?_
    refine am_bipush 9 (v := 9) dX1_readBoard_16 (by decide) ?_
    obtain ⟨⟨v2, M2⟩, hk2, hyp⟩ := bd_some hyp
    try dsimp only at hyp
    refine am_callV [_, _] dX1_readBoard_18 ml_X1_101 vm_X10_number (sh_1 g) rfl (fun _ => Nat.le_of_ble_eq_true rfl) (by omega) rfl (ef_X10_number (d := d + 0) (h := h) g hk2) rfl ?_
    change am_At _ _ _ 21 [_, _, _, _, _] [_] _ _
    refine am_istore_n dX1_readBoard_21 (am_lb rfl) ?_
    change am_At _ _ _ 22 [_, _, _, _, _] [] _ _
    refine am_aload_n dX1_readBoard_22 rfl ?_
    refine am_iconst 0 (v := 0) dX1_readBoard_23 (by decide) ?_
    refine am_bipush 20 (v := 20) dX1_readBoard_24 (by decide) ?_
    obtain ⟨⟨v3, M3⟩, hk3, hyp⟩ := bd_some hyp
    try dsimp only at hyp
    refine am_callV [_, _] dX1_readBoard_26 ml_X1_101 vm_X10_number (sh_1 g) rfl (fun _ => Nat.le_of_ble_eq_true rfl) (by omega) rfl (ef_X10_number (d := d + 0) (h := h) g hk3) rfl ?_
    change am_At _ _ _ 29 [_, _, _, _, _] [_] _ _
    refine am_istore_n dX1_readBoard_29 (am_lb rfl) ?_
    change am_At _ _ _ 30 [_, _, _, _, _] [] _ _
    refine am_aload_n dX1_readBoard_30 rfl ?_
    refine am_iconst 0 (v := 0) dX1_readBoard_31 (by decide) ?_
    refine am_bipush 9 (v := 9) dX1_readBoard_32 (by decide) ?_
    obtain ⟨⟨v4, M4⟩, hk4, hyp⟩ := bd_some hyp
    try dsimp only at hyp
    refine am_callV [_, _] dX1_readBoard_34 ml_X1_101 vm_X10_number (sh_1 g) rfl (fun _ => Nat.le_of_ble_eq_true rfl) (by omega) rfl (ef_X10_number (d := d + 0) (h := h) g hk4) rfl ?_
    change am_At _ _ _ 37 [_, _, _, _, _] [_] _ _
    refine am_istore dX1_readBoard_37 (am_lb rfl) ?_
    change am_At _ _ _ 39 [_, _, _, _, _] [] _ _
    refine am_aload_n dX1_readBoard_39 rfl ?_
    refine am_callV [] dX1_readBoard_40 ml_X1_67 vm_X10_isFaulty (sh_1 g) rfl (fun _ => Nat.le_of_ble_eq_true rfl) (by omega) rfl (ef_X10_isFaulty (d := d + 1) (h := h) g  (M := M4) rfl) rfl ?_
    change am_At _ _ _ 43 [_, _, _, _, _] [_] _ _
    refine am_if_ne (44) 87 dX1_readBoard_43 rfl ?_ ?_
    · intro hc5n
      have hc5n : ¬ ((f_X10_isFaulty M4) = 0) := hc5n
      replace hyp := it_neg hc5n hyp
      cases hyp
      exact am_vret dX1_readBoard_87 rfl
    · intro hc5
      have hc5 : (f_X10_isFaulty M4) = 0 := hc5
      replace hyp := it_pos hc5 hyp
      refine am_aload_n dX1_readBoard_46 rfl ?_
      refine am_getR 1 1 14 dX1_readBoard_47 fg_X1_9 (sh_13 g) (by decide) rfl (rf_13_1 g) ?_
      refine am_aload_n dX1_readBoard_50 rfl ?_
      refine am_getI 1 0 dX1_readBoard_51 fg_X1_46 (sh_13 g) (by decide) rfl ?_
      refine am_iload_n dX1_readBoard_54 rfl ?_
      obtain ⟨hg6, hyp⟩ := gd_some hyp
      refine am_iast dX1_readBoard_55 (am_ia.one (sh_14 g)) (am_lit hg6) ?_
      refine am_aload_n dX1_readBoard_56 rfl ?_
      refine am_getR 1 2 15 dX1_readBoard_57 fg_X1_15 (sh_13 g) (by decide) rfl (rf_13_2 g) ?_
      refine am_aload_n dX1_readBoard_60 rfl ?_
      refine am_getI 1 0 dX1_readBoard_61 fg_X1_46 (sh_13 g) (by decide) rfl ?_
      refine am_iload_n dX1_readBoard_64 rfl ?_
      refine am_iast dX1_readBoard_65 (am_ia.one (sh_15 g)) (am_lit hg6) ?_
      refine am_aload_n dX1_readBoard_66 rfl ?_
      refine am_getR 1 3 16 dX1_readBoard_67 fg_X1_18 (sh_13 g) (by decide) rfl (rf_13_3 g) ?_
      refine am_aload_n dX1_readBoard_70 rfl ?_
      refine am_getI 1 0 dX1_readBoard_71 fg_X1_46 (sh_13 g) (by decide) rfl ?_
      refine am_iload dX1_readBoard_74 rfl ?_
      refine am_iast dX1_readBoard_76 (am_ia.one (sh_16 g)) (am_lit hg6) ?_
      refine am_aload_n dX1_readBoard_77 rfl ?_
      refine am_dup dX1_readBoard_78 (fun _ => rfl) ?_
      refine am_getI 1 0 dX1_readBoard_79 fg_X1_46 (sh_13 g) (by decide) rfl ?_
      refine am_iconst 1 (v := 1) dX1_readBoard_82 (by decide) ?_
      refine am_iadd dX1_readBoard_83 ?_
      refine am_putI 1 0 dX1_readBoard_84 (Or.inl fp_X1_46) (sh_13 g) (by decide) rfl rfl rfl ?_
      cases hyp
      exact am_vret dX1_readBoard_87 rfl
  · intro hc1
    have hc1 : (M 13 0 0) = (16 : Int32) := hc1
    replace hyp := it_pos hc1 hyp
    refine am_aload_n dX1_readBoard_9 rfl ?_
    refine am_iconst 3 (v := 3) dX1_readBoard_10 (by decide) ?_
    refine am_callV [_] dX1_readBoard_11 ml_X1_82 vm_X10_blameToken (sh_1 g) rfl (fun _ => Nat.le_of_ble_eq_true rfl) (by omega) rfl (ef_X10_blameToken (d := d + 0) (h := h) g (x1 := (3 : Int32)) (M := M) rfl) rfl ?_
    change am_At _ _ _ 14 [_, _, _, _, _] [] _ _
    refine am_aload_n dX1_readBoard_14 rfl ?_
    refine am_iconst 0 (v := 0) dX1_readBoard_15 (by decide) ?_
    refine am_bipush 9 (v := 9) dX1_readBoard_16 (by decide) ?_
    obtain ⟨⟨v7, M7⟩, hk7, hyp⟩ := bd_some hyp
    try dsimp only at hyp
    refine am_callV [_, _] dX1_readBoard_18 ml_X1_101 vm_X10_number (sh_1 g) rfl (fun _ => Nat.le_of_ble_eq_true rfl) (by omega) rfl (ef_X10_number (d := d + 0) (h := h) g hk7) rfl ?_
    change am_At _ _ _ 21 [_, _, _, _, _] [_] _ _
    refine am_istore_n dX1_readBoard_21 (am_lb rfl) ?_
    change am_At _ _ _ 22 [_, _, _, _, _] [] _ _
    refine am_aload_n dX1_readBoard_22 rfl ?_
    refine am_iconst 0 (v := 0) dX1_readBoard_23 (by decide) ?_
    refine am_bipush 20 (v := 20) dX1_readBoard_24 (by decide) ?_
    obtain ⟨⟨v8, M8⟩, hk8, hyp⟩ := bd_some hyp
    try dsimp only at hyp
    refine am_callV [_, _] dX1_readBoard_26 ml_X1_101 vm_X10_number (sh_1 g) rfl (fun _ => Nat.le_of_ble_eq_true rfl) (by omega) rfl (ef_X10_number (d := d + 0) (h := h) g hk8) rfl ?_
    change am_At _ _ _ 29 [_, _, _, _, _] [_] _ _
    refine am_istore_n dX1_readBoard_29 (am_lb rfl) ?_
    change am_At _ _ _ 30 [_, _, _, _, _] [] _ _
    refine am_aload_n dX1_readBoard_30 rfl ?_
    refine am_iconst 0 (v := 0) dX1_readBoard_31 (by decide) ?_
    refine am_bipush 9 (v := 9) dX1_readBoard_32 (by decide) ?_
    obtain ⟨⟨v9, M9⟩, hk9, hyp⟩ := bd_some hyp
    try dsimp only at hyp
    refine am_callV [_, _] dX1_readBoard_34 ml_X1_101 vm_X10_number (sh_1 g) rfl (fun _ => Nat.le_of_ble_eq_true rfl) (by omega) rfl (ef_X10_number (d := d + 0) (h := h) g hk9) rfl ?_
    change am_At _ _ _ 37 [_, _, _, _, _] [_] _ _
    refine am_istore dX1_readBoard_37 (am_lb rfl) ?_
    change am_At _ _ _ 39 [_, _, _, _, _] [] _ _
    refine am_aload_n dX1_readBoard_39 rfl ?_
    refine am_callV [] dX1_readBoard_40 ml_X1_67 vm_X10_isFaulty (sh_1 g) rfl (fun _ => Nat.le_of_ble_eq_true rfl) (by omega) rfl (ef_X10_isFaulty (d := d + 1) (h := h) g  (M := M9) rfl) rfl ?_
    change am_At _ _ _ 43 [_, _, _, _, _] [_] _ _
    refine am_if_ne (44) 87 dX1_readBoard_43 rfl ?_ ?_
    · intro hc10n
      have hc10n : ¬ ((f_X10_isFaulty M9) = 0) := hc10n
      replace hyp := it_neg hc10n hyp
      cases hyp
      exact am_vret dX1_readBoard_87 rfl
    · intro hc10
      have hc10 : (f_X10_isFaulty M9) = 0 := hc10
      replace hyp := it_pos hc10 hyp
      refine am_aload_n dX1_readBoard_46 rfl ?_
      refine am_getR 1 1 14 dX1_readBoard_47 fg_X1_9 (sh_13 g) (by decide) rfl (rf_13_1 g) ?_
      refine am_aload_n dX1_readBoard_50 rfl ?_
      refine am_getI 1 0 dX1_readBoard_51 fg_X1_46 (sh_13 g) (by decide) rfl ?_
      refine am_iload_n dX1_readBoard_54 rfl ?_
      obtain ⟨hg11, hyp⟩ := gd_some hyp
      refine am_iast dX1_readBoard_55 (am_ia.one (sh_14 g)) (am_lit hg11) ?_
      refine am_aload_n dX1_readBoard_56 rfl ?_
      refine am_getR 1 2 15 dX1_readBoard_57 fg_X1_15 (sh_13 g) (by decide) rfl (rf_13_2 g) ?_
      refine am_aload_n dX1_readBoard_60 rfl ?_
      refine am_getI 1 0 dX1_readBoard_61 fg_X1_46 (sh_13 g) (by decide) rfl ?_
      refine am_iload_n dX1_readBoard_64 rfl ?_
      refine am_iast dX1_readBoard_65 (am_ia.one (sh_15 g)) (am_lit hg11) ?_
      refine am_aload_n dX1_readBoard_66 rfl ?_
      refine am_getR 1 3 16 dX1_readBoard_67 fg_X1_18 (sh_13 g) (by decide) rfl (rf_13_3 g) ?_
      refine am_aload_n dX1_readBoard_70 rfl ?_
      refine am_getI 1 0 dX1_readBoard_71 fg_X1_46 (sh_13 g) (by decide) rfl ?_
      refine am_iload dX1_readBoard_74 rfl ?_
      refine am_iast dX1_readBoard_76 (am_ia.one (sh_16 g)) (am_lit hg11) ?_
      refine am_aload_n dX1_readBoard_77 rfl ?_
      refine am_dup dX1_readBoard_78 (fun _ => rfl) ?_
      refine am_getI 1 0 dX1_readBoard_79 fg_X1_46 (sh_13 g) (by decide) rfl ?_
      refine am_iconst 1 (v := 1) dX1_readBoard_82 (by decide) ?_
      refine am_iadd dX1_readBoard_83 ?_
      refine am_putI 1 0 dX1_readBoard_84 (Or.inl fp_X1_46) (sh_13 g) (by decide) rfl rfl rfl ?_
      cases hyp
      exact am_vret dX1_readBoard_87 rfl
theorem ef_X1_readFish {d : Nat} {h : am_H} (g : lay h) {M : Mem} {M' : Mem} (hyp : f_X1_readFish M = some M') : am_Ev (d + 2) mX1_readFish [.inr (13, 0), .inr (1, 0)] (am_hM h M) (.inl (none, am_hM h M')) := by
  unfold f_X1_readFish at hyp
  refine am_Ev.mk (by decide +kernel) rfl rfl (Nat.le_refl _) (Nat.le_refl _) ?_
  change am_At _ _ _ 0 [_, _, _, _] [] _ _
  refine am_aload_n dX1_readFish_0 rfl ?_
  refine am_iconst 0 (v := 0) dX1_readFish_1 (by decide) ?_
  refine am_aload_n dX1_readFish_2 rfl ?_
  refine am_getI 1 0 dX1_readFish_3 fg_X1_46 (sh_13 g) (by decide) rfl ?_
  refine am_iconst 1 (v := 1) dX1_readFish_6 (by decide) ?_
  refine am_isub dX1_readFish_7 ?_
  obtain ⟨⟨v1, M1⟩, hk1, hyp⟩ := bd_some hyp
  try dsimp only at hyp
  refine am_callV [_, _] dX1_readFish_8 ml_X1_101 vm_X10_number (sh_1 g) rfl (fun _ => Nat.le_of_ble_eq_true rfl) (by omega) rfl (ef_X10_number (d := d + 0) (h := h) g hk1) rfl ?_
  change am_At _ _ _ 11 [_, _, _, _] [_] _ _
  refine am_istore_n dX1_readFish_11 (am_lb rfl) ?_
  change am_At _ _ _ 12 [_, _, _, _] [] _ _
  refine am_aload_n dX1_readFish_12 rfl ?_
  refine am_iconst 0 (v := 0) dX1_readFish_13 (by decide) ?_
  refine am_bipush 40 (v := 40) dX1_readFish_14 (by decide) ?_
  obtain ⟨⟨v2, M2⟩, hk2, hyp⟩ := bd_some hyp
  try dsimp only at hyp
  refine am_callV [_, _] dX1_readFish_16 ml_X1_101 vm_X10_number (sh_1 g) rfl (fun _ => Nat.le_of_ble_eq_true rfl) (by omega) rfl (ef_X10_number (d := d + 0) (h := h) g hk2) rfl ?_
  change am_At _ _ _ 19 [_, _, _, _] [_] _ _
  refine am_istore_n dX1_readFish_19 (am_lb rfl) ?_
  change am_At _ _ _ 20 [_, _, _, _] [] _ _
  refine am_aload_n dX1_readFish_20 rfl ?_
  refine am_callV [] dX1_readFish_21 ml_X1_67 vm_X10_isFaulty (sh_1 g) rfl (fun _ => Nat.le_of_ble_eq_true rfl) (by omega) rfl (ef_X10_isFaulty (d := d + 1) (h := h) g  (M := M2) rfl) rfl ?_
  change am_At _ _ _ 24 [_, _, _, _] [_] _ _
  refine am_if_ne (10) 34 dX1_readFish_24 rfl ?_ ?_
  · intro hc3n
    have hc3n : ¬ ((f_X10_isFaulty M2) = 0) := hc3n
    replace hyp := it_neg hc3n hyp
    cases hyp
    exact am_vret dX1_readFish_34 rfl
  · intro hc3
    have hc3 : (f_X10_isFaulty M2) = 0 := hc3
    replace hyp := it_pos hc3 hyp
    refine am_aload_n dX1_readFish_27 rfl ?_
    refine am_getR 1 4 17 dX1_readFish_28 fg_X1_21 (sh_13 g) (by decide) rfl (rf_13_4 g) ?_
    refine am_iload_n dX1_readFish_31 rfl ?_
    refine am_iload_n dX1_readFish_32 rfl ?_
    obtain ⟨hg4, hyp⟩ := gd_some hyp
    refine am_iast dX1_readFish_33 (am_ia.one (sh_17 g)) (am_lit hg4) ?_
    cases hyp
    exact am_vret dX1_readFish_34 rfl
theorem ef_X1_readStreet {d : Nat} {h : am_H} (g : lay h) {M : Mem} {M' : Mem} (hyp : f_X1_readStreet M = some M') : am_Ev (d + 2) mX1_readStreet [.inr (13, 0), .inr (1, 0)] (am_hM h M) (.inl (none, am_hM h M')) := by
  unfold f_X1_readStreet at hyp
  refine am_Ev.mk (by decide +kernel) rfl rfl (Nat.le_refl _) (Nat.le_refl _) ?_
  change am_At _ _ _ 0 [_, _, _, _, _] [] _ _
  refine am_aload_n dX1_readStreet_0 rfl ?_
  refine am_getI 1 8 dX1_readStreet_1 fg_X1_52 (sh_13 g) (by decide) rfl ?_
  refine am_bipush 8 (v := 8) dX1_readStreet_4 (by decide) ?_
  refine am_icmp_ne (8) 14 dX1_readStreet_6 rfl ?_ ?_
  · intro hc1n
    have hc1n : ¬ ((M 13 0 8) = (8 : Int32)) := hc1n
    replace hyp := it_neg hc1n hyp
    refine am_aload_n dX1_readStreet_14 rfl ?_
    refine am_iconst 0 (v := 0) dX1_readStreet_15 (by decide) ?_
    refine am_aload_n dX1_readStreet_16 rfl ?_
    refine am_getI 1 0 dX1_readStreet_17 fg_X1_46 (sh_13 g) (by decide) rfl ?_
    refine am_iconst 1 (v := 1) dX1_readStreet_20 (by decide) ?_
    refine am_isub dX1_readStreet_21 ?_
    obtain ⟨⟨v2, M2⟩, hk2, hyp⟩ := bd_some hyp
    try dsimp only at hyp
    refine am_callV [_, _] dX1_readStreet_22 ml_X1_101 vm_X10_number (sh_1 g) rfl (fun _ => Nat.le_of_ble_eq_true rfl) (by omega) rfl (ef_X10_number (d := d + 0) (h := h) g hk2) rfl ?_
    change am_At _ _ _ 25 [_, _, _, _, _] [_] _ _
    refine am_istore_n dX1_readStreet_25 (am_lb rfl) ?_
    change am_At _ _ _ 26 [_, _, _, _, _] [] _ _
    refine am_aload_n dX1_readStreet_26 rfl ?_
    refine am_iload_n dX1_readStreet_27 rfl ?_
    refine am_aload_n dX1_readStreet_28 rfl ?_
    refine am_getI 1 0 dX1_readStreet_29 fg_X1_46 (sh_13 g) (by decide) rfl ?_
    refine am_iconst 1 (v := 1) dX1_readStreet_32 (by decide) ?_
    refine am_isub dX1_readStreet_33 ?_
    obtain ⟨⟨v3, M3⟩, hk3, hyp⟩ := bd_some hyp
    try dsimp only at hyp
    refine am_callV [_, _] dX1_readStreet_34 ml_X1_101 vm_X10_number (sh_1 g) rfl (fun _ => Nat.le_of_ble_eq_true rfl) (by omega) rfl (ef_X10_number (d := d + 0) (h := h) g hk3) rfl ?_
    change am_At _ _ _ 37 [_, _, _, _, _] [_] _ _
    refine am_istore_n dX1_readStreet_37 (am_lb rfl) ?_
    change am_At _ _ _ 38 [_, _, _, _, _] [] _ _
    refine am_aload_n dX1_readStreet_38 rfl ?_
    refine am_iconst 1 (v := 1) dX1_readStreet_39 (by decide) ?_
    refine am_bipush 40 (v := 40) dX1_readStreet_40 (by decide) ?_
    obtain ⟨⟨v4, M4⟩, hk4, hyp⟩ := bd_some hyp
    try dsimp only at hyp
    refine am_callV [_, _] dX1_readStreet_42 ml_X1_101 vm_X10_number (sh_1 g) rfl (fun _ => Nat.le_of_ble_eq_true rfl) (by omega) rfl (ef_X10_number (d := d + 0) (h := h) g hk4) rfl ?_
    change am_At _ _ _ 45 [_, _, _, _, _] [_] _ _
    refine am_istore dX1_readStreet_45 (am_lb rfl) ?_
    change am_At _ _ _ 47 [_, _, _, _, _] [] _ _
    refine am_aload_n dX1_readStreet_47 rfl ?_
    refine am_callV [] dX1_readStreet_48 ml_X1_67 vm_X10_isFaulty (sh_1 g) rfl (fun _ => Nat.le_of_ble_eq_true rfl) (by omega) rfl (ef_X10_isFaulty (d := d + 1) (h := h) g  (M := M4) rfl) rfl ?_
    change am_At _ _ _ 51 [_, _, _, _, _] [_] _ _
    refine am_if_ne (44) 95 dX1_readStreet_51 rfl ?_ ?_
    · intro hc5n
      have hc5n : ¬ ((f_X10_isFaulty M4) = 0) := hc5n
      replace hyp := it_neg hc5n hyp
      cases hyp
      exact am_vret dX1_readStreet_95 rfl
    · intro hc5
      have hc5 : (f_X10_isFaulty M4) = 0 := hc5
      replace hyp := it_pos hc5 hyp
      refine am_aload_n dX1_readStreet_54 rfl ?_
      refine am_getR 1 9 20 dX1_readStreet_55 fg_X1_30 (sh_13 g) (by decide) rfl (rf_13_9 g) ?_
      refine am_aload_n dX1_readStreet_58 rfl ?_
      refine am_getI 1 8 dX1_readStreet_59 fg_X1_52 (sh_13 g) (by decide) rfl ?_
      refine am_iload_n dX1_readStreet_62 rfl ?_
      obtain ⟨hg6, hyp⟩ := gd_some hyp
      refine am_iast dX1_readStreet_63 (am_ia.one (sh_20 g)) (am_lit hg6) ?_
      refine am_aload_n dX1_readStreet_64 rfl ?_
      refine am_getR 1 10 21 dX1_readStreet_65 fg_X1_33 (sh_13 g) (by decide) rfl (rf_13_10 g) ?_
      refine am_aload_n dX1_readStreet_68 rfl ?_
      refine am_getI 1 8 dX1_readStreet_69 fg_X1_52 (sh_13 g) (by decide) rfl ?_
      refine am_iload_n dX1_readStreet_72 rfl ?_
      refine am_iast dX1_readStreet_73 (am_ia.one (sh_21 g)) (am_lit hg6) ?_
      refine am_aload_n dX1_readStreet_74 rfl ?_
      refine am_getR 1 11 22 dX1_readStreet_75 fg_X1_36 (sh_13 g) (by decide) rfl (rf_13_11 g) ?_
      refine am_aload_n dX1_readStreet_78 rfl ?_
      refine am_getI 1 8 dX1_readStreet_79 fg_X1_52 (sh_13 g) (by decide) rfl ?_
      refine am_iload dX1_readStreet_82 rfl ?_
      refine am_iast dX1_readStreet_84 (am_ia.one (sh_22 g)) (am_lit hg6) ?_
      refine am_aload_n dX1_readStreet_85 rfl ?_
      refine am_dup dX1_readStreet_86 (fun _ => rfl) ?_
      refine am_getI 1 8 dX1_readStreet_87 fg_X1_52 (sh_13 g) (by decide) rfl ?_
      refine am_iconst 1 (v := 1) dX1_readStreet_90 (by decide) ?_
      refine am_iadd dX1_readStreet_91 ?_
      refine am_putI 1 8 dX1_readStreet_92 (Or.inl fp_X1_52) (sh_13 g) (by decide) rfl rfl rfl ?_
      cases hyp
      exact am_vret dX1_readStreet_95 rfl
  · intro hc1
    have hc1 : (M 13 0 8) = (8 : Int32) := hc1
    replace hyp := it_pos hc1 hyp
    refine am_aload_n dX1_readStreet_9 rfl ?_
    refine am_iconst 3 (v := 3) dX1_readStreet_10 (by decide) ?_
    refine am_callV [_] dX1_readStreet_11 ml_X1_82 vm_X10_blameToken (sh_1 g) rfl (fun _ => Nat.le_of_ble_eq_true rfl) (by omega) rfl (ef_X10_blameToken (d := d + 0) (h := h) g (x1 := (3 : Int32)) (M := M) rfl) rfl ?_
    change am_At _ _ _ 14 [_, _, _, _, _] [] _ _
    refine am_aload_n dX1_readStreet_14 rfl ?_
    refine am_iconst 0 (v := 0) dX1_readStreet_15 (by decide) ?_
    refine am_aload_n dX1_readStreet_16 rfl ?_
    refine am_getI 1 0 dX1_readStreet_17 fg_X1_46 (sh_13 g) (by decide) rfl ?_
    refine am_iconst 1 (v := 1) dX1_readStreet_20 (by decide) ?_
    refine am_isub dX1_readStreet_21 ?_
    obtain ⟨⟨v7, M7⟩, hk7, hyp⟩ := bd_some hyp
    try dsimp only at hyp
    refine am_callV [_, _] dX1_readStreet_22 ml_X1_101 vm_X10_number (sh_1 g) rfl (fun _ => Nat.le_of_ble_eq_true rfl) (by omega) rfl (ef_X10_number (d := d + 0) (h := h) g hk7) rfl ?_
    change am_At _ _ _ 25 [_, _, _, _, _] [_] _ _
    refine am_istore_n dX1_readStreet_25 (am_lb rfl) ?_
    change am_At _ _ _ 26 [_, _, _, _, _] [] _ _
    refine am_aload_n dX1_readStreet_26 rfl ?_
    refine am_iload_n dX1_readStreet_27 rfl ?_
    refine am_aload_n dX1_readStreet_28 rfl ?_
    refine am_getI 1 0 dX1_readStreet_29 fg_X1_46 (sh_13 g) (by decide) rfl ?_
    refine am_iconst 1 (v := 1) dX1_readStreet_32 (by decide) ?_
    refine am_isub dX1_readStreet_33 ?_
    obtain ⟨⟨v8, M8⟩, hk8, hyp⟩ := bd_some hyp
    try dsimp only at hyp
    refine am_callV [_, _] dX1_readStreet_34 ml_X1_101 vm_X10_number (sh_1 g) rfl (fun _ => Nat.le_of_ble_eq_true rfl) (by omega) rfl (ef_X10_number (d := d + 0) (h := h) g hk8) rfl ?_
    change am_At _ _ _ 37 [_, _, _, _, _] [_] _ _
    refine am_istore_n dX1_readStreet_37 (am_lb rfl) ?_
    change am_At _ _ _ 38 [_, _, _, _, _] [] _ _
    refine am_aload_n dX1_readStreet_38 rfl ?_
    refine am_iconst 1 (v := 1) dX1_readStreet_39 (by decide) ?_
    refine am_bipush 40 (v := 40) dX1_readStreet_40 (by decide) ?_
    obtain ⟨⟨v9, M9⟩, hk9, hyp⟩ := bd_some hyp
    try dsimp only at hyp
    refine am_callV [_, _] dX1_readStreet_42 ml_X1_101 vm_X10_number (sh_1 g) rfl (fun _ => Nat.le_of_ble_eq_true rfl) (by omega) rfl (ef_X10_number (d := d + 0) (h := h) g hk9) rfl ?_
    change am_At _ _ _ 45 [_, _, _, _, _] [_] _ _
    refine am_istore dX1_readStreet_45 (am_lb rfl) ?_
    change am_At _ _ _ 47 [_, _, _, _, _] [] _ _
    refine am_aload_n dX1_readStreet_47 rfl ?_
    refine am_callV [] dX1_readStreet_48 ml_X1_67 vm_X10_isFaulty (sh_1 g) rfl (fun _ => Nat.le_of_ble_eq_true rfl) (by omega) rfl (ef_X10_isFaulty (d := d + 1) (h := h) g  (M := M9) rfl) rfl ?_
    change am_At _ _ _ 51 [_, _, _, _, _] [_] _ _
    refine am_if_ne (44) 95 dX1_readStreet_51 rfl ?_ ?_
    · intro hc10n
      have hc10n : ¬ ((f_X10_isFaulty M9) = 0) := hc10n
      replace hyp := it_neg hc10n hyp
      cases hyp
      exact am_vret dX1_readStreet_95 rfl
    · intro hc10
      have hc10 : (f_X10_isFaulty M9) = 0 := hc10
      replace hyp := it_pos hc10 hyp
      refine am_aload_n dX1_readStreet_54 rfl ?_
      refine am_getR 1 9 20 dX1_readStreet_55 fg_X1_30 (sh_13 g) (by decide) rfl (rf_13_9 g) ?_
      refine am_aload_n dX1_readStreet_58 rfl ?_
      refine am_getI 1 8 dX1_readStreet_59 fg_X1_52 (sh_13 g) (by decide) rfl ?_
      refine am_iload_n dX1_readStreet_62 rfl ?_
      obtain ⟨hg11, hyp⟩ := gd_some hyp
      refine am_iast dX1_readStreet_63 (am_ia.one (sh_20 g)) (am_lit hg11) ?_
      refine am_aload_n dX1_readStreet_64 rfl ?_
      refine am_getR 1 10 21 dX1_readStreet_65 fg_X1_33 (sh_13 g) (by decide) rfl (rf_13_10 g) ?_
      refine am_aload_n dX1_readStreet_68 rfl ?_
      refine am_getI 1 8 dX1_readStreet_69 fg_X1_52 (sh_13 g) (by decide) rfl ?_
      refine am_iload_n dX1_readStreet_72 rfl ?_
      refine am_iast dX1_readStreet_73 (am_ia.one (sh_21 g)) (am_lit hg11) ?_
      refine am_aload_n dX1_readStreet_74 rfl ?_
      refine am_getR 1 11 22 dX1_readStreet_75 fg_X1_36 (sh_13 g) (by decide) rfl (rf_13_11 g) ?_
      refine am_aload_n dX1_readStreet_78 rfl ?_
      refine am_getI 1 8 dX1_readStreet_79 fg_X1_52 (sh_13 g) (by decide) rfl ?_
      refine am_iload dX1_readStreet_82 rfl ?_
      refine am_iast dX1_readStreet_84 (am_ia.one (sh_22 g)) (am_lit hg11) ?_
      refine am_aload_n dX1_readStreet_85 rfl ?_
      refine am_dup dX1_readStreet_86 (fun _ => rfl) ?_
      refine am_getI 1 8 dX1_readStreet_87 fg_X1_52 (sh_13 g) (by decide) rfl ?_
      refine am_iconst 1 (v := 1) dX1_readStreet_90 (by decide) ?_
      refine am_iadd dX1_readStreet_91 ?_
      refine am_putI 1 8 dX1_readStreet_92 (Or.inl fp_X1_52) (sh_13 g) (by decide) rfl rfl rfl ?_
      cases hyp
      exact am_vret dX1_readStreet_95 rfl
theorem eL_X2_couldHold_54 {d : Nat} {h : am_H} (g : lay h) {x1 x2 x3 x6 : Int32} {M : Mem} {r : am_R} (n : Nat) : ∀ (s : Int32 × Int32 × Int32) (e : Int32 × Int32), wh (L_X2_couldHold_54 x6 M) n s = some e → (match e with | (x4, x5) => am_At am_X0 (d + 0) mX2_couldHold 99 [some (.inr (43, 0)), some (am_I (x1)), some (am_I (x2)), some (am_I (x3)), some (am_I (x4)), some (am_I (x5)), some (am_I (x6)), none] [] (am_hM h M) r) → (match s with | (x4, x5, x7) => am_At am_X0 (d + 0) mX2_couldHold 54 [some (.inr (43, 0)), some (am_I (x1)), some (am_I (x2)), some (am_I (x3)), some (am_I (x4)), some (am_I (x5)), some (am_I (x6)), some (am_I (x7))] [] (am_hM h M) r) := by
  refine am_wh (At := fun (s : Int32 × Int32 × Int32) => match s with | (x4, x5, x7) => am_At am_X0 (d + 0) mX2_couldHold 54 [some (.inr (43, 0)), some (am_I (x1)), some (am_I (x2)), some (am_I (x3)), some (am_I (x4)), some (am_I (x5)), some (am_I (x6)), some (am_I (x7))] [] (am_hM h M) r) (Ex := fun (e : Int32 × Int32) => match e with | (x4, x5) => am_At am_X0 (d + 0) mX2_couldHold 99 [some (.inr (43, 0)), some (am_I (x1)), some (am_I (x2)), some (am_I (x3)), some (am_I (x4)), some (am_I (x5)), some (am_I (x6)), none] [] (am_hM h M) r) ?_ n
  rintro ⟨x4, x5, x7⟩ y hyp hx
  unfold L_X2_couldHold_54 at hyp
  try dsimp only at hyp
  change am_At _ _ _ 54 [_, _, _, _, _, _, _, _] [] _ _
  refine am_iload dX2_couldHold_54 rfl ?_
  refine am_iload dX2_couldHold_56 rfl ?_
  refine am_icmp_gt (41) 99 dX2_couldHold_58 rfl ?_ ?_
  · intro hc5
    have hc5 : x6 < x7 := hc5
    replace hyp := it_pos hc5 hyp
    cases hyp
    refine am_At.drop 7 ?_
    exact hx
  · intro hc5n
    have hc5n : ¬ (x6 < x7) := hc5n
    replace hyp := it_neg hc5n hyp
    refine am_iload dX2_couldHold_61 rfl ?_
    refine am_aload_n dX2_couldHold_63 rfl ?_
    refine am_getR 2 0 3 dX2_couldHold_64 fg_X2_15 (sh_43 g) (by decide) rfl (rf_43_0 g) ?_
    refine am_getR 1 3 6 dX2_couldHold_67 fg_X2_44 (sh_3 g) (by decide) rfl (rf_3_3 g) ?_
    refine am_iload dX2_couldHold_70 rfl ?_
    obtain ⟨hg6, hyp⟩ := gd_some hyp
    refine am_iald dX2_couldHold_72 (am_ia.one (sh_6 g)) (am_lit hg6) ?_
    refine am_iadd dX2_couldHold_73 ?_
    refine am_istore dX2_couldHold_74 (am_lb rfl) ?_
    change am_At _ _ _ 76 [_, _, _, _, _, _, _, _] [] _ _
    refine am_iload dX2_couldHold_76 rfl ?_
    refine am_aload_n dX2_couldHold_78 rfl ?_
    refine am_getR 2 0 3 dX2_couldHold_79 fg_X2_15 (sh_43 g) (by decide) rfl (rf_43_0 g) ?_
    refine am_getR 1 3 6 dX2_couldHold_82 fg_X2_44 (sh_3 g) (by decide) rfl (rf_3_3 g) ?_
    refine am_iload dX2_couldHold_85 rfl ?_
    refine am_iald dX2_couldHold_87 (am_ia.one (sh_6 g)) (am_lit hg6) ?_
    refine am_max dX2_couldHold_88 ml_X2_63 (fun _ => Nat.le_of_ble_eq_true rfl) ?_
    refine am_istore dX2_couldHold_91 (am_lb rfl) ?_
    change am_At _ _ _ 93 [_, _, _, _, _, _, _, _] [] _ _
    refine am_iinc dX2_couldHold_93 rfl (am_ix _) ?_
    change am_At _ _ _ 96 [_, _, _, _, _, _, _, _] [] _ _
    refine am_goto (-42) 54 dX2_couldHold_96 rfl ?_
    cases hyp
    exact hx
theorem eL_X2_couldHold_2 {d : Nat} {h : am_H} (g : lay h) {x1 x2 : Int32} {M : Mem} {r : am_R} (n : Nat) : ∀ (s : Int32) (e : (Unit) ⊕ (Unit)), wh (L_X2_couldHold_2 x1 x2 M) n s = some e → (match e with | (Sum.inl _) => am_At am_X0 (d + 0) mX2_couldHold 117 [some (.inr (43, 0)), some (am_I (x1)), some (am_I (x2)), none, none, none, none, none] [] (am_hM h M) r | (Sum.inr _) => am_At am_X0 (d + 0) mX2_couldHold 125 [some (.inr (43, 0)), some (am_I (x1)), some (am_I (x2)), none, none, none, none, none] [] (am_hM h M) r) → ((fun (x3 : Int32) => am_At am_X0 (d + 0) mX2_couldHold 2 [some (.inr (43, 0)), some (am_I (x1)), some (am_I (x2)), some (am_I (x3)), none, none, none, none] [] (am_hM h M) r) s) := by
  refine am_wh (At := fun (s : Int32) => (fun (x3 : Int32) => am_At am_X0 (d + 0) mX2_couldHold 2 [some (.inr (43, 0)), some (am_I (x1)), some (am_I (x2)), some (am_I (x3)), none, none, none, none] [] (am_hM h M) r) s) (Ex := fun (e : (Unit) ⊕ (Unit)) => match e with | (Sum.inl _) => am_At am_X0 (d + 0) mX2_couldHold 117 [some (.inr (43, 0)), some (am_I (x1)), some (am_I (x2)), none, none, none, none, none] [] (am_hM h M) r | (Sum.inr _) => am_At am_X0 (d + 0) mX2_couldHold 125 [some (.inr (43, 0)), some (am_I (x1)), some (am_I (x2)), none, none, none, none, none] [] (am_hM h M) r) ?_ n
  rintro x3 y hyp hx
  unfold L_X2_couldHold_2 at hyp
  try dsimp only at hyp
  change am_At _ _ _ 2 [_, _, _, _, _, _, _, _] [] _ _
  refine am_iload_n dX2_couldHold_2 rfl ?_
  refine am_aload_n dX2_couldHold_3 rfl ?_
  refine am_getR 2 0 3 dX2_couldHold_4 fg_X2_15 (sh_43 g) (by decide) rfl (rf_43_0 g) ?_
  refine am_getI 1 8 dX2_couldHold_7 fg_X2_19 (sh_3 g) (by decide) rfl ?_
  refine am_icmp_ge (115) 125 dX2_couldHold_10 rfl ?_ ?_
  · intro hc1
    have hc1 : (M 3 0 8) ≤ x3 := hc1
    replace hyp := it_pos hc1 hyp
    cases hyp
    refine am_At.drop 3 ?_
    exact hx
  · intro hc1n
    have hc1n : ¬ ((M 3 0 8) ≤ x3) := hc1n
    replace hyp := it_neg hc1n hyp
    refine am_iconst 0 (v := 0) dX2_couldHold_13 (by decide) ?_
    refine am_istore dX2_couldHold_14 (am_lb rfl) ?_
    change am_At _ _ _ 16 [_, _, _, _, _, _, _, _] [] _ _
    refine am_iconst 0 (v := 0) dX2_couldHold_16 (by decide) ?_
    refine am_istore dX2_couldHold_17 (am_lb rfl) ?_
    change am_At _ _ _ 19 [_, _, _, _, _, _, _, _] [] _ _
    refine am_aload_n dX2_couldHold_19 rfl ?_
    refine am_getR 2 1 44 dX2_couldHold_20 fg_X2_9 (sh_43 g) (by decide) rfl (rf_43_1 g) ?_
    refine am_iload_n dX2_couldHold_23 rfl ?_
    obtain ⟨hg2, hyp⟩ := gd_some hyp
    refine am_iald dX2_couldHold_24 (am_ia.one (sh_44 g)) (am_lit hg2) ?_
    refine am_if_le (74) 99 dX2_couldHold_25 rfl ?_ ?_
    · intro hc3
      have hc3 : (M 44 0 x3.toNatClampNeg) ≤ 0 := hc3
      replace hyp := it_pos hc3 hyp
      refine am_aload_n dX2_couldHold_99 rfl ?_
      refine am_getR 2 1 44 dX2_couldHold_100 fg_X2_9 (sh_43 g) (by decide) rfl (rf_43_1 g) ?_
      refine am_iload_n dX2_couldHold_103 rfl ?_
      refine am_iald dX2_couldHold_104 (am_ia.one (sh_44 g)) (am_lit hg2) ?_
      refine am_iload dX2_couldHold_105 rfl ?_
      refine am_iload_n dX2_couldHold_107 rfl ?_
      refine am_iload dX2_couldHold_108 rfl ?_
      refine am_imul dX2_couldHold_110 ?_
      refine am_min dX2_couldHold_111 ml_X2_57 (fun _ => Nat.le_of_ble_eq_true rfl) ?_
      refine am_icmp_le (5) 119 dX2_couldHold_114 rfl ?_ ?_
      · intro hc4
        have hc4 : (M 44 0 x3.toNatClampNeg) ≤ (if (x2 * (0 : Int32)) < (0 : Int32) then (x2 * (0 : Int32)) else (0 : Int32)) := hc4
        replace hyp := it_pos hc4 hyp
        refine am_iinc dX2_couldHold_119 rfl (am_ix _) ?_
        change am_At _ _ _ 122 [_, _, _, _, _, _, _, _] [] _ _
        refine am_goto (-120) 2 dX2_couldHold_122 rfl ?_
        cases hyp
        refine am_At.drop 4 ?_
        refine am_At.drop 5 ?_
        exact hx
      · intro hc4n
        have hc4n : ¬ ((M 44 0 x3.toNatClampNeg) ≤ (if (x2 * (0 : Int32)) < (0 : Int32) then (x2 * (0 : Int32)) else (0 : Int32))) := hc4n
        replace hyp := it_neg hc4n hyp
        cases hyp
        refine am_At.drop 3 ?_
        refine am_At.drop 4 ?_
        refine am_At.drop 5 ?_
        exact hx
    · intro hc3n
      have hc3n : ¬ ((M 44 0 x3.toNatClampNeg) ≤ 0) := hc3n
      replace hyp := it_neg hc3n hyp
      refine am_iload_n dX2_couldHold_28 rfl ?_
      refine am_aload_n dX2_couldHold_29 rfl ?_
      refine am_getR 2 0 3 dX2_couldHold_30 fg_X2_15 (sh_43 g) (by decide) rfl (rf_43_0 g) ?_
      refine am_getR 1 10 11 dX2_couldHold_33 fg_X2_54 (sh_3 g) (by decide) rfl (rf_3_10 g) ?_
      refine am_iload_n dX2_couldHold_36 rfl ?_
      refine am_iald dX2_couldHold_37 (am_ia.one (sh_11 g)) (am_lit hg2) ?_
      refine am_min dX2_couldHold_38 ml_X2_57 (fun _ => Nat.le_of_ble_eq_true rfl) ?_
      refine am_istore dX2_couldHold_41 (am_lb rfl) ?_
      change am_At _ _ _ 43 [_, _, _, _, _, _, _, _] [] _ _
      refine am_aload_n dX2_couldHold_43 rfl ?_
      refine am_getR 2 0 3 dX2_couldHold_44 fg_X2_15 (sh_43 g) (by decide) rfl (rf_43_0 g) ?_
      refine am_getR 1 9 10 dX2_couldHold_47 fg_X2_51 (sh_3 g) (by decide) rfl (rf_3_9 g) ?_
      refine am_iload_n dX2_couldHold_50 rfl ?_
      refine am_iald dX2_couldHold_51 (am_ia.one (sh_10 g)) (am_lit hg2) ?_
      refine am_istore dX2_couldHold_52 (am_lb rfl) ?_
      change am_At _ _ _ 54 [_, _, _, _, _, _, _, _] [] _ _
      obtain ⟨⟨x4_7, x5_7⟩, hw7, hyp⟩ := bd_some hyp
      try dsimp only at hyp
      refine eL_X2_couldHold_54 (d := d) (h := h) g (M := M) FU ((0 : Int32), (0 : Int32), M 10 0 x3.toNatClampNeg) (x4_7, x5_7) hw7 ?_
      change am_At _ _ _ 99 [_, _, _, _, _, _, _, _] [] _ _
      refine am_aload_n dX2_couldHold_99 rfl ?_
      refine am_getR 2 1 44 dX2_couldHold_100 fg_X2_9 (sh_43 g) (by decide) rfl (rf_43_1 g) ?_
      refine am_iload_n dX2_couldHold_103 rfl ?_
      refine am_iald dX2_couldHold_104 (am_ia.one (sh_44 g)) (am_lit hg2) ?_
      refine am_iload dX2_couldHold_105 rfl ?_
      refine am_iload_n dX2_couldHold_107 rfl ?_
      refine am_iload dX2_couldHold_108 rfl ?_
      refine am_imul dX2_couldHold_110 ?_
      refine am_min dX2_couldHold_111 ml_X2_57 (fun _ => Nat.le_of_ble_eq_true rfl) ?_
      refine am_icmp_le (5) 119 dX2_couldHold_114 rfl ?_ ?_
      · intro hc8
        have hc8 : (M 44 0 x3.toNatClampNeg) ≤ (if (x2 * x5_7) < x4_7 then (x2 * x5_7) else x4_7) := hc8
        replace hyp := it_pos hc8 hyp
        refine am_iinc dX2_couldHold_119 rfl (am_ix _) ?_
        change am_At _ _ _ 122 [_, _, _, _, _, _, _, _] [] _ _
        refine am_goto (-120) 2 dX2_couldHold_122 rfl ?_
        cases hyp
        refine am_At.drop 4 ?_
        refine am_At.drop 5 ?_
        refine am_At.drop 6 ?_
        exact hx
      · intro hc8n
        have hc8n : ¬ ((M 44 0 x3.toNatClampNeg) ≤ (if (x2 * x5_7) < x4_7 then (x2 * x5_7) else x4_7)) := hc8n
        replace hyp := it_neg hc8n hyp
        cases hyp
        refine am_At.drop 3 ?_
        refine am_At.drop 4 ?_
        refine am_At.drop 5 ?_
        refine am_At.drop 6 ?_
        exact hx
theorem ef_X2_couldHold {d : Nat} {h : am_H} (g : lay h) {x1 x2 : Int32} {M : Mem} {v : Int32} (hyp : f_X2_couldHold x1 x2 M = some v) : am_Ev (d + 0) mX2_couldHold [.inr (43, 0), am_I x1, am_I x2] (am_hM h M) (.inl (some (am_I v), am_hM h M)) := by
  unfold f_X2_couldHold at hyp
  refine am_Ev.mk (by decide +kernel) rfl rfl (Nat.le_refl _) (Nat.le_refl _) ?_
  change am_At _ _ _ 0 [_, _, _, _, _, _, _, _] [] _ _
  refine am_iconst 0 (v := 0) dX2_couldHold_0 (by decide) ?_
  refine am_istore_n dX2_couldHold_1 (am_lb rfl) ?_
  change am_At _ _ _ 2 [_, _, _, _, _, _, _, _] [] _ _
  obtain ⟨e9, hw9, hyp⟩ := bd_some hyp
  rcases e9 with _ | _
  · try dsimp only at hyp
    refine eL_X2_couldHold_2 (d := d) (h := h) g (M := M) FU (0 : Int32) (Sum.inl ()) hw9 ?_
    change am_At _ _ _ 117 [_, _, _, _, _, _, _, _] [] _ _
    refine am_iconst 0 (v := 0) dX2_couldHold_117 (by decide) ?_
    cases hyp
    exact am_zret dX2_couldHold_118 rfl rfl
  · try dsimp only at hyp
    refine eL_X2_couldHold_2 (d := d) (h := h) g (M := M) FU (0 : Int32) (Sum.inr ()) hw9 ?_
    change am_At _ _ _ 125 [_, _, _, _, _, _, _, _] [] _ _
    refine am_iconst 1 (v := 1) dX2_couldHold_125 (by decide) ?_
    cases hyp
    exact am_zret dX2_couldHold_126 rfl rfl
theorem eL_X2_drain_2 {d : Nat} {h : am_H} (g : lay h) {x1 x2 : Int32} {r : am_R} (n : Nat) : ∀ (s : Int32 × Mem) (e : Mem), wh (L_X2_drain_2 x1 x2) n s = some e → ((fun (M : Mem) => am_At am_X0 (d + 0) mX2_drain 55 [some (.inr (43, 0)), some (am_I (x1)), some (am_I (x2)), none] [] (am_hM h M) r) e) → (match s with | (x3, M) => am_At am_X0 (d + 0) mX2_drain 2 [some (.inr (43, 0)), some (am_I (x1)), some (am_I (x2)), some (am_I (x3))] [] (am_hM h M) r) := by
  refine am_wh (At := fun (s : Int32 × Mem) => match s with | (x3, M) => am_At am_X0 (d + 0) mX2_drain 2 [some (.inr (43, 0)), some (am_I (x1)), some (am_I (x2)), some (am_I (x3))] [] (am_hM h M) r) (Ex := fun (e : Mem) => (fun (M : Mem) => am_At am_X0 (d + 0) mX2_drain 55 [some (.inr (43, 0)), some (am_I (x1)), some (am_I (x2)), none] [] (am_hM h M) r) e) ?_ n
  rintro ⟨x3, M⟩ y hyp hx
  unfold L_X2_drain_2 at hyp
  try dsimp only at hyp
  change am_At _ _ _ 2 [_, _, _, _] [] _ _
  refine am_iload_n dX2_drain_2 rfl ?_
  refine am_aload_n dX2_drain_3 rfl ?_
  refine am_getR 2 0 3 dX2_drain_4 fg_X2_15 (sh_43 g) (by decide) rfl (rf_43_0 g) ?_
  refine am_getI 1 8 dX2_drain_7 fg_X2_19 (sh_3 g) (by decide) rfl ?_
  refine am_icmp_ge (45) 55 dX2_drain_10 rfl ?_ ?_
  · intro hc1
    have hc1 : (M 3 0 8) ≤ x3 := hc1
    replace hyp := it_pos hc1 hyp
    cases hyp
    refine am_At.drop 3 ?_
    exact hx
  · intro hc1n
    have hc1n : ¬ ((M 3 0 8) ≤ x3) := hc1n
    replace hyp := it_neg hc1n hyp
    refine am_aload_n dX2_drain_13 rfl ?_
    refine am_getR 2 0 3 dX2_drain_14 fg_X2_15 (sh_43 g) (by decide) rfl (rf_43_0 g) ?_
    refine am_getR 1 9 10 dX2_drain_17 fg_X2_51 (sh_3 g) (by decide) rfl (rf_3_9 g) ?_
    refine am_iload_n dX2_drain_20 rfl ?_
    obtain ⟨hg2, hyp⟩ := gd_some hyp
    refine am_iald dX2_drain_21 (am_ia.one (sh_10 g)) (am_lit hg2) ?_
    refine am_iload_n dX2_drain_22 rfl ?_
    refine am_icmp_gt (26) 49 dX2_drain_23 rfl ?_ ?_
    · intro hc3
      have hc3 : x1 < (M 10 0 x3.toNatClampNeg) := hc3
      replace hyp := it_pos hc3 hyp
      refine am_iinc dX2_drain_49 rfl (am_ix _) ?_
      change am_At _ _ _ 52 [_, _, _, _] [] _ _
      refine am_goto (-50) 2 dX2_drain_52 rfl ?_
      cases hyp
      exact hx
    · intro hc3n
      have hc3n : ¬ (x1 < (M 10 0 x3.toNatClampNeg)) := hc3n
      replace hyp := it_neg hc3n hyp
      refine am_iload_n dX2_drain_26 rfl ?_
      refine am_aload_n dX2_drain_27 rfl ?_
      refine am_getR 2 0 3 dX2_drain_28 fg_X2_15 (sh_43 g) (by decide) rfl (rf_43_0 g) ?_
      refine am_getR 1 10 11 dX2_drain_31 fg_X2_54 (sh_3 g) (by decide) rfl (rf_3_10 g) ?_
      refine am_iload_n dX2_drain_34 rfl ?_
      refine am_iald dX2_drain_35 (am_ia.one (sh_11 g)) (am_lit hg2) ?_
      refine am_icmp_gt (13) 49 dX2_drain_36 rfl ?_ ?_
      · intro hc4
        have hc4 : (M 11 0 x3.toNatClampNeg) < x1 := hc4
        replace hyp := it_pos hc4 hyp
        refine am_iinc dX2_drain_49 rfl (am_ix _) ?_
        change am_At _ _ _ 52 [_, _, _, _] [] _ _
        refine am_goto (-50) 2 dX2_drain_52 rfl ?_
        cases hyp
        exact hx
      · intro hc4n
        have hc4n : ¬ ((M 11 0 x3.toNatClampNeg) < x1) := hc4n
        replace hyp := it_neg hc4n hyp
        refine am_aload_n dX2_drain_39 rfl ?_
        refine am_getR 2 1 44 dX2_drain_40 fg_X2_9 (sh_43 g) (by decide) rfl (rf_43_1 g) ?_
        refine am_iload_n dX2_drain_43 rfl ?_
        refine am_dup2 dX2_drain_44 (fun _ => rfl) (fun _ => rfl) ?_
        refine am_iald dX2_drain_45 (am_ia.one (sh_44 g)) (am_lit hg2) ?_
        refine am_iload_n dX2_drain_46 rfl ?_
        refine am_isub dX2_drain_47 ?_
        refine am_iast dX2_drain_48 (am_ia.one (sh_44 g)) (am_lit hg2) ?_
        refine am_iinc dX2_drain_49 rfl (am_ix _) ?_
        change am_At _ _ _ 52 [_, _, _, _] [] _ _
        refine am_goto (-50) 2 dX2_drain_52 rfl ?_
        cases hyp
        exact hx
theorem ef_X2_drain {d : Nat} {h : am_H} (g : lay h) {x1 x2 : Int32} {M : Mem} {M' : Mem} (hyp : f_X2_drain x1 x2 M = some M') : am_Ev (d + 0) mX2_drain [.inr (43, 0), am_I x1, am_I x2] (am_hM h M) (.inl (none, am_hM h M')) := by
  unfold f_X2_drain at hyp
  refine am_Ev.mk (by decide +kernel) rfl rfl (Nat.le_refl _) (Nat.le_refl _) ?_
  change am_At _ _ _ 0 [_, _, _, _] [] _ _
  refine am_iconst 0 (v := 0) dX2_drain_0 (by decide) ?_
  refine am_istore_n dX2_drain_1 (am_lb rfl) ?_
  change am_At _ _ _ 2 [_, _, _, _] [] _ _
  obtain ⟨M5, hw5, hyp⟩ := bd_some hyp
  try dsimp only at hyp
  refine eL_X2_drain_2 (d := d) (h := h) g  FU ((0 : Int32), M) M5 hw5 ?_
  change am_At _ _ _ 55 [_, _, _, _] [] _ _
  cases hyp
  exact am_vret dX2_drain_55 rfl
theorem ef_X3_add_24 {d : Nat} {h : am_H} (g : lay h) (hW : h.2.2 23 0 = some 24 ∧ h.2.2 23 2 = some 25) {x1 : Int32} {M : Mem} {M' : Mem} (hyp : f_X3_add 24 25 x1 M = some M') : am_Ev (d + 0) mX3_add [.inr (23, 0), am_I x1] (am_hM h M) (.inl (none, am_hM h M')) := by
  unfold f_X3_add at hyp
  refine am_Ev.mk (by decide +kernel) rfl rfl (Nat.le_refl _) (Nat.le_refl _) ?_
  change am_At _ _ _ 0 [_, _] [] _ _
  refine am_aload_n dX3_add_0 rfl ?_
  refine am_getI 3 3 dX3_add_1 fg_X3_27 (sh_23 g) (by decide) rfl ?_
  refine am_aload_n dX3_add_4 rfl ?_
  refine am_getR 3 2 25 dX3_add_5 fg_X3_15 (sh_23 g) (by decide) rfl hW.2 ?_
  refine am_alen dX3_add_8 (am_ia.one (sh_25 g)) rfl ?_
  refine am_icmp_ge (23) 32 dX3_add_9 rfl ?_ ?_
  · intro hc1
    have hc1 : (150 : Int32) ≤ (M 23 0 3) := hc1
    replace hyp := it_pos hc1 hyp
    cases hyp
    exact am_vret dX3_add_32 rfl
  · intro hc1n
    have hc1n : ¬ ((150 : Int32) ≤ (M 23 0 3)) := hc1n
    replace hyp := it_neg hc1n hyp
    refine am_aload_n dX3_add_12 rfl ?_
    refine am_getR 3 2 25 dX3_add_13 fg_X3_15 (sh_23 g) (by decide) rfl hW.2 ?_
    refine am_aload_n dX3_add_16 rfl ?_
    refine am_getI 3 3 dX3_add_17 fg_X3_27 (sh_23 g) (by decide) rfl ?_
    refine am_iload_n dX3_add_20 rfl ?_
    obtain ⟨hg2, hyp⟩ := gd_some hyp
    refine am_iast dX3_add_21 (am_ia.one (sh_25 g)) (am_lit hg2) ?_
    refine am_aload_n dX3_add_22 rfl ?_
    refine am_dup dX3_add_23 (fun _ => rfl) ?_
    refine am_getI 3 3 dX3_add_24 fg_X3_27 (sh_23 g) (by decide) rfl ?_
    refine am_iconst 1 (v := 1) dX3_add_27 (by decide) ?_
    refine am_iadd dX3_add_28 ?_
    refine am_putI 3 3 dX3_add_29 (Or.inl fp_X3_27) (sh_23 g) (by decide) rfl rfl rfl ?_
    cases hyp
    exact am_vret dX3_add_32 rfl
theorem ef_X3_add_25 {d : Nat} {h : am_H} (g : lay h) (hW : h.2.2 23 0 = some 25 ∧ h.2.2 23 2 = some 24) {x1 : Int32} {M : Mem} {M' : Mem} (hyp : f_X3_add 25 24 x1 M = some M') : am_Ev (d + 0) mX3_add [.inr (23, 0), am_I x1] (am_hM h M) (.inl (none, am_hM h M')) := by
  unfold f_X3_add at hyp
  refine am_Ev.mk (by decide +kernel) rfl rfl (Nat.le_refl _) (Nat.le_refl _) ?_
  change am_At _ _ _ 0 [_, _] [] _ _
  refine am_aload_n dX3_add_0 rfl ?_
  refine am_getI 3 3 dX3_add_1 fg_X3_27 (sh_23 g) (by decide) rfl ?_
  refine am_aload_n dX3_add_4 rfl ?_
  refine am_getR 3 2 24 dX3_add_5 fg_X3_15 (sh_23 g) (by decide) rfl hW.2 ?_
  refine am_alen dX3_add_8 (am_ia.one (sh_24 g)) rfl ?_
  refine am_icmp_ge (23) 32 dX3_add_9 rfl ?_ ?_
  · intro hc1
    have hc1 : (150 : Int32) ≤ (M 23 0 3) := hc1
    replace hyp := it_pos hc1 hyp
    cases hyp
    exact am_vret dX3_add_32 rfl
  · intro hc1n
    have hc1n : ¬ ((150 : Int32) ≤ (M 23 0 3)) := hc1n
    replace hyp := it_neg hc1n hyp
    refine am_aload_n dX3_add_12 rfl ?_
    refine am_getR 3 2 24 dX3_add_13 fg_X3_15 (sh_23 g) (by decide) rfl hW.2 ?_
    refine am_aload_n dX3_add_16 rfl ?_
    refine am_getI 3 3 dX3_add_17 fg_X3_27 (sh_23 g) (by decide) rfl ?_
    refine am_iload_n dX3_add_20 rfl ?_
    obtain ⟨hg2, hyp⟩ := gd_some hyp
    refine am_iast dX3_add_21 (am_ia.one (sh_24 g)) (am_lit hg2) ?_
    refine am_aload_n dX3_add_22 rfl ?_
    refine am_dup dX3_add_23 (fun _ => rfl) ?_
    refine am_getI 3 3 dX3_add_24 fg_X3_27 (sh_23 g) (by decide) rfl ?_
    refine am_iconst 1 (v := 1) dX3_add_27 (by decide) ?_
    refine am_iadd dX3_add_28 ?_
    refine am_putI 3 3 dX3_add_29 (Or.inl fp_X3_27) (sh_23 g) (by decide) rfl rfl rfl ?_
    cases hyp
    exact am_vret dX3_add_32 rfl
theorem ef_X3_findFacts {d : Nat} {h : am_H} (g : lay h) {x2 x3 x4 : Int32} {M : Mem} {M' : Mem} (hyp : f_X3_findFacts x2 x3 x4 M = some M') : am_Ev (d + 0) mX3_findFacts [.inr (23, 0), .inr (3, 0), am_I x2, am_I x3, am_I x4] (am_hM h M) (.inl (none, am_hM h M')) := by
  unfold f_X3_findFacts at hyp
  refine am_Ev.mk (by decide +kernel) rfl rfl (Nat.le_refl _) (Nat.le_refl _) ?_
  change am_At _ _ _ 0 [_, _, _, _, _] [] _ _
  refine am_aload_n dX3_findFacts_0 rfl ?_
  refine am_getR 3 6 27 dX3_findFacts_1 fg_X3_21 (sh_23 g) (by decide) rfl (rf_23_6 g) ?_
  refine am_iconst 0 (v := 0) dX3_findFacts_4 (by decide) ?_
  refine am_iload_n dX3_findFacts_5 rfl ?_
  refine am_bipush 24 (v := 24) dX3_findFacts_6 (by decide) ?_
  refine am_irem dX3_findFacts_8 (by decide) ?_
  refine am_iast dX3_findFacts_9 (am_ia.one (sh_27 g)) (am_lit rfl) ?_
  refine am_aload_n dX3_findFacts_10 rfl ?_
  refine am_getR 3 6 27 dX3_findFacts_11 fg_X3_21 (sh_23 g) (by decide) rfl (rf_23_6 g) ?_
  refine am_iconst 1 (v := 1) dX3_findFacts_14 (by decide) ?_
  refine am_iload_n dX3_findFacts_15 rfl ?_
  refine am_bipush 24 (v := 24) dX3_findFacts_16 (by decide) ?_
  refine am_idiv dX3_findFacts_18 (by decide) ?_
  refine am_iast dX3_findFacts_19 (am_ia.one (sh_27 g)) (am_lit rfl) ?_
  refine am_aload_n dX3_findFacts_20 rfl ?_
  refine am_getR 3 6 27 dX3_findFacts_21 fg_X3_21 (sh_23 g) (by decide) rfl (rf_23_6 g) ?_
  refine am_iconst 2 (v := 2) dX3_findFacts_24 (by decide) ?_
  refine am_iload_n dX3_findFacts_25 rfl ?_
  refine am_iast dX3_findFacts_26 (am_ia.one (sh_27 g)) (am_lit rfl) ?_
  refine am_aload_n dX3_findFacts_27 rfl ?_
  refine am_getR 3 6 27 dX3_findFacts_28 fg_X3_21 (sh_23 g) (by decide) rfl (rf_23_6 g) ?_
  refine am_iconst 3 (v := 3) dX3_findFacts_31 (by decide) ?_
  refine am_aload_n dX3_findFacts_32 rfl ?_
  refine am_getR 1 1 4 dX3_findFacts_33 fg_X3_105 (sh_3 g) (by decide) rfl (rf_3_1 g) ?_
  refine am_iload_n dX3_findFacts_36 rfl ?_
  obtain ⟨hg1, hyp⟩ := gd_some hyp
  refine am_iald dX3_findFacts_37 (am_ia.one (sh_4 g)) (am_lit hg1) ?_
  refine am_iast dX3_findFacts_38 (am_ia.one (sh_27 g)) (am_lit rfl) ?_
  refine am_aload_n dX3_findFacts_39 rfl ?_
  refine am_getR 3 6 27 dX3_findFacts_40 fg_X3_21 (sh_23 g) (by decide) rfl (rf_23_6 g) ?_
  refine am_iconst 4 (v := 4) dX3_findFacts_43 (by decide) ?_
  refine am_aload_n dX3_findFacts_44 rfl ?_
  refine am_getR 1 2 5 dX3_findFacts_45 fg_X3_110 (sh_3 g) (by decide) rfl (rf_3_2 g) ?_
  refine am_iload_n dX3_findFacts_48 rfl ?_
  refine am_iald dX3_findFacts_49 (am_ia.one (sh_5 g)) (am_lit hg1) ?_
  refine am_iast dX3_findFacts_50 (am_ia.one (sh_27 g)) (am_lit rfl) ?_
  refine am_aload_n dX3_findFacts_51 rfl ?_
  refine am_getR 3 6 27 dX3_findFacts_52 fg_X3_21 (sh_23 g) (by decide) rfl (rf_23_6 g) ?_
  refine am_iconst 5 (v := 5) dX3_findFacts_55 (by decide) ?_
  refine am_aload_n dX3_findFacts_56 rfl ?_
  refine am_getR 1 3 6 dX3_findFacts_57 fg_X3_113 (sh_3 g) (by decide) rfl (rf_3_3 g) ?_
  refine am_iload_n dX3_findFacts_60 rfl ?_
  refine am_iald dX3_findFacts_61 (am_ia.one (sh_6 g)) (am_lit hg1) ?_
  refine am_iast dX3_findFacts_62 (am_ia.one (sh_27 g)) (am_lit rfl) ?_
  refine am_aload_n dX3_findFacts_63 rfl ?_
  refine am_getR 3 6 27 dX3_findFacts_64 fg_X3_21 (sh_23 g) (by decide) rfl (rf_23_6 g) ?_
  refine am_bipush 6 (v := 6) dX3_findFacts_67 (by decide) ?_
  refine am_aload_n dX3_findFacts_69 rfl ?_
  refine am_getR 1 4 7 dX3_findFacts_70 fg_X3_116 (sh_3 g) (by decide) rfl (rf_3_4 g) ?_
  refine am_iload_n dX3_findFacts_73 rfl ?_
  refine am_iald dX3_findFacts_74 (am_ia.one (sh_7 g)) (am_lit hg1) ?_
  refine am_iast dX3_findFacts_75 (am_ia.one (sh_27 g)) (am_lit rfl) ?_
  refine am_aload_n dX3_findFacts_76 rfl ?_
  refine am_getR 3 6 27 dX3_findFacts_77 fg_X3_21 (sh_23 g) (by decide) rfl (rf_23_6 g) ?_
  refine am_bipush 7 (v := 7) dX3_findFacts_80 (by decide) ?_
  refine am_iload dX3_findFacts_82 rfl ?_
  refine am_iast dX3_findFacts_84 (am_ia.one (sh_27 g)) (am_lit rfl) ?_
  cases hyp
  exact am_vret dX3_findFacts_85 rfl
theorem ef_X3_isNestedDeeper {d : Nat} {h : am_H} (g : lay h) {x1 : Int32} {M : Mem} {v : Int32} {M' : Mem} (hyp : f_X3_isNestedDeeper x1 M = (v, M')) : am_Ev (d + 2) mX3_isNestedDeeper [.inr (1, 0), am_I x1] (am_hM h M) (.inl (some (am_I v), am_hM h M')) := by
  unfold f_X3_isNestedDeeper at hyp
  refine am_Ev.mk (by decide +kernel) rfl rfl (Nat.le_refl _) (Nat.le_refl _) ?_
  change am_At _ _ _ 0 [_, _] [] _ _
  refine am_iload_n dX3_isNestedDeeper_0 rfl ?_
  refine am_bipush 6 (v := 6) dX3_isNestedDeeper_1 (by decide) ?_
  refine am_icmp_ne (8) 11 dX3_isNestedDeeper_3 rfl ?_ ?_
  · intro hc1n
    have hc1n : ¬ (x1 = (6 : Int32)) := hc1n
    replace hyp := it_neg hc1n hyp
    refine am_aload_n dX3_isNestedDeeper_11 rfl ?_
    refine am_callV [] dX3_isNestedDeeper_12 ml_X3_47 vm_X10_isFaulty (sh_1 g) rfl (fun _ => Nat.le_of_ble_eq_true rfl) (by omega) rfl (ef_X10_isFaulty (d := d + 1) (h := h) g  (M := M) rfl) rfl ?_
    change am_At _ _ _ 15 [_, _] [_] _ _
    refine am_if_ne (7) 22 dX3_isNestedDeeper_15 rfl ?_ ?_
    · intro hc2n
      have hc2n : ¬ ((f_X10_isFaulty M) = 0) := hc2n
      replace hyp := it_neg hc2n hyp
      refine am_iconst 0 (v := 0) dX3_isNestedDeeper_22 (by decide) ?_
      cases hyp
      exact am_zret dX3_isNestedDeeper_23 rfl rfl
    · intro hc2
      have hc2 : (f_X10_isFaulty M) = 0 := hc2
      replace hyp := it_pos hc2 hyp
      refine am_iconst 1 (v := 1) dX3_isNestedDeeper_18 (by decide) ?_
      refine am_goto (4) 23 dX3_isNestedDeeper_19 rfl ?_
      cases hyp
      exact am_zret dX3_isNestedDeeper_23 rfl rfl
  · intro hc1
    have hc1 : x1 = (6 : Int32) := hc1
    replace hyp := it_pos hc1 hyp
    refine am_aload_n dX3_isNestedDeeper_6 rfl ?_
    refine am_iconst 3 (v := 3) dX3_isNestedDeeper_7 (by decide) ?_
    refine am_callV [_] dX3_isNestedDeeper_8 ml_X3_94 vm_X10_blameToken (sh_1 g) rfl (fun _ => Nat.le_of_ble_eq_true rfl) (by omega) rfl (ef_X10_blameToken (d := d + 0) (h := h) g (x1 := (3 : Int32)) (M := M) rfl) rfl ?_
    change am_At _ _ _ 11 [_, _] [] _ _
    refine am_aload_n dX3_isNestedDeeper_11 rfl ?_
    refine am_callV [] dX3_isNestedDeeper_12 ml_X3_47 vm_X10_isFaulty (sh_1 g) rfl (fun _ => Nat.le_of_ble_eq_true rfl) (by omega) rfl (ef_X10_isFaulty (d := d + 1) (h := h) g  (M := (f_X10_blame (3 : Int32) (M 1 0 4) M)) rfl) rfl ?_
    change am_At _ _ _ 15 [_, _] [_] _ _
    refine am_if_ne (7) 22 dX3_isNestedDeeper_15 rfl ?_ ?_
    · intro hc3n
      have hc3n : ¬ ((f_X10_isFaulty (f_X10_blame (3 : Int32) (M 1 0 4) M)) = 0) := hc3n
      replace hyp := it_neg hc3n hyp
      refine am_iconst 0 (v := 0) dX3_isNestedDeeper_22 (by decide) ?_
      cases hyp
      exact am_zret dX3_isNestedDeeper_23 rfl rfl
    · intro hc3
      have hc3 : (f_X10_isFaulty (f_X10_blame (3 : Int32) (M 1 0 4) M)) = 0 := hc3
      replace hyp := it_pos hc3 hyp
      refine am_iconst 1 (v := 1) dX3_isNestedDeeper_18 (by decide) ?_
      refine am_goto (4) 23 dX3_isNestedDeeper_19 rfl ?_
      cases hyp
      exact am_zret dX3_isNestedDeeper_23 rfl rfl
theorem ef_X3_join {d : Nat} {h : am_H} {x0 x1 x2 : Int32} {v : Int32} (hyp : f_X3_join x0 x1 x2 = some v) : am_Ev (d + 0) mX3_join [am_I x0, am_I x1, am_I x2] h (.inl (some (am_I v), h)) := by
  unfold f_X3_join at hyp
  refine am_Ev.mk (by decide +kernel) rfl rfl (Nat.le_refl _) (Nat.le_refl _) ?_
  change am_At _ _ _ 0 [_, _, _] [] _ _
  refine am_iload_n dX3_join_0 rfl ?_
  by_cases hc1 : x0 = (8 : Int32)
  · refine am_tabIn (43) 44 dX3_join_1 (by rw [hc1]; decide) (by rw [hc1]; decide) (by rw [hc1]; rfl) rfl ?_
    replace hyp := it_pos hc1 hyp
    refine am_iload_n dX3_join_44 rfl ?_
    refine am_iload_n dX3_join_45 rfl ?_
    refine am_icmp_ge (7) 53 dX3_join_46 rfl ?_ ?_
    · intro hc2
      have hc2 : x2 ≤ x1 := hc2
      replace hyp := it_pos hc2 hyp
      refine am_iload_n dX3_join_53 rfl ?_
      cases hyp
      exact am_iret dX3_join_54 rfl
    · intro hc2n
      have hc2n : ¬ (x2 ≤ x1) := hc2n
      replace hyp := it_neg hc2n hyp
      refine am_iload_n dX3_join_49 rfl ?_
      refine am_goto (4) 54 dX3_join_50 rfl ?_
      cases hyp
      exact am_iret dX3_join_54 rfl
  · have hc1n := hc1
    replace hyp := it_neg hc1n hyp
    by_cases hc3 : x0 = (9 : Int32)
    · refine am_tabIn (54) 55 dX3_join_1 (by rw [hc3]; decide) (by rw [hc3]; decide) (by rw [hc3]; rfl) rfl ?_
      replace hyp := it_pos hc3 hyp
      refine am_iload_n dX3_join_55 rfl ?_
      refine am_iload_n dX3_join_56 rfl ?_
      refine am_icmp_le (7) 64 dX3_join_57 rfl ?_ ?_
      · intro hc4
        have hc4 : x1 ≤ x2 := hc4
        replace hyp := it_pos hc4 hyp
        refine am_iload_n dX3_join_64 rfl ?_
        cases hyp
        exact am_iret dX3_join_65 rfl
      · intro hc4n
        have hc4n : ¬ (x1 ≤ x2) := hc4n
        replace hyp := it_neg hc4n hyp
        refine am_iload_n dX3_join_60 rfl ?_
        refine am_goto (4) 65 dX3_join_61 rfl ?_
        cases hyp
        exact am_iret dX3_join_65 rfl
    · have hc3n := hc3
      replace hyp := it_neg hc3n hyp
      by_cases hc5 : x0 = (10 : Int32)
      · refine am_tabIn (65) 66 dX3_join_1 (by rw [hc5]; decide) (by rw [hc5]; decide) (by rw [hc5]; rfl) rfl ?_
        replace hyp := it_pos hc5 hyp
        refine am_iload_n dX3_join_66 rfl ?_
        refine am_iload_n dX3_join_67 rfl ?_
        refine am_iadd dX3_join_68 ?_
        cases hyp
        exact am_iret dX3_join_69 rfl
      · have hc5n := hc5
        replace hyp := it_neg hc5n hyp
        by_cases hc6 : x0 = (11 : Int32)
        · refine am_tabIn (69) 70 dX3_join_1 (by rw [hc6]; decide) (by rw [hc6]; decide) (by rw [hc6]; rfl) rfl ?_
          replace hyp := it_pos hc6 hyp
          refine am_iload_n dX3_join_70 rfl ?_
          refine am_iload_n dX3_join_71 rfl ?_
          refine am_isub dX3_join_72 ?_
          cases hyp
          exact am_iret dX3_join_73 rfl
        · have hc6n := hc6
          replace hyp := it_neg hc6n hyp
          by_cases hc7 : x0 = (12 : Int32)
          · refine am_tabIn (73) 74 dX3_join_1 (by rw [hc7]; decide) (by rw [hc7]; decide) (by rw [hc7]; rfl) rfl ?_
            replace hyp := it_pos hc7 hyp
            refine am_iload_n dX3_join_74 rfl ?_
            refine am_iload_n dX3_join_75 rfl ?_
            refine am_imul dX3_join_76 ?_
            cases hyp
            exact am_iret dX3_join_77 rfl
          · have hc7n := hc7
            replace hyp := it_neg hc7n hyp
            by_cases hc8 : x0 = (13 : Int32)
            · refine am_tabIn (77) 78 dX3_join_1 (by rw [hc8]; decide) (by rw [hc8]; decide) (by rw [hc8]; rfl) rfl ?_
              replace hyp := it_pos hc8 hyp
              refine am_iload_n dX3_join_78 rfl ?_
              refine am_if_ne (7) 86 dX3_join_79 rfl ?_ ?_
              · intro hc9n
                have hc9n : ¬ (x2 = 0) := hc9n
                replace hyp := it_neg hc9n hyp
                refine am_iload_n dX3_join_86 rfl ?_
                refine am_iload_n dX3_join_87 rfl ?_
                obtain ⟨hg10, hyp⟩ := gd_some hyp
                refine am_idiv dX3_join_88 hg10 ?_
                cases hyp
                exact am_iret dX3_join_89 rfl
              · intro hc9
                have hc9 : x2 = 0 := hc9
                replace hyp := it_pos hc9 hyp
                refine am_iconst 0 (v := 0) dX3_join_82 (by decide) ?_
                refine am_goto (6) 89 dX3_join_83 rfl ?_
                cases hyp
                exact am_iret dX3_join_89 rfl
            · have hc8n := hc8
              replace hyp := it_neg hc8n hyp
              by_cases hc11 : x0 = (14 : Int32)
              · refine am_tabIn (89) 90 dX3_join_1 (by rw [hc11]; decide) (by rw [hc11]; decide) (by rw [hc11]; rfl) rfl ?_
                replace hyp := it_pos hc11 hyp
                refine am_iload_n dX3_join_90 rfl ?_
                refine am_if_ne (7) 98 dX3_join_91 rfl ?_ ?_
                · intro hc12n
                  have hc12n : ¬ (x2 = 0) := hc12n
                  replace hyp := it_neg hc12n hyp
                  refine am_iload_n dX3_join_98 rfl ?_
                  refine am_iload_n dX3_join_99 rfl ?_
                  obtain ⟨hg13, hyp⟩ := gd_some hyp
                  refine am_irem dX3_join_100 hg13 ?_
                  cases hyp
                  exact am_iret dX3_join_101 rfl
                · intro hc12
                  have hc12 : x2 = 0 := hc12
                  replace hyp := it_pos hc12 hyp
                  refine am_iconst 0 (v := 0) dX3_join_94 (by decide) ?_
                  refine am_goto (6) 101 dX3_join_95 rfl ?_
                  cases hyp
                  exact am_iret dX3_join_101 rfl
              · have hc11n := hc11
                replace hyp := it_neg hc11n hyp
                refine am_tabOut 102 dX3_join_1 (by have q0 := lv_neT (a := 8) hc1n (by decide); have q1 := lv_neT (a := 9) hc3n (by decide); have q2 := lv_neT (a := 10) hc5n (by decide); have q3 := lv_neT (a := 11) hc6n (by decide); have q4 := lv_neT (a := 12) hc7n (by decide); have q5 := lv_neT (a := 13) hc8n (by decide); have q6 := lv_neT (a := 14) hc11n (by decide); omega) rfl ?_
                refine am_iconst 0 (v := 0) dX3_join_102 (by decide) ?_
                cases hyp
                exact am_iret dX3_join_103 rfl
theorem ef_X3_mindsFines {d : Nat} {h : am_H} (g : lay h) {M : Mem} {v : Int32} (hyp : f_X3_mindsFines M = some v) : am_Ev (d + 0) mX3_mindsFines [.inr (23, 0)] (am_hM h M) (.inl (some (am_I v), am_hM h M)) := by
  unfold f_X3_mindsFines at hyp
  refine am_Ev.mk (by decide +kernel) rfl rfl (Nat.le_refl _) (Nat.le_refl _) ?_
  change am_At _ _ _ 0 [_] [] _ _
  refine am_aload_n dX3_mindsFines_0 rfl ?_
  refine am_getI 3 4 dX3_mindsFines_1 fg_X3_51 (sh_23 g) (by decide) rfl ?_
  obtain ⟨hg1, hyp⟩ := gd_some hyp
  cases hyp
  exact am_zret dX3_mindsFines_4 rfl (isb_nf hg1).1
theorem eL_X3_value_15_24 {d : Nat} {h : am_H} (g : lay h) (hW : h.2.2 23 0 = some 24 ∧ h.2.2 23 2 = some 25) {r : am_R} (n : Nat) : ∀ (s : Int32 × Int32 × Mem) (e : Mem), wh (L_X3_value_15 24 25) n s = some e → ((fun (M : Mem) => am_At am_X0 (d + 1) mX3_value 159 [some (.inr (23, 0)), some (.inr (3, 0)), none, none, none, none, none, none, none] [] (am_hM h M) r) e) → (match s with | (x5, x6, M) => am_At am_X0 (d + 1) mX3_value 15 [some (.inr (23, 0)), some (.inr (3, 0)), none, none, none, some (am_I (x5)), some (am_I (x6)), none, none] [] (am_hM h M) r) := by
  refine am_wh (At := fun (s : Int32 × Int32 × Mem) => match s with | (x5, x6, M) => am_At am_X0 (d + 1) mX3_value 15 [some (.inr (23, 0)), some (.inr (3, 0)), none, none, none, some (am_I (x5)), some (am_I (x6)), none, none] [] (am_hM h M) r) (Ex := fun (e : Mem) => (fun (M : Mem) => am_At am_X0 (d + 1) mX3_value 159 [some (.inr (23, 0)), some (.inr (3, 0)), none, none, none, none, none, none, none] [] (am_hM h M) r) e) ?_ n
  rintro ⟨x5, x6, M⟩ y hyp hx
  unfold L_X3_value_15 at hyp
  try dsimp only at hyp
  change am_At _ _ _ 15 [_, _, _, _, _, _, _, _, _] [] _ _
  refine am_iload dX3_value_15 rfl ?_
  refine am_aload_n dX3_value_17 rfl ?_
  refine am_getI 3 1 dX3_value_18 fg_X3_55 (sh_23 g) (by decide) rfl ?_
  refine am_icmp_ge (138) 159 dX3_value_21 rfl ?_ ?_
  · intro hc2
    have hc2 : (M 23 0 1) ≤ x6 := hc2
    replace hyp := it_pos hc2 hyp
    cases hyp
    refine am_At.drop 5 ?_
    refine am_At.drop 6 ?_
    exact hx
  · intro hc2n
    have hc2n : ¬ ((M 23 0 1) ≤ x6) := hc2n
    replace hyp := it_neg hc2n hyp
    refine am_aload_n dX3_value_24 rfl ?_
    refine am_getR 3 0 24 dX3_value_25 fg_X3_9 (sh_23 g) (by decide) rfl hW.1 ?_
    refine am_iload dX3_value_28 rfl ?_
    obtain ⟨hg3, hyp⟩ := gd_some hyp
    refine am_iald dX3_value_30 (am_ia.one (sh_24 g)) (am_lit hg3) ?_
    refine am_istore dX3_value_31 (am_lb rfl) ?_
    change am_At _ _ _ 33 [_, _, _, _, _, _, _, _, _] [] _ _
    refine am_iload dX3_value_33 rfl ?_
    refine am_bipush 8 (v := 8) dX3_value_35 (by decide) ?_
    refine am_icmp_lt (14) 51 dX3_value_37 rfl ?_ ?_
    · intro hc4
      have hc4 : (M 24 0 x6.toNatClampNeg) < (8 : Int32) := hc4
      replace hyp := it_pos hc4 hyp
      refine am_iconst 0 (v := 0) dX3_value_51 (by decide) ?_
      refine am_istore dX3_value_52 (am_lb rfl) ?_
      change am_At _ _ _ 54 [_, _, _, _, _, _, _, _, _] [] _ _
      refine am_iload dX3_value_54 rfl ?_
      refine am_if_eqT (45) 101 dX3_value_56 rfl (by decide) ?_
      refine am_iload dX3_value_101 rfl ?_
      refine am_if_neF (50) 153 dX3_value_103 rfl (by decide) ?_
      refine am_iload dX3_value_106 rfl ?_
      refine am_if_lt (45) 153 dX3_value_108 rfl ?_ ?_
      · intro hc5
        have hc5 : (M 24 0 x6.toNatClampNeg) < 0 := hc5
        replace hyp := it_pos hc5 hyp
        refine am_iinc dX3_value_153 rfl (am_ix _) ?_
        change am_At _ _ _ 156 [_, _, _, _, _, _, _, _, _] [] _ _
        refine am_goto (-141) 15 dX3_value_156 rfl ?_
        cases hyp
        refine am_At.drop 7 ?_
        refine am_At.drop 8 ?_
        exact hx
      · intro hc5n
        have hc5n : ¬ ((M 24 0 x6.toNatClampNeg) < 0) := hc5n
        replace hyp := it_neg hc5n hyp
        refine am_iload dX3_value_111 rfl ?_
        refine am_aload_n dX3_value_113 rfl ?_
        refine am_getR 3 5 26 dX3_value_114 fg_X3_18 (sh_23 g) (by decide) rfl (rf_23_5 g) ?_
        refine am_alen dX3_value_117 (am_ia.one (sh_26 g)) rfl ?_
        refine am_icmp_ge (35) 153 dX3_value_118 rfl ?_ ?_
        · intro hc6
          have hc6 : (150 : Int32) ≤ x5 := hc6
          replace hyp := it_pos hc6 hyp
          refine am_iinc dX3_value_153 rfl (am_ix _) ?_
          change am_At _ _ _ 156 [_, _, _, _, _, _, _, _, _] [] _ _
          refine am_goto (-141) 15 dX3_value_156 rfl ?_
          cases hyp
          refine am_At.drop 7 ?_
          refine am_At.drop 8 ?_
          exact hx
        · intro hc6n
          have hc6n : ¬ ((150 : Int32) ≤ x5) := hc6n
          replace hyp := it_neg hc6n hyp
          refine am_aload_n dX3_value_121 rfl ?_
          refine am_getR 3 5 26 dX3_value_122 fg_X3_18 (sh_23 g) (by decide) rfl (rf_23_5 g) ?_
          refine am_iload dX3_value_125 rfl ?_
          refine am_iload dX3_value_127 rfl ?_
          refine am_bipush 8 (v := 8) dX3_value_129 (by decide) ?_
          refine am_icmp_ge (13) 144 dX3_value_131 rfl ?_ ?_
          · intro hc7
            have hc7 : (8 : Int32) ≤ (M 24 0 x6.toNatClampNeg) := hc7
            replace hyp := it_pos hc7 hyp
            refine am_iload dX3_value_144 rfl ?_
            refine am_bipush 15 (v := 15) dX3_value_146 (by decide) ?_
            refine am_isub dX3_value_148 ?_
            obtain ⟨hg8, hyp⟩ := gd_some hyp
            refine am_iast dX3_value_149 (am_ia.one (sh_26 g)) (am_lit hg8) ?_
            refine am_iinc dX3_value_150 rfl (am_ix _) ?_
            change am_At _ _ _ 153 [_, _, _, _, _, _, _, _, _] [] _ _
            refine am_iinc dX3_value_153 rfl (am_ix _) ?_
            change am_At _ _ _ 156 [_, _, _, _, _, _, _, _, _] [] _ _
            refine am_goto (-141) 15 dX3_value_156 rfl ?_
            cases hyp
            refine am_At.drop 7 ?_
            refine am_At.drop 8 ?_
            exact hx
          · intro hc7n
            have hc7n : ¬ ((8 : Int32) ≤ (M 24 0 x6.toNatClampNeg)) := hc7n
            replace hyp := it_neg hc7n hyp
            refine am_aload_n dX3_value_134 rfl ?_
            refine am_getR 3 6 27 dX3_value_135 fg_X3_21 (sh_23 g) (by decide) rfl (rf_23_6 g) ?_
            refine am_iload dX3_value_138 rfl ?_
            obtain ⟨hg9, hyp⟩ := gd_some hyp
            refine am_iald dX3_value_140 (am_ia.one (sh_27 g)) (am_lit hg9) ?_
            refine am_goto (8) 149 dX3_value_141 rfl ?_
            obtain ⟨hg10, hyp⟩ := gd_some hyp
            refine am_iast dX3_value_149 (am_ia.one (sh_26 g)) (am_lit hg10) ?_
            refine am_iinc dX3_value_150 rfl (am_ix _) ?_
            change am_At _ _ _ 153 [_, _, _, _, _, _, _, _, _] [] _ _
            refine am_iinc dX3_value_153 rfl (am_ix _) ?_
            change am_At _ _ _ 156 [_, _, _, _, _, _, _, _, _] [] _ _
            refine am_goto (-141) 15 dX3_value_156 rfl ?_
            cases hyp
            refine am_At.drop 7 ?_
            refine am_At.drop 8 ?_
            exact hx
    · intro hc4n
      have hc4n : ¬ ((M 24 0 x6.toNatClampNeg) < (8 : Int32)) := hc4n
      replace hyp := it_neg hc4n hyp
      refine am_iload dX3_value_40 rfl ?_
      refine am_bipush 15 (v := 15) dX3_value_42 (by decide) ?_
      refine am_icmp_ge (7) 51 dX3_value_44 rfl ?_ ?_
      · intro hc11
        have hc11 : (15 : Int32) ≤ (M 24 0 x6.toNatClampNeg) := hc11
        replace hyp := it_pos hc11 hyp
        refine am_iconst 0 (v := 0) dX3_value_51 (by decide) ?_
        refine am_istore dX3_value_52 (am_lb rfl) ?_
        change am_At _ _ _ 54 [_, _, _, _, _, _, _, _, _] [] _ _
        refine am_iload dX3_value_54 rfl ?_
        refine am_if_eqT (45) 101 dX3_value_56 rfl (by decide) ?_
        refine am_iload dX3_value_101 rfl ?_
        refine am_if_neF (50) 153 dX3_value_103 rfl (by decide) ?_
        refine am_iload dX3_value_106 rfl ?_
        refine am_if_lt (45) 153 dX3_value_108 rfl ?_ ?_
        · intro hc12
          have hc12 : (M 24 0 x6.toNatClampNeg) < 0 := hc12
          replace hyp := it_pos hc12 hyp
          refine am_iinc dX3_value_153 rfl (am_ix _) ?_
          change am_At _ _ _ 156 [_, _, _, _, _, _, _, _, _] [] _ _
          refine am_goto (-141) 15 dX3_value_156 rfl ?_
          cases hyp
          refine am_At.drop 7 ?_
          refine am_At.drop 8 ?_
          exact hx
        · intro hc12n
          have hc12n : ¬ ((M 24 0 x6.toNatClampNeg) < 0) := hc12n
          replace hyp := it_neg hc12n hyp
          refine am_iload dX3_value_111 rfl ?_
          refine am_aload_n dX3_value_113 rfl ?_
          refine am_getR 3 5 26 dX3_value_114 fg_X3_18 (sh_23 g) (by decide) rfl (rf_23_5 g) ?_
          refine am_alen dX3_value_117 (am_ia.one (sh_26 g)) rfl ?_
          refine am_icmp_ge (35) 153 dX3_value_118 rfl ?_ ?_
          · intro hc13
            have hc13 : (150 : Int32) ≤ x5 := hc13
            replace hyp := it_pos hc13 hyp
            refine am_iinc dX3_value_153 rfl (am_ix _) ?_
            change am_At _ _ _ 156 [_, _, _, _, _, _, _, _, _] [] _ _
            refine am_goto (-141) 15 dX3_value_156 rfl ?_
            cases hyp
            refine am_At.drop 7 ?_
            refine am_At.drop 8 ?_
            exact hx
          · intro hc13n
            have hc13n : ¬ ((150 : Int32) ≤ x5) := hc13n
            replace hyp := it_neg hc13n hyp
            refine am_aload_n dX3_value_121 rfl ?_
            refine am_getR 3 5 26 dX3_value_122 fg_X3_18 (sh_23 g) (by decide) rfl (rf_23_5 g) ?_
            refine am_iload dX3_value_125 rfl ?_
            refine am_iload dX3_value_127 rfl ?_
            refine am_bipush 8 (v := 8) dX3_value_129 (by decide) ?_
            refine am_icmp_ge (13) 144 dX3_value_131 rfl ?_ ?_
            · intro hc14
              have hc14 : (8 : Int32) ≤ (M 24 0 x6.toNatClampNeg) := hc14
              replace hyp := it_pos hc14 hyp
              refine am_iload dX3_value_144 rfl ?_
              refine am_bipush 15 (v := 15) dX3_value_146 (by decide) ?_
              refine am_isub dX3_value_148 ?_
              obtain ⟨hg15, hyp⟩ := gd_some hyp
              refine am_iast dX3_value_149 (am_ia.one (sh_26 g)) (am_lit hg15) ?_
              refine am_iinc dX3_value_150 rfl (am_ix _) ?_
              change am_At _ _ _ 153 [_, _, _, _, _, _, _, _, _] [] _ _
              refine am_iinc dX3_value_153 rfl (am_ix _) ?_
              change am_At _ _ _ 156 [_, _, _, _, _, _, _, _, _] [] _ _
              refine am_goto (-141) 15 dX3_value_156 rfl ?_
              cases hyp
              refine am_At.drop 7 ?_
              refine am_At.drop 8 ?_
              exact hx
            · intro hc14n
              have hc14n : ¬ ((8 : Int32) ≤ (M 24 0 x6.toNatClampNeg)) := hc14n
              replace hyp := it_neg hc14n hyp
              refine am_aload_n dX3_value_134 rfl ?_
              refine am_getR 3 6 27 dX3_value_135 fg_X3_21 (sh_23 g) (by decide) rfl (rf_23_6 g) ?_
              refine am_iload dX3_value_138 rfl ?_
              obtain ⟨hg16, hyp⟩ := gd_some hyp
              refine am_iald dX3_value_140 (am_ia.one (sh_27 g)) (am_lit hg16) ?_
              refine am_goto (8) 149 dX3_value_141 rfl ?_
              obtain ⟨hg17, hyp⟩ := gd_some hyp
              refine am_iast dX3_value_149 (am_ia.one (sh_26 g)) (am_lit hg17) ?_
              refine am_iinc dX3_value_150 rfl (am_ix _) ?_
              change am_At _ _ _ 153 [_, _, _, _, _, _, _, _, _] [] _ _
              refine am_iinc dX3_value_153 rfl (am_ix _) ?_
              change am_At _ _ _ 156 [_, _, _, _, _, _, _, _, _] [] _ _
              refine am_goto (-141) 15 dX3_value_156 rfl ?_
              cases hyp
              refine am_At.drop 7 ?_
              refine am_At.drop 8 ?_
              exact hx
      · intro hc11n
        have hc11n : ¬ ((15 : Int32) ≤ (M 24 0 x6.toNatClampNeg)) := hc11n
        replace hyp := it_neg hc11n hyp
        refine am_iconst 1 (v := 1) dX3_value_47 (by decide) ?_
        refine am_goto (4) 52 dX3_value_48 rfl ?_
        refine am_istore dX3_value_52 (am_lb rfl) ?_
        change am_At _ _ _ 54 [_, _, _, _, _, _, _, _, _] [] _ _
        refine am_iload dX3_value_54 rfl ?_
        refine am_if_eqF (45) 101 dX3_value_56 rfl (by decide) ?_
        refine am_iload dX3_value_59 rfl ?_
        refine am_iconst 2 (v := 2) dX3_value_61 (by decide) ?_
        refine am_icmp_lt (39) 101 dX3_value_62 rfl ?_ ?_
        · intro hc18
          have hc18 : x5 < (2 : Int32) := hc18
          replace hyp := it_pos hc18 hyp
          refine am_iload dX3_value_101 rfl ?_
          refine am_if_neT (50) 153 dX3_value_103 rfl (by decide) ?_
          refine am_iinc dX3_value_153 rfl (am_ix _) ?_
          change am_At _ _ _ 156 [_, _, _, _, _, _, _, _, _] [] _ _
          refine am_goto (-141) 15 dX3_value_156 rfl ?_
          cases hyp
          refine am_At.drop 7 ?_
          refine am_At.drop 8 ?_
          exact hx
        · intro hc18n
          have hc18n : ¬ (x5 < (2 : Int32)) := hc18n
          replace hyp := it_neg hc18n hyp
          refine am_iinc dX3_value_65 rfl (am_dx _) ?_
          change am_At _ _ _ 68 [_, _, _, _, _, _, _, _, _] [] _ _
          refine am_aload_n dX3_value_68 rfl ?_
          refine am_getR 3 5 26 dX3_value_69 fg_X3_18 (sh_23 g) (by decide) rfl (rf_23_5 g) ?_
          refine am_iload dX3_value_72 rfl ?_
          refine am_iconst 1 (v := 1) dX3_value_74 (by decide) ?_
          refine am_isub dX3_value_75 ?_
          refine am_iload dX3_value_76 rfl ?_
          refine am_aload_n dX3_value_78 rfl ?_
          refine am_getR 3 5 26 dX3_value_79 fg_X3_18 (sh_23 g) (by decide) rfl (rf_23_5 g) ?_
          refine am_iload dX3_value_82 rfl ?_
          refine am_iconst 1 (v := 1) dX3_value_84 (by decide) ?_
          refine am_isub dX3_value_85 ?_
          obtain ⟨hg19, hyp⟩ := gd_some hyp
          refine am_iald dX3_value_86 (am_ia.one (sh_26 g)) (am_lit hg19) ?_
          refine am_aload_n dX3_value_87 rfl ?_
          refine am_getR 3 5 26 dX3_value_88 fg_X3_18 (sh_23 g) (by decide) rfl (rf_23_5 g) ?_
          refine am_iload dX3_value_91 rfl ?_
          obtain ⟨hg20, hyp⟩ := gd_some hyp
          refine am_iald dX3_value_93 (am_ia.one (sh_26 g)) (am_lit hg20) ?_
          obtain ⟨v21, hk21, hyp⟩ := bd_some hyp
          try dsimp only at hyp
          refine am_callS (c := 0) (k := 0) (n := 0) (w := 0) [_, _, _] dX3_value_94 ml_X3_101 sm_X3_join rfl (fun _ => Nat.le_of_ble_eq_true rfl) (by omega) rfl (ef_X3_join (d := d + 0) (h := am_hM h M) hk21) rfl ?_
          change am_At _ _ _ 97 [_, _, _, _, _, _, _, _, _] [_, _, _] _ _
          refine am_iast dX3_value_97 (am_ia.one (sh_26 g)) (am_lit hg19) ?_
          refine am_goto (55) 153 dX3_value_98 rfl ?_
          refine am_iinc dX3_value_153 rfl (am_ix _) ?_
          change am_At _ _ _ 156 [_, _, _, _, _, _, _, _, _] [] _ _
          refine am_goto (-141) 15 dX3_value_156 rfl ?_
          cases hyp
          refine am_At.drop 7 ?_
          refine am_At.drop 8 ?_
          exact hx
theorem ef_X3_value_24 {d : Nat} {h : am_H} (g : lay h) (hW : h.2.2 23 0 = some 24 ∧ h.2.2 23 2 = some 25) {x2 x3 x4 : Int32} {M : Mem} {v : Int32} {M' : Mem} (hyp : f_X3_value 24 25 x2 x3 x4 M = some (v, M')) : am_Ev (d + 1) mX3_value [.inr (23, 0), .inr (3, 0), am_I x2, am_I x3, am_I x4] (am_hM h M) (.inl (some (am_I v), am_hM h M')) := by
  unfold f_X3_value at hyp
  refine am_Ev.mk (by decide +kernel) rfl rfl (Nat.le_refl _) (Nat.le_refl _) ?_
  change am_At _ _ _ 0 [_, _, _, _, _, _, _, _, _] [] _ _
  refine am_aload_n dX3_value_0 rfl ?_
  refine am_aload_n dX3_value_1 rfl ?_
  refine am_iload_n dX3_value_2 rfl ?_
  refine am_iload_n dX3_value_3 rfl ?_
  refine am_iload dX3_value_4 rfl ?_
  obtain ⟨M1, hk1, hyp⟩ := bd_some hyp
  try dsimp only at hyp
  refine am_callV [_, _, _, _] dX3_value_6 ml_X3_97 vm_X3_findFacts (sh_23 g) rfl (fun _ => Nat.le_of_ble_eq_true rfl) (by omega) rfl (ef_X3_findFacts (d := d + 0) (h := h) g hk1) rfl ?_
  change am_At _ _ _ 9 [_, _, _, _, _, _, _, _, _] [] _ _
  refine am_iconst 0 (v := 0) dX3_value_9 (by decide) ?_
  refine am_istore dX3_value_10 (am_lb rfl) ?_
  change am_At _ _ _ 12 [_, _, _, _, _, _, _, _, _] [] _ _
  refine am_iconst 0 (v := 0) dX3_value_12 (by decide) ?_
  refine am_istore dX3_value_13 (am_lb rfl) ?_
  change am_At _ _ _ 15 [_, _, _, _, _, _, _, _, _] [] _ _
  obtain ⟨M22, hw22, hyp⟩ := bd_some hyp
  refine am_At.drop 2 ?_
  refine am_At.drop 3 ?_
  refine am_At.drop 4 ?_
  try dsimp only at hyp
  refine eL_X3_value_15_24 (d := d) (h := h) g hW  FU ((0 : Int32), (0 : Int32), M1) M22 hw22 ?_
  change am_At _ _ _ 159 [_, _, _, _, _, _, _, _, _] [] _ _
  refine am_aload_n dX3_value_159 rfl ?_
  refine am_getR 3 5 26 dX3_value_160 fg_X3_18 (sh_23 g) (by decide) rfl (rf_23_5 g) ?_
  refine am_iconst 0 (v := 0) dX3_value_163 (by decide) ?_
  refine am_iald dX3_value_164 (am_ia.one (sh_26 g)) (am_lit rfl) ?_
  cases hyp
  exact am_iret dX3_value_165 rfl
theorem eL_X3_value_15_25 {d : Nat} {h : am_H} (g : lay h) (hW : h.2.2 23 0 = some 25 ∧ h.2.2 23 2 = some 24) {r : am_R} (n : Nat) : ∀ (s : Int32 × Int32 × Mem) (e : Mem), wh (L_X3_value_15 25 24) n s = some e → ((fun (M : Mem) => am_At am_X0 (d + 1) mX3_value 159 [some (.inr (23, 0)), some (.inr (3, 0)), none, none, none, none, none, none, none] [] (am_hM h M) r) e) → (match s with | (x5, x6, M) => am_At am_X0 (d + 1) mX3_value 15 [some (.inr (23, 0)), some (.inr (3, 0)), none, none, none, some (am_I (x5)), some (am_I (x6)), none, none] [] (am_hM h M) r) := by
  refine am_wh (At := fun (s : Int32 × Int32 × Mem) => match s with | (x5, x6, M) => am_At am_X0 (d + 1) mX3_value 15 [some (.inr (23, 0)), some (.inr (3, 0)), none, none, none, some (am_I (x5)), some (am_I (x6)), none, none] [] (am_hM h M) r) (Ex := fun (e : Mem) => (fun (M : Mem) => am_At am_X0 (d + 1) mX3_value 159 [some (.inr (23, 0)), some (.inr (3, 0)), none, none, none, none, none, none, none] [] (am_hM h M) r) e) ?_ n
  rintro ⟨x5, x6, M⟩ y hyp hx
  unfold L_X3_value_15 at hyp
  try dsimp only at hyp
  change am_At _ _ _ 15 [_, _, _, _, _, _, _, _, _] [] _ _
  refine am_iload dX3_value_15 rfl ?_
  refine am_aload_n dX3_value_17 rfl ?_
  refine am_getI 3 1 dX3_value_18 fg_X3_55 (sh_23 g) (by decide) rfl ?_
  refine am_icmp_ge (138) 159 dX3_value_21 rfl ?_ ?_
  · intro hc2
    have hc2 : (M 23 0 1) ≤ x6 := hc2
    replace hyp := it_pos hc2 hyp
    cases hyp
    refine am_At.drop 5 ?_
    refine am_At.drop 6 ?_
    exact hx
  · intro hc2n
    have hc2n : ¬ ((M 23 0 1) ≤ x6) := hc2n
    replace hyp := it_neg hc2n hyp
    refine am_aload_n dX3_value_24 rfl ?_
    refine am_getR 3 0 25 dX3_value_25 fg_X3_9 (sh_23 g) (by decide) rfl hW.1 ?_
    refine am_iload dX3_value_28 rfl ?_
    obtain ⟨hg3, hyp⟩ := gd_some hyp
    refine am_iald dX3_value_30 (am_ia.one (sh_25 g)) (am_lit hg3) ?_
    refine am_istore dX3_value_31 (am_lb rfl) ?_
    change am_At _ _ _ 33 [_, _, _, _, _, _, _, _, _] [] _ _
    refine am_iload dX3_value_33 rfl ?_
    refine am_bipush 8 (v := 8) dX3_value_35 (by decide) ?_
    refine am_icmp_lt (14) 51 dX3_value_37 rfl ?_ ?_
    · intro hc4
      have hc4 : (M 25 0 x6.toNatClampNeg) < (8 : Int32) := hc4
      replace hyp := it_pos hc4 hyp
      refine am_iconst 0 (v := 0) dX3_value_51 (by decide) ?_
      refine am_istore dX3_value_52 (am_lb rfl) ?_
      change am_At _ _ _ 54 [_, _, _, _, _, _, _, _, _] [] _ _
      refine am_iload dX3_value_54 rfl ?_
      refine am_if_eqT (45) 101 dX3_value_56 rfl (by decide) ?_
      refine am_iload dX3_value_101 rfl ?_
      refine am_if_neF (50) 153 dX3_value_103 rfl (by decide) ?_
      refine am_iload dX3_value_106 rfl ?_
      refine am_if_lt (45) 153 dX3_value_108 rfl ?_ ?_
      · intro hc5
        have hc5 : (M 25 0 x6.toNatClampNeg) < 0 := hc5
        replace hyp := it_pos hc5 hyp
        refine am_iinc dX3_value_153 rfl (am_ix _) ?_
        change am_At _ _ _ 156 [_, _, _, _, _, _, _, _, _] [] _ _
        refine am_goto (-141) 15 dX3_value_156 rfl ?_
        cases hyp
        refine am_At.drop 7 ?_
        refine am_At.drop 8 ?_
        exact hx
      · intro hc5n
        have hc5n : ¬ ((M 25 0 x6.toNatClampNeg) < 0) := hc5n
        replace hyp := it_neg hc5n hyp
        refine am_iload dX3_value_111 rfl ?_
        refine am_aload_n dX3_value_113 rfl ?_
        refine am_getR 3 5 26 dX3_value_114 fg_X3_18 (sh_23 g) (by decide) rfl (rf_23_5 g) ?_
        refine am_alen dX3_value_117 (am_ia.one (sh_26 g)) rfl ?_
        refine am_icmp_ge (35) 153 dX3_value_118 rfl ?_ ?_
        · intro hc6
          have hc6 : (150 : Int32) ≤ x5 := hc6
          replace hyp := it_pos hc6 hyp
          refine am_iinc dX3_value_153 rfl (am_ix _) ?_
          change am_At _ _ _ 156 [_, _, _, _, _, _, _, _, _] [] _ _
          refine am_goto (-141) 15 dX3_value_156 rfl ?_
          cases hyp
          refine am_At.drop 7 ?_
          refine am_At.drop 8 ?_
          exact hx
        · intro hc6n
          have hc6n : ¬ ((150 : Int32) ≤ x5) := hc6n
          replace hyp := it_neg hc6n hyp
          refine am_aload_n dX3_value_121 rfl ?_
          refine am_getR 3 5 26 dX3_value_122 fg_X3_18 (sh_23 g) (by decide) rfl (rf_23_5 g) ?_
          refine am_iload dX3_value_125 rfl ?_
          refine am_iload dX3_value_127 rfl ?_
          refine am_bipush 8 (v := 8) dX3_value_129 (by decide) ?_
          refine am_icmp_ge (13) 144 dX3_value_131 rfl ?_ ?_
          · intro hc7
            have hc7 : (8 : Int32) ≤ (M 25 0 x6.toNatClampNeg) := hc7
            replace hyp := it_pos hc7 hyp
            refine am_iload dX3_value_144 rfl ?_
            refine am_bipush 15 (v := 15) dX3_value_146 (by decide) ?_
            refine am_isub dX3_value_148 ?_
            obtain ⟨hg8, hyp⟩ := gd_some hyp
            refine am_iast dX3_value_149 (am_ia.one (sh_26 g)) (am_lit hg8) ?_
            refine am_iinc dX3_value_150 rfl (am_ix _) ?_
            change am_At _ _ _ 153 [_, _, _, _, _, _, _, _, _] [] _ _
            refine am_iinc dX3_value_153 rfl (am_ix _) ?_
            change am_At _ _ _ 156 [_, _, _, _, _, _, _, _, _] [] _ _
            refine am_goto (-141) 15 dX3_value_156 rfl ?_
            cases hyp
            refine am_At.drop 7 ?_
            refine am_At.drop 8 ?_
            exact hx
          · intro hc7n
            have hc7n : ¬ ((8 : Int32) ≤ (M 25 0 x6.toNatClampNeg)) := hc7n
            replace hyp := it_neg hc7n hyp
            refine am_aload_n dX3_value_134 rfl ?_
            refine am_getR 3 6 27 dX3_value_135 fg_X3_21 (sh_23 g) (by decide) rfl (rf_23_6 g) ?_
            refine am_iload dX3_value_138 rfl ?_
            obtain ⟨hg9, hyp⟩ := gd_some hyp
            refine am_iald dX3_value_140 (am_ia.one (sh_27 g)) (am_lit hg9) ?_
            refine am_goto (8) 149 dX3_value_141 rfl ?_
            obtain ⟨hg10, hyp⟩ := gd_some hyp
            refine am_iast dX3_value_149 (am_ia.one (sh_26 g)) (am_lit hg10) ?_
            refine am_iinc dX3_value_150 rfl (am_ix _) ?_
            change am_At _ _ _ 153 [_, _, _, _, _, _, _, _, _] [] _ _
            refine am_iinc dX3_value_153 rfl (am_ix _) ?_
            change am_At _ _ _ 156 [_, _, _, _, _, _, _, _, _] [] _ _
            refine am_goto (-141) 15 dX3_value_156 rfl ?_
            cases hyp
            refine am_At.drop 7 ?_
            refine am_At.drop 8 ?_
            exact hx
    · intro hc4n
      have hc4n : ¬ ((M 25 0 x6.toNatClampNeg) < (8 : Int32)) := hc4n
      replace hyp := it_neg hc4n hyp
      refine am_iload dX3_value_40 rfl ?_
      refine am_bipush 15 (v := 15) dX3_value_42 (by decide) ?_
      refine am_icmp_ge (7) 51 dX3_value_44 rfl ?_ ?_
      · intro hc11
        have hc11 : (15 : Int32) ≤ (M 25 0 x6.toNatClampNeg) := hc11
        replace hyp := it_pos hc11 hyp
        refine am_iconst 0 (v := 0) dX3_value_51 (by decide) ?_
        refine am_istore dX3_value_52 (am_lb rfl) ?_
        change am_At _ _ _ 54 [_, _, _, _, _, _, _, _, _] [] _ _
        refine am_iload dX3_value_54 rfl ?_
        refine am_if_eqT (45) 101 dX3_value_56 rfl (by decide) ?_
        refine am_iload dX3_value_101 rfl ?_
        refine am_if_neF (50) 153 dX3_value_103 rfl (by decide) ?_
        refine am_iload dX3_value_106 rfl ?_
        refine am_if_lt (45) 153 dX3_value_108 rfl ?_ ?_
        · intro hc12
          have hc12 : (M 25 0 x6.toNatClampNeg) < 0 := hc12
          replace hyp := it_pos hc12 hyp
          refine am_iinc dX3_value_153 rfl (am_ix _) ?_
          change am_At _ _ _ 156 [_, _, _, _, _, _, _, _, _] [] _ _
          refine am_goto (-141) 15 dX3_value_156 rfl ?_
          cases hyp
          refine am_At.drop 7 ?_
          refine am_At.drop 8 ?_
          exact hx
        · intro hc12n
          have hc12n : ¬ ((M 25 0 x6.toNatClampNeg) < 0) := hc12n
          replace hyp := it_neg hc12n hyp
          refine am_iload dX3_value_111 rfl ?_
          refine am_aload_n dX3_value_113 rfl ?_
          refine am_getR 3 5 26 dX3_value_114 fg_X3_18 (sh_23 g) (by decide) rfl (rf_23_5 g) ?_
          refine am_alen dX3_value_117 (am_ia.one (sh_26 g)) rfl ?_
          refine am_icmp_ge (35) 153 dX3_value_118 rfl ?_ ?_
          · intro hc13
            have hc13 : (150 : Int32) ≤ x5 := hc13
            replace hyp := it_pos hc13 hyp
            refine am_iinc dX3_value_153 rfl (am_ix _) ?_
            change am_At _ _ _ 156 [_, _, _, _, _, _, _, _, _] [] _ _
            refine am_goto (-141) 15 dX3_value_156 rfl ?_
            cases hyp
            refine am_At.drop 7 ?_
            refine am_At.drop 8 ?_
            exact hx
          · intro hc13n
            have hc13n : ¬ ((150 : Int32) ≤ x5) := hc13n
            replace hyp := it_neg hc13n hyp
            refine am_aload_n dX3_value_121 rfl ?_
            refine am_getR 3 5 26 dX3_value_122 fg_X3_18 (sh_23 g) (by decide) rfl (rf_23_5 g) ?_
            refine am_iload dX3_value_125 rfl ?_
            refine am_iload dX3_value_127 rfl ?_
            refine am_bipush 8 (v := 8) dX3_value_129 (by decide) ?_
            refine am_icmp_ge (13) 144 dX3_value_131 rfl ?_ ?_
            · intro hc14
              have hc14 : (8 : Int32) ≤ (M 25 0 x6.toNatClampNeg) := hc14
              replace hyp := it_pos hc14 hyp
              refine am_iload dX3_value_144 rfl ?_
              refine am_bipush 15 (v := 15) dX3_value_146 (by decide) ?_
              refine am_isub dX3_value_148 ?_
              obtain ⟨hg15, hyp⟩ := gd_some hyp
              refine am_iast dX3_value_149 (am_ia.one (sh_26 g)) (am_lit hg15) ?_
              refine am_iinc dX3_value_150 rfl (am_ix _) ?_
              change am_At _ _ _ 153 [_, _, _, _, _, _, _, _, _] [] _ _
              refine am_iinc dX3_value_153 rfl (am_ix _) ?_
              change am_At _ _ _ 156 [_, _, _, _, _, _, _, _, _] [] _ _
              refine am_goto (-141) 15 dX3_value_156 rfl ?_
              cases hyp
              refine am_At.drop 7 ?_
              refine am_At.drop 8 ?_
              exact hx
            · intro hc14n
              have hc14n : ¬ ((8 : Int32) ≤ (M 25 0 x6.toNatClampNeg)) := hc14n
              replace hyp := it_neg hc14n hyp
              refine am_aload_n dX3_value_134 rfl ?_
              refine am_getR 3 6 27 dX3_value_135 fg_X3_21 (sh_23 g) (by decide) rfl (rf_23_6 g) ?_
              refine am_iload dX3_value_138 rfl ?_
              obtain ⟨hg16, hyp⟩ := gd_some hyp
              refine am_iald dX3_value_140 (am_ia.one (sh_27 g)) (am_lit hg16) ?_
              refine am_goto (8) 149 dX3_value_141 rfl ?_
              obtain ⟨hg17, hyp⟩ := gd_some hyp
              refine am_iast dX3_value_149 (am_ia.one (sh_26 g)) (am_lit hg17) ?_
              refine am_iinc dX3_value_150 rfl (am_ix _) ?_
              change am_At _ _ _ 153 [_, _, _, _, _, _, _, _, _] [] _ _
              refine am_iinc dX3_value_153 rfl (am_ix _) ?_
              change am_At _ _ _ 156 [_, _, _, _, _, _, _, _, _] [] _ _
              refine am_goto (-141) 15 dX3_value_156 rfl ?_
              cases hyp
              refine am_At.drop 7 ?_
              refine am_At.drop 8 ?_
              exact hx
      · intro hc11n
        have hc11n : ¬ ((15 : Int32) ≤ (M 25 0 x6.toNatClampNeg)) := hc11n
        replace hyp := it_neg hc11n hyp
        refine am_iconst 1 (v := 1) dX3_value_47 (by decide) ?_
        refine am_goto (4) 52 dX3_value_48 rfl ?_
        refine am_istore dX3_value_52 (am_lb rfl) ?_
        change am_At _ _ _ 54 [_, _, _, _, _, _, _, _, _] [] _ _
        refine am_iload dX3_value_54 rfl ?_
        refine am_if_eqF (45) 101 dX3_value_56 rfl (by decide) ?_
        refine am_iload dX3_value_59 rfl ?_
        refine am_iconst 2 (v := 2) dX3_value_61 (by decide) ?_
        refine am_icmp_lt (39) 101 dX3_value_62 rfl ?_ ?_
        · intro hc18
          have hc18 : x5 < (2 : Int32) := hc18
          replace hyp := it_pos hc18 hyp
          refine am_iload dX3_value_101 rfl ?_
          refine am_if_neT (50) 153 dX3_value_103 rfl (by decide) ?_
          refine am_iinc dX3_value_153 rfl (am_ix _) ?_
          change am_At _ _ _ 156 [_, _, _, _, _, _, _, _, _] [] _ _
          refine am_goto (-141) 15 dX3_value_156 rfl ?_
          cases hyp
          refine am_At.drop 7 ?_
          refine am_At.drop 8 ?_
          exact hx
        · intro hc18n
          have hc18n : ¬ (x5 < (2 : Int32)) := hc18n
          replace hyp := it_neg hc18n hyp
          refine am_iinc dX3_value_65 rfl (am_dx _) ?_
          change am_At _ _ _ 68 [_, _, _, _, _, _, _, _, _] [] _ _
          refine am_aload_n dX3_value_68 rfl ?_
          refine am_getR 3 5 26 dX3_value_69 fg_X3_18 (sh_23 g) (by decide) rfl (rf_23_5 g) ?_
          refine am_iload dX3_value_72 rfl ?_
          refine am_iconst 1 (v := 1) dX3_value_74 (by decide) ?_
          refine am_isub dX3_value_75 ?_
          refine am_iload dX3_value_76 rfl ?_
          refine am_aload_n dX3_value_78 rfl ?_
          refine am_getR 3 5 26 dX3_value_79 fg_X3_18 (sh_23 g) (by decide) rfl (rf_23_5 g) ?_
          refine am_iload dX3_value_82 rfl ?_
          refine am_iconst 1 (v := 1) dX3_value_84 (by decide) ?_
          refine am_isub dX3_value_85 ?_
          obtain ⟨hg19, hyp⟩ := gd_some hyp
          refine am_iald dX3_value_86 (am_ia.one (sh_26 g)) (am_lit hg19) ?_
          refine am_aload_n dX3_value_87 rfl ?_
          refine am_getR 3 5 26 dX3_value_88 fg_X3_18 (sh_23 g) (by decide) rfl (rf_23_5 g) ?_
          refine am_iload dX3_value_91 rfl ?_
          obtain ⟨hg20, hyp⟩ := gd_some hyp
          refine am_iald dX3_value_93 (am_ia.one (sh_26 g)) (am_lit hg20) ?_
          obtain ⟨v21, hk21, hyp⟩ := bd_some hyp
          try dsimp only at hyp
          refine am_callS (c := 0) (k := 0) (n := 0) (w := 0) [_, _, _] dX3_value_94 ml_X3_101 sm_X3_join rfl (fun _ => Nat.le_of_ble_eq_true rfl) (by omega) rfl (ef_X3_join (d := d + 0) (h := am_hM h M) hk21) rfl ?_
          change am_At _ _ _ 97 [_, _, _, _, _, _, _, _, _] [_, _, _] _ _
          refine am_iast dX3_value_97 (am_ia.one (sh_26 g)) (am_lit hg19) ?_
          refine am_goto (55) 153 dX3_value_98 rfl ?_
          refine am_iinc dX3_value_153 rfl (am_ix _) ?_
          change am_At _ _ _ 156 [_, _, _, _, _, _, _, _, _] [] _ _
          refine am_goto (-141) 15 dX3_value_156 rfl ?_
          cases hyp
          refine am_At.drop 7 ?_
          refine am_At.drop 8 ?_
          exact hx
theorem ef_X3_value_25 {d : Nat} {h : am_H} (g : lay h) (hW : h.2.2 23 0 = some 25 ∧ h.2.2 23 2 = some 24) {x2 x3 x4 : Int32} {M : Mem} {v : Int32} {M' : Mem} (hyp : f_X3_value 25 24 x2 x3 x4 M = some (v, M')) : am_Ev (d + 1) mX3_value [.inr (23, 0), .inr (3, 0), am_I x2, am_I x3, am_I x4] (am_hM h M) (.inl (some (am_I v), am_hM h M')) := by
  unfold f_X3_value at hyp
  refine am_Ev.mk (by decide +kernel) rfl rfl (Nat.le_refl _) (Nat.le_refl _) ?_
  change am_At _ _ _ 0 [_, _, _, _, _, _, _, _, _] [] _ _
  refine am_aload_n dX3_value_0 rfl ?_
  refine am_aload_n dX3_value_1 rfl ?_
  refine am_iload_n dX3_value_2 rfl ?_
  refine am_iload_n dX3_value_3 rfl ?_
  refine am_iload dX3_value_4 rfl ?_
  obtain ⟨M1, hk1, hyp⟩ := bd_some hyp
  try dsimp only at hyp
  refine am_callV [_, _, _, _] dX3_value_6 ml_X3_97 vm_X3_findFacts (sh_23 g) rfl (fun _ => Nat.le_of_ble_eq_true rfl) (by omega) rfl (ef_X3_findFacts (d := d + 0) (h := h) g hk1) rfl ?_
  change am_At _ _ _ 9 [_, _, _, _, _, _, _, _, _] [] _ _
  refine am_iconst 0 (v := 0) dX3_value_9 (by decide) ?_
  refine am_istore dX3_value_10 (am_lb rfl) ?_
  change am_At _ _ _ 12 [_, _, _, _, _, _, _, _, _] [] _ _
  refine am_iconst 0 (v := 0) dX3_value_12 (by decide) ?_
  refine am_istore dX3_value_13 (am_lb rfl) ?_
  change am_At _ _ _ 15 [_, _, _, _, _, _, _, _, _] [] _ _
  obtain ⟨M22, hw22, hyp⟩ := bd_some hyp
  refine am_At.drop 2 ?_
  refine am_At.drop 3 ?_
  refine am_At.drop 4 ?_
  try dsimp only at hyp
  refine eL_X3_value_15_25 (d := d) (h := h) g hW  FU ((0 : Int32), (0 : Int32), M1) M22 hw22 ?_
  change am_At _ _ _ 159 [_, _, _, _, _, _, _, _, _] [] _ _
  refine am_aload_n dX3_value_159 rfl ?_
  refine am_getR 3 5 26 dX3_value_160 fg_X3_18 (sh_23 g) (by decide) rfl (rf_23_5 g) ?_
  refine am_iconst 0 (v := 0) dX3_value_163 (by decide) ?_
  refine am_iald dX3_value_164 (am_ia.one (sh_26 g)) (am_lit rfl) ?_
  cases hyp
  exact am_iret dX3_value_165 rfl
theorem isb_X4_hasKnocked (x1 x2 : Int32) (M : Mem) : isb (f_X4_hasKnocked x1 x2 M) = true := by
  unfold f_X4_hasKnocked
  (repeat' split) <;> rfl
theorem ef_X4_hasKnocked {d : Nat} {h : am_H} (g : lay h) {x1 x2 : Int32} {M : Mem} {v : Int32} (hyp : f_X4_hasKnocked x1 x2 M = v) : am_Ev (d + 0) mX4_hasKnocked [.inr (28, 0), am_I x1, am_I x2] (am_hM h M) (.inl (some (am_I v), am_hM h M)) := by
  unfold f_X4_hasKnocked at hyp
  refine am_Ev.mk (by decide +kernel) rfl rfl (Nat.le_refl _) (Nat.le_refl _) ?_
  change am_At _ _ _ 0 [_, _, _] [] _ _
  refine am_iload_n dX4_hasKnocked_0 rfl ?_
  refine am_aload_n dX4_hasKnocked_1 rfl ?_
  refine am_getR 4 0 3 dX4_hasKnocked_2 fg_X4_9 (sh_28 g) (by decide) rfl (rf_28_0 g) ?_
  refine am_getI 1 0 dX4_hasKnocked_5 fg_X4_25 (sh_3 g) (by decide) rfl ?_
  refine am_icmp_ge (20) 28 dX4_hasKnocked_8 rfl ?_ ?_
  · intro hc1
    have hc1 : (M 3 0 0) ≤ x2 := hc1
    replace hyp := it_pos hc1 hyp
    refine am_iconst 0 (v := 0) dX4_hasKnocked_28 (by decide) ?_
    cases hyp
    exact am_zret dX4_hasKnocked_29 rfl rfl
  · intro hc1n
    have hc1n : ¬ ((M 3 0 0) ≤ x2) := hc1n
    replace hyp := it_neg hc1n hyp
    refine am_iload_n dX4_hasKnocked_11 rfl ?_
    refine am_iload_n dX4_hasKnocked_12 rfl ?_
    refine am_isub dX4_hasKnocked_13 ?_
    refine am_aload_n dX4_hasKnocked_14 rfl ?_
    refine am_getR 4 0 3 dX4_hasKnocked_15 fg_X4_9 (sh_28 g) (by decide) rfl (rf_28_0 g) ?_
    refine am_getI 1 12 dX4_hasKnocked_18 fg_X4_52 (sh_3 g) (by decide) rfl ?_
    refine am_icmp_ge (7) 28 dX4_hasKnocked_21 rfl ?_ ?_
    · intro hc2
      have hc2 : (M 3 0 12) ≤ (x2 - x1) := hc2
      replace hyp := it_pos hc2 hyp
      refine am_iconst 0 (v := 0) dX4_hasKnocked_28 (by decide) ?_
      cases hyp
      exact am_zret dX4_hasKnocked_29 rfl rfl
    · intro hc2n
      have hc2n : ¬ ((M 3 0 12) ≤ (x2 - x1)) := hc2n
      replace hyp := it_neg hc2n hyp
      refine am_iconst 1 (v := 1) dX4_hasKnocked_24 (by decide) ?_
      refine am_goto (4) 29 dX4_hasKnocked_25 rfl ?_
      cases hyp
      exact am_zret dX4_hasKnocked_29 rfl rfl
