theorem ef_X7_bringBack {d : Nat} {h : am_H} (g : lay h) {M : Mem} {M' : Mem} (hyp : f_X7_bringBack M = some M') : am_Ev (d + 1) mX7_bringBack [.inr (31, 0), .inr (29, 0)] (am_hM h M) (.inl (none, am_hM h M')) := by
  unfold f_X7_bringBack at hyp
  refine am_Ev.mk (by decide +kernel) rfl rfl (Nat.le_refl _) (Nat.le_refl _) ?_
  change am_At _ _ _ 0 [_, _] [] _ _
  refine am_aload_n dX7_bringBack_0 rfl ?_
  refine am_getI 7 1 dX7_bringBack_1 fg_X7_22 (sh_31 g) (by decide) rfl ?_
  refine am_if_le (28) 32 dX7_bringBack_4 rfl ?_ ?_
  · intro hc1
    have hc1 : (M 31 0 1) ≤ 0 := hc1
    replace hyp := it_pos hc1 hyp
    cases hyp
    exact am_vret dX7_bringBack_32 rfl
  · intro hc1n
    have hc1n : ¬ ((M 31 0 1) ≤ 0) := hc1n
    replace hyp := it_neg hc1n hyp
    refine am_aload_n dX7_bringBack_7 rfl ?_
    refine am_dup dX7_bringBack_8 (fun _ => rfl) ?_
    refine am_getI 7 1 dX7_bringBack_9 fg_X7_22 (sh_31 g) (by decide) rfl ?_
    refine am_iconst 1 (v := 1) dX7_bringBack_12 (by decide) ?_
    refine am_isub dX7_bringBack_13 ?_
    refine am_putI 7 1 dX7_bringBack_14 (Or.inl fp_X7_22) (sh_31 g) (by decide) rfl rfl rfl ?_
    refine am_aload_n dX7_bringBack_17 rfl ?_
    refine am_aload_n dX7_bringBack_18 rfl ?_
    refine am_getR 7 0 32 dX7_bringBack_19 fg_X7_13 (sh_31 g) (by decide) rfl (rf_31_0 g) ?_
    refine am_aload_n dX7_bringBack_22 rfl ?_
    refine am_getI 7 1 dX7_bringBack_23 fg_X7_22 (sh_31 g) (by decide) rfl ?_
    refine am_bipush 47 (v := 47) dX7_bringBack_26 (by decide) ?_
    refine am_imul dX7_bringBack_28 ?_
    obtain ⟨M2, hk2, hyp⟩ := bd_some hyp
    try dsimp only at hyp
    refine am_callV [_, _] dX7_bringBack_29 ml_X7_37 vm_X8_readFrom (sh_29 g) rfl (fun _ => Nat.le_of_ble_eq_true rfl) (by omega) rfl (ef_X8_readFrom_p (d := d + 0) (h := h) g hk2) rfl ?_
    change am_At _ _ _ 32 [_, _] [] _ _
    cases hyp
    exact am_vret dX7_bringBack_32 rfl
theorem ef_X7_bringBackImage {d : Nat} {h : am_H} (g : lay h) {M : Mem} {v : Int32} {M' : Mem} (hyp : f_X7_bringBackImage M = some (v, M')) : am_Ev (d + 1) mX7_bringBackImage [.inr (31, 0), .inr (29, 0)] (am_hM h M) (.inl (some (am_I v), am_hM h M')) := by
  unfold f_X7_bringBackImage at hyp
  refine am_Ev.mk (by decide +kernel) rfl rfl (Nat.le_refl _) (Nat.le_refl _) ?_
  change am_At _ _ _ 0 [_, _, _] [] _ _
  refine am_aload_n dX7_bringBackImage_0 rfl ?_
  refine am_getI 7 3 dX7_bringBackImage_1 fg_X7_26 (sh_31 g) (by decide) rfl ?_
  refine am_if_gt (5) 9 dX7_bringBackImage_4 rfl ?_ ?_
  · intro hc1
    have hc1 : 0 < (M 31 0 3) := hc1
    replace hyp := it_pos hc1 hyp
    refine am_aload_n dX7_bringBackImage_9 rfl ?_
    refine am_dup dX7_bringBackImage_10 (fun _ => rfl) ?_
    refine am_getI 7 3 dX7_bringBackImage_11 fg_X7_26 (sh_31 g) (by decide) rfl ?_
    refine am_iconst 1 (v := 1) dX7_bringBackImage_14 (by decide) ?_
    refine am_isub dX7_bringBackImage_15 ?_
    refine am_putI 7 3 dX7_bringBackImage_16 (Or.inl fp_X7_26) (sh_31 g) (by decide) rfl rfl rfl ?_
    refine am_aload_n dX7_bringBackImage_19 rfl ?_
    refine am_getR 7 2 33 dX7_bringBackImage_20 fg_X7_19 (sh_31 g) (by decide) rfl (rf_31_2 g) ?_
    refine am_aload_n dX7_bringBackImage_23 rfl ?_
    refine am_getI 7 3 dX7_bringBackImage_24 fg_X7_26 (sh_31 g) (by decide) rfl ?_
    obtain ⟨hg2, hyp⟩ := gd_some hyp
    refine am_aald dX7_bringBackImage_27 (sh_33 g) (am_lit hg2) ?_
    refine am_astore_n dX7_bringBackImage_28 (am_lb rfl) ?_
    change am_At _ _ _ 29 [_, _, _] [] _ _
    refine am_aload_n dX7_bringBackImage_29 rfl ?_
    refine am_iconst 0 (v := 0) dX7_bringBackImage_30 (by decide) ?_
    refine am_aload_n dX7_bringBackImage_31 rfl ?_
    refine am_getR 7 0 32 dX7_bringBackImage_32 fg_X7_13 (sh_31 g) (by decide) rfl (rf_31_0 g) ?_
    refine am_iconst 0 (v := 0) dX7_bringBackImage_35 (by decide) ?_
    refine am_aload_n dX7_bringBackImage_36 rfl ?_
    refine am_getR 7 0 32 dX7_bringBackImage_37 fg_X7_13 (sh_31 g) (by decide) rfl (rf_31_0 g) ?_
    refine am_alen dX7_bringBackImage_40 (am_ia.one (sh_32 g)) rfl ?_
    refine am_copy dX7_bringBackImage_41 ml_X7_40 (am_ia.row (sh_33 g) (by omega) (am_vlt (am_lit hg2))) (am_ia.one (sh_32 g)) (by decide) (by decide) (by decide) (by decide) (by decide) (fun _ => Nat.le_of_ble_eq_true rfl) ?_
    change am_At _ _ _ 44 [_, _, _] [] (am_hM h (am_cp (am_u3 M 31 0 3 ((M 31 0 3) - (1 : Int32))) 33 (((M 31 0 3) - (1 : Int32)).toNatClampNeg + 1) 0 32 0 0 752)) _
    refine am_aload_n dX7_bringBackImage_44 rfl ?_
    refine am_aload_n dX7_bringBackImage_45 rfl ?_
    refine am_sipush 752 (v := 752) dX7_bringBackImage_46 (by decide) ?_
    obtain ⟨M3, hk3, hyp⟩ := bd_some hyp
    try dsimp only at hyp
    refine am_callV [_, _] dX7_bringBackImage_49 ml_X7_37 vm_X8_readFrom (sh_29 g) rfl (fun _ => Nat.le_of_ble_eq_true rfl) (by omega) rfl (ef_X8_readFrom_i (d := d + 0) (h := h) g ⟨Nat.succ_pos _, am_vlt (am_lit hg2)⟩ hk3) rfl ?_
    change am_At _ _ _ 52 [_, _, _] [] _ _
    refine am_aload_n dX7_bringBackImage_52 rfl ?_
    refine am_aload_n dX7_bringBackImage_53 rfl ?_
    refine am_sipush 799 (v := 799) dX7_bringBackImage_54 (by decide) ?_
    refine am_iald dX7_bringBackImage_57 (am_ia.row (sh_33 g) (by omega) (am_vlt (am_lit hg2))) (am_lit rfl) ?_
    refine am_putI 7 1 dX7_bringBackImage_58 (Or.inl fp_X7_22) (sh_31 g) (by decide) rfl rfl rfl ?_
    refine am_iconst 1 (v := 1) dX7_bringBackImage_61 (by decide) ?_
    cases hyp
    exact am_zret dX7_bringBackImage_62 rfl rfl
  · intro hc1n
    have hc1n : ¬ (0 < (M 31 0 3)) := hc1n
    replace hyp := it_neg hc1n hyp
    refine am_iconst 0 (v := 0) dX7_bringBackImage_7 (by decide) ?_
    cases hyp
    exact am_zret dX7_bringBackImage_8 rfl rfl
theorem ef_X7_keep {d : Nat} {h : am_H} (g : lay h) {M : Mem} {M' : Mem} (hyp : f_X7_keep M = some M') : am_Ev (d + 1) mX7_keep [.inr (31, 0), .inr (29, 0)] (am_hM h M) (.inl (none, am_hM h M')) := by
  unfold f_X7_keep at hyp
  refine am_Ev.mk (by decide +kernel) rfl rfl (Nat.le_refl _) (Nat.le_refl _) ?_
  change am_At _ _ _ 0 [_, _] [] _ _
  refine am_aload_n dX7_keep_0 rfl ?_
  refine am_callV [] dX7_keep_1 ml_X7_29 vm_X7_isFull (sh_31 g) rfl (fun _ => Nat.le_of_ble_eq_true rfl) (by omega) rfl (ef_X7_isFull (d := d + 0) (h := h) g  (M := M) rfl) rfl ?_
  change am_At _ _ _ 4 [_, _] [_] _ _
  refine am_if_ne (28) 32 dX7_keep_4 rfl ?_ ?_
  · intro hc1n
    have hc1n : ¬ ((f_X7_isFull M) = 0) := hc1n
    replace hyp := it_neg hc1n hyp
    cases hyp
    exact am_vret dX7_keep_32 rfl
  · intro hc1
    have hc1 : (f_X7_isFull M) = 0 := hc1
    replace hyp := it_pos hc1 hyp
    refine am_aload_n dX7_keep_7 rfl ?_
    refine am_aload_n dX7_keep_8 rfl ?_
    refine am_getR 7 0 32 dX7_keep_9 fg_X7_13 (sh_31 g) (by decide) rfl (rf_31_0 g) ?_
    refine am_aload_n dX7_keep_12 rfl ?_
    refine am_getI 7 1 dX7_keep_13 fg_X7_22 (sh_31 g) (by decide) rfl ?_
    refine am_bipush 47 (v := 47) dX7_keep_16 (by decide) ?_
    refine am_imul dX7_keep_18 ?_
    obtain ⟨M2, hk2, hyp⟩ := bd_some hyp
    try dsimp only at hyp
    refine am_callV [_, _] dX7_keep_19 ml_X7_33 vm_X8_writeTo (sh_29 g) rfl (fun _ => Nat.le_of_ble_eq_true rfl) (by omega) rfl (ef_X8_writeTo_p (d := d + 0) (h := h) g hk2) rfl ?_
    change am_At _ _ _ 22 [_, _] [] _ _
    refine am_aload_n dX7_keep_22 rfl ?_
    refine am_dup dX7_keep_23 (fun _ => rfl) ?_
    refine am_getI 7 1 dX7_keep_24 fg_X7_22 (sh_31 g) (by decide) rfl ?_
    refine am_iconst 1 (v := 1) dX7_keep_27 (by decide) ?_
    refine am_iadd dX7_keep_28 ?_
    refine am_putI 7 1 dX7_keep_29 (Or.inl fp_X7_22) (sh_31 g) (by decide) rfl rfl rfl ?_
    cases hyp
    exact am_vret dX7_keep_32 rfl
theorem ef_X7_keepImage {d : Nat} {h : am_H} (g : lay h) {M : Mem} {v : Int32} {M' : Mem} (hyp : f_X7_keepImage M = some (v, M')) : am_Ev (d + 1) mX7_keepImage [.inr (31, 0), .inr (29, 0)] (am_hM h M) (.inl (some (am_I v), am_hM h M')) := by
  unfold f_X7_keepImage at hyp
  refine am_Ev.mk (by decide +kernel) rfl rfl (Nat.le_refl _) (Nat.le_refl _) ?_
  change am_At _ _ _ 0 [_, _, _] [] _ _
  refine am_aload_n dX7_keepImage_0 rfl ?_
  refine am_getI 7 3 dX7_keepImage_1 fg_X7_26 (sh_31 g) (by decide) rfl ?_
  refine am_iconst 3 (v := 3) dX7_keepImage_4 (by decide) ?_
  refine am_icmp_lt (5) 10 dX7_keepImage_5 rfl ?_ ?_
  · intro hc1
    have hc1 : (M 31 0 3) < (3 : Int32) := hc1
    replace hyp := it_pos hc1 hyp
    refine am_aload_n dX7_keepImage_10 rfl ?_
    refine am_getR 7 2 33 dX7_keepImage_11 fg_X7_19 (sh_31 g) (by decide) rfl (rf_31_2 g) ?_
    refine am_aload_n dX7_keepImage_14 rfl ?_
    refine am_getI 7 3 dX7_keepImage_15 fg_X7_26 (sh_31 g) (by decide) rfl ?_
    obtain ⟨hg2, hyp⟩ := gd_some hyp
    refine am_aald dX7_keepImage_18 (sh_33 g) (am_lit hg2) ?_
    refine am_astore_n dX7_keepImage_19 (am_lb rfl) ?_
    change am_At _ _ _ 20 [_, _, _] [] _ _
    refine am_aload_n dX7_keepImage_20 rfl ?_
    refine am_getR 7 0 32 dX7_keepImage_21 fg_X7_13 (sh_31 g) (by decide) rfl (rf_31_0 g) ?_
    refine am_iconst 0 (v := 0) dX7_keepImage_24 (by decide) ?_
    refine am_aload_n dX7_keepImage_25 rfl ?_
    refine am_iconst 0 (v := 0) dX7_keepImage_26 (by decide) ?_
    refine am_aload_n dX7_keepImage_27 rfl ?_
    refine am_getR 7 0 32 dX7_keepImage_28 fg_X7_13 (sh_31 g) (by decide) rfl (rf_31_0 g) ?_
    refine am_alen dX7_keepImage_31 (am_ia.one (sh_32 g)) rfl ?_
    refine am_copy dX7_keepImage_32 ml_X7_40 (am_ia.one (sh_32 g)) (am_ia.row (sh_33 g) (by omega) (am_vlt (am_lit hg2))) (by decide) (by decide) (by decide) (by decide) (by decide) (fun _ => Nat.le_of_ble_eq_true rfl) ?_
    change am_At _ _ _ 35 [_, _, _] [] (am_hM h (am_cp M 32 0 0 33 ((M 31 0 3).toNatClampNeg + 1) 0 752)) _
    refine am_aload_n dX7_keepImage_35 rfl ?_
    refine am_aload_n dX7_keepImage_36 rfl ?_
    refine am_sipush 752 (v := 752) dX7_keepImage_37 (by decide) ?_
    obtain ⟨M3, hk3, hyp⟩ := bd_some hyp
    try dsimp only at hyp
    refine am_callV [_, _] dX7_keepImage_40 ml_X7_33 vm_X8_writeTo (sh_29 g) rfl (fun _ => Nat.le_of_ble_eq_true rfl) (by omega) rfl (ef_X8_writeTo_i (d := d + 0) (h := h) g ⟨Nat.succ_pos _, am_vlt (am_lit hg2)⟩ hk3) rfl ?_
    change am_At _ _ _ 43 [_, _, _] [] _ _
    refine am_aload_n dX7_keepImage_43 rfl ?_
    refine am_sipush 799 (v := 799) dX7_keepImage_44 (by decide) ?_
    refine am_aload_n dX7_keepImage_47 rfl ?_
    refine am_getI 7 1 dX7_keepImage_48 fg_X7_22 (sh_31 g) (by decide) rfl ?_
    refine am_iast dX7_keepImage_51 (am_ia.row (sh_33 g) (by omega) (am_vlt (am_lit hg2))) (am_lit rfl) ?_
    refine am_aload_n dX7_keepImage_52 rfl ?_
    refine am_dup dX7_keepImage_53 (fun _ => rfl) ?_
    refine am_getI 7 3 dX7_keepImage_54 fg_X7_26 (sh_31 g) (by decide) rfl ?_
    refine am_iconst 1 (v := 1) dX7_keepImage_57 (by decide) ?_
    refine am_iadd dX7_keepImage_58 ?_
    refine am_putI 7 3 dX7_keepImage_59 (Or.inl fp_X7_26) (sh_31 g) (by decide) rfl rfl rfl ?_
    refine am_iconst 1 (v := 1) dX7_keepImage_62 (by decide) ?_
    cases hyp
    exact am_zret dX7_keepImage_63 rfl rfl
  · intro hc1n
    have hc1n : ¬ ((M 31 0 3) < (3 : Int32)) := hc1n
    replace hyp := it_neg hc1n hyp
    refine am_iconst 0 (v := 0) dX7_keepImage_8 (by decide) ?_
    cases hyp
    exact am_zret dX7_keepImage_9 rfl rfl
theorem ef_X8_allFines_30 {d : Nat} {h : am_H} (g : lay h) {M : Mem} {v : Int32} (hyp : f_X8_allFines 30 M = some v) : am_Ev (d + 1) mX8_allFines [.inr (29, 0)] (am_hM h M) (.inl (some (am_I v), am_hM h M)) := by
  unfold f_X8_allFines at hyp
  refine am_Ev.mk (by decide +kernel) rfl rfl (Nat.le_refl _) (Nat.le_refl _) ?_
  change am_At _ _ _ 0 [_] [] _ _
  refine am_aload_n dX8_allFines_0 rfl ?_
  refine am_iconst 3 (v := 3) dX8_allFines_1 (by decide) ?_
  obtain ⟨v1, hk1, hyp⟩ := bd_some hyp
  try dsimp only at hyp
  refine am_callV [_] dX8_allFines_2 ml_X8_41 vm_X8_sumOfBoards (sh_29 g) rfl (fun _ => Nat.le_of_ble_eq_true rfl) (by omega) rfl (ef_X8_sumOfBoards_30 (d := d + 0) (h := h) g hk1) rfl ?_
  change am_At _ _ _ 5 [_] [_] _ _
  cases hyp
  exact am_iret dX8_allFines_5 rfl
theorem ef_X8_allFines_40 {d : Nat} {h : am_H} (g : lay h) {M : Mem} {v : Int32} (hyp : f_X8_allFines 40 M = some v) : am_Ev (d + 1) mX8_allFines [.inr (39, 0)] (am_hM h M) (.inl (some (am_I v), am_hM h M)) := by
  unfold f_X8_allFines at hyp
  refine am_Ev.mk (by decide +kernel) rfl rfl (Nat.le_refl _) (Nat.le_refl _) ?_
  change am_At _ _ _ 0 [_] [] _ _
  refine am_aload_n dX8_allFines_0 rfl ?_
  refine am_iconst 3 (v := 3) dX8_allFines_1 (by decide) ?_
  obtain ⟨v1, hk1, hyp⟩ := bd_some hyp
  try dsimp only at hyp
  refine am_callV [_] dX8_allFines_2 ml_X8_41 vm_X8_sumOfBoards (sh_39 g) rfl (fun _ => Nat.le_of_ble_eq_true rfl) (by omega) rfl (ef_X8_sumOfBoards_40 (d := d + 0) (h := h) g hk1) rfl ?_
  change am_At _ _ _ 5 [_] [_] _ _
  cases hyp
  exact am_iret dX8_allFines_5 rfl
theorem ef_X8_allKnocks_30 {d : Nat} {h : am_H} (g : lay h) {M : Mem} {v : Int32} (hyp : f_X8_allKnocks 30 M = some v) : am_Ev (d + 1) mX8_allKnocks [.inr (29, 0)] (am_hM h M) (.inl (some (am_I v), am_hM h M)) := by
  unfold f_X8_allKnocks at hyp
  refine am_Ev.mk (by decide +kernel) rfl rfl (Nat.le_refl _) (Nat.le_refl _) ?_
  change am_At _ _ _ 0 [_] [] _ _
  refine am_aload_n dX8_allKnocks_0 rfl ?_
  refine am_bipush 19 (v := 19) dX8_allKnocks_1 (by decide) ?_
  obtain ⟨v1, hk1, hyp⟩ := bd_some hyp
  try dsimp only at hyp
  refine am_callV [_] dX8_allKnocks_3 ml_X8_41 vm_X8_sumOfBoards (sh_29 g) rfl (fun _ => Nat.le_of_ble_eq_true rfl) (by omega) rfl (ef_X8_sumOfBoards_30 (d := d + 0) (h := h) g hk1) rfl ?_
  change am_At _ _ _ 6 [_] [_] _ _
  cases hyp
  exact am_iret dX8_allKnocks_6 rfl
theorem ef_X8_allKnocks_40 {d : Nat} {h : am_H} (g : lay h) {M : Mem} {v : Int32} (hyp : f_X8_allKnocks 40 M = some v) : am_Ev (d + 1) mX8_allKnocks [.inr (39, 0)] (am_hM h M) (.inl (some (am_I v), am_hM h M)) := by
  unfold f_X8_allKnocks at hyp
  refine am_Ev.mk (by decide +kernel) rfl rfl (Nat.le_refl _) (Nat.le_refl _) ?_
  change am_At _ _ _ 0 [_] [] _ _
  refine am_aload_n dX8_allKnocks_0 rfl ?_
  refine am_bipush 19 (v := 19) dX8_allKnocks_1 (by decide) ?_
  obtain ⟨v1, hk1, hyp⟩ := bd_some hyp
  try dsimp only at hyp
  refine am_callV [_] dX8_allKnocks_3 ml_X8_41 vm_X8_sumOfBoards (sh_39 g) rfl (fun _ => Nat.le_of_ble_eq_true rfl) (by omega) rfl (ef_X8_sumOfBoards_40 (d := d + 0) (h := h) g hk1) rfl ?_
  change am_At _ _ _ 6 [_] [_] _ _
  cases hyp
  exact am_iret dX8_allKnocks_6 rfl
theorem eL_X8_bargesThrough_4_30 {d : Nat} {h : am_H} (g : lay h) {M : Mem} {r : am_R} (n : Nat) : ∀ (s : Int32 × Int32) (e : Int32), wh (L_X8_bargesThrough_4 30 M) n s = some e → ((fun (x1 : Int32) => am_At am_X0 (d + 1) mX8_bargesThrough 32 [some (.inr (29, 0)), some (am_I (x1)), none] [] (am_hM h M) r) e) → (match s with | (x1, x2) => am_At am_X0 (d + 1) mX8_bargesThrough 4 [some (.inr (29, 0)), some (am_I (x1)), some (am_I (x2))] [] (am_hM h M) r) := by
  refine am_wh (At := fun (s : Int32 × Int32) => match s with | (x1, x2) => am_At am_X0 (d + 1) mX8_bargesThrough 4 [some (.inr (29, 0)), some (am_I (x1)), some (am_I (x2))] [] (am_hM h M) r) (Ex := fun (e : Int32) => (fun (x1 : Int32) => am_At am_X0 (d + 1) mX8_bargesThrough 32 [some (.inr (29, 0)), some (am_I (x1)), none] [] (am_hM h M) r) e) ?_ n
  rintro ⟨x1, x2⟩ y hyp hx
  unfold L_X8_bargesThrough_4 at hyp
  try dsimp only at hyp
  change am_At _ _ _ 4 [_, _, _] [] _ _
  refine am_iload_n dX8_bargesThrough_4 rfl ?_
  refine am_iconst 4 (v := 4) dX8_bargesThrough_5 (by decide) ?_
  refine am_icmp_ge (26) 32 dX8_bargesThrough_6 rfl ?_ ?_
  · intro hc1
    have hc1 : (4 : Int32) ≤ x2 := hc1
    replace hyp := it_pos hc1 hyp
    cases hyp
    refine am_At.drop 2 ?_
    exact hx
  · intro hc1n
    have hc1n : ¬ ((4 : Int32) ≤ x2) := hc1n
    replace hyp := it_neg hc1n hyp
    refine am_iload_n dX8_bargesThrough_9 rfl ?_
    refine am_aload_n dX8_bargesThrough_10 rfl ?_
    refine am_iload_n dX8_bargesThrough_11 rfl ?_
    obtain ⟨v2, hk2, hyp⟩ := bd_some hyp
    try dsimp only at hyp
    refine am_callV [_] dX8_bargesThrough_12 ml_X8_45 vm_X8_whereIs (sh_29 g) rfl (fun _ => Nat.le_of_ble_eq_true rfl) (by omega) rfl (ef_X8_whereIs_30 (d := d + 0) (h := h) g hk2) rfl ?_
    change am_At _ _ _ 15 [_, _, _] [_, _] _ _
    refine am_iconst 2 (v := 2) dX8_bargesThrough_15 (by decide) ?_
    refine am_icmp_ne (7) 23 dX8_bargesThrough_16 rfl ?_ ?_
    · intro hc3n
      have hc3n : ¬ (v2 = (2 : Int32)) := hc3n
      replace hyp := it_neg hc3n hyp
      refine am_iconst 0 (v := 0) dX8_bargesThrough_23 (by decide) ?_
      refine am_iadd dX8_bargesThrough_24 ?_
      refine am_istore_n dX8_bargesThrough_25 (am_lb rfl) ?_
      change am_At _ _ _ 26 [_, _, _] [] _ _
      refine am_iinc dX8_bargesThrough_26 rfl (am_ix _) ?_
      change am_At _ _ _ 29 [_, _, _] [] _ _
      refine am_goto (-25) 4 dX8_bargesThrough_29 rfl ?_
      cases hyp
      exact hx
    · intro hc3
      have hc3 : v2 = (2 : Int32) := hc3
      replace hyp := it_pos hc3 hyp
      refine am_iconst 1 (v := 1) dX8_bargesThrough_19 (by decide) ?_
      refine am_goto (4) 24 dX8_bargesThrough_20 rfl ?_
      refine am_iadd dX8_bargesThrough_24 ?_
      refine am_istore_n dX8_bargesThrough_25 (am_lb rfl) ?_
      change am_At _ _ _ 26 [_, _, _] [] _ _
      refine am_iinc dX8_bargesThrough_26 rfl (am_ix _) ?_
      change am_At _ _ _ 29 [_, _, _] [] _ _
      refine am_goto (-25) 4 dX8_bargesThrough_29 rfl ?_
      cases hyp
      exact hx
theorem ef_X8_bargesThrough_30 {d : Nat} {h : am_H} (g : lay h) {M : Mem} {v : Int32} (hyp : f_X8_bargesThrough 30 M = some v) : am_Ev (d + 1) mX8_bargesThrough [.inr (29, 0)] (am_hM h M) (.inl (some (am_I v), am_hM h M)) := by
  unfold f_X8_bargesThrough at hyp
  refine am_Ev.mk (by decide +kernel) rfl rfl (Nat.le_refl _) (Nat.le_refl _) ?_
  change am_At _ _ _ 0 [_, _, _] [] _ _
  refine am_iconst 0 (v := 0) dX8_bargesThrough_0 (by decide) ?_
  refine am_istore_n dX8_bargesThrough_1 (am_lb rfl) ?_
  change am_At _ _ _ 2 [_, _, _] [] _ _
  refine am_iconst 0 (v := 0) dX8_bargesThrough_2 (by decide) ?_
  refine am_istore_n dX8_bargesThrough_3 (am_lb rfl) ?_
  change am_At _ _ _ 4 [_, _, _] [] _ _
  obtain ⟨x1_4, hw4, hyp⟩ := bd_some hyp
  try dsimp only at hyp
  refine eL_X8_bargesThrough_4_30 (d := d) (h := h) g (M := M) FU ((0 : Int32), (0 : Int32)) x1_4 hw4 ?_
  change am_At _ _ _ 32 [_, _, _] [] _ _
  refine am_iload_n dX8_bargesThrough_32 rfl ?_
  cases hyp
  exact am_iret dX8_bargesThrough_33 rfl
theorem eL_X8_bargesThrough_4_40 {d : Nat} {h : am_H} (g : lay h) {M : Mem} {r : am_R} (n : Nat) : ∀ (s : Int32 × Int32) (e : Int32), wh (L_X8_bargesThrough_4 40 M) n s = some e → ((fun (x1 : Int32) => am_At am_X0 (d + 1) mX8_bargesThrough 32 [some (.inr (39, 0)), some (am_I (x1)), none] [] (am_hM h M) r) e) → (match s with | (x1, x2) => am_At am_X0 (d + 1) mX8_bargesThrough 4 [some (.inr (39, 0)), some (am_I (x1)), some (am_I (x2))] [] (am_hM h M) r) := by
  refine am_wh (At := fun (s : Int32 × Int32) => match s with | (x1, x2) => am_At am_X0 (d + 1) mX8_bargesThrough 4 [some (.inr (39, 0)), some (am_I (x1)), some (am_I (x2))] [] (am_hM h M) r) (Ex := fun (e : Int32) => (fun (x1 : Int32) => am_At am_X0 (d + 1) mX8_bargesThrough 32 [some (.inr (39, 0)), some (am_I (x1)), none] [] (am_hM h M) r) e) ?_ n
  rintro ⟨x1, x2⟩ y hyp hx
  unfold L_X8_bargesThrough_4 at hyp
  try dsimp only at hyp
  change am_At _ _ _ 4 [_, _, _] [] _ _
  refine am_iload_n dX8_bargesThrough_4 rfl ?_
  refine am_iconst 4 (v := 4) dX8_bargesThrough_5 (by decide) ?_
  refine am_icmp_ge (26) 32 dX8_bargesThrough_6 rfl ?_ ?_
  · intro hc1
    have hc1 : (4 : Int32) ≤ x2 := hc1
    replace hyp := it_pos hc1 hyp
    cases hyp
    refine am_At.drop 2 ?_
    exact hx
  · intro hc1n
    have hc1n : ¬ ((4 : Int32) ≤ x2) := hc1n
    replace hyp := it_neg hc1n hyp
    refine am_iload_n dX8_bargesThrough_9 rfl ?_
    refine am_aload_n dX8_bargesThrough_10 rfl ?_
    refine am_iload_n dX8_bargesThrough_11 rfl ?_
    obtain ⟨v2, hk2, hyp⟩ := bd_some hyp
    try dsimp only at hyp
    refine am_callV [_] dX8_bargesThrough_12 ml_X8_45 vm_X8_whereIs (sh_39 g) rfl (fun _ => Nat.le_of_ble_eq_true rfl) (by omega) rfl (ef_X8_whereIs_40 (d := d + 0) (h := h) g hk2) rfl ?_
    change am_At _ _ _ 15 [_, _, _] [_, _] _ _
    refine am_iconst 2 (v := 2) dX8_bargesThrough_15 (by decide) ?_
    refine am_icmp_ne (7) 23 dX8_bargesThrough_16 rfl ?_ ?_
    · intro hc3n
      have hc3n : ¬ (v2 = (2 : Int32)) := hc3n
      replace hyp := it_neg hc3n hyp
      refine am_iconst 0 (v := 0) dX8_bargesThrough_23 (by decide) ?_
      refine am_iadd dX8_bargesThrough_24 ?_
      refine am_istore_n dX8_bargesThrough_25 (am_lb rfl) ?_
      change am_At _ _ _ 26 [_, _, _] [] _ _
      refine am_iinc dX8_bargesThrough_26 rfl (am_ix _) ?_
      change am_At _ _ _ 29 [_, _, _] [] _ _
      refine am_goto (-25) 4 dX8_bargesThrough_29 rfl ?_
      cases hyp
      exact hx
    · intro hc3
      have hc3 : v2 = (2 : Int32) := hc3
      replace hyp := it_pos hc3 hyp
      refine am_iconst 1 (v := 1) dX8_bargesThrough_19 (by decide) ?_
      refine am_goto (4) 24 dX8_bargesThrough_20 rfl ?_
      refine am_iadd dX8_bargesThrough_24 ?_
      refine am_istore_n dX8_bargesThrough_25 (am_lb rfl) ?_
      change am_At _ _ _ 26 [_, _, _] [] _ _
      refine am_iinc dX8_bargesThrough_26 rfl (am_ix _) ?_
      change am_At _ _ _ 29 [_, _, _] [] _ _
      refine am_goto (-25) 4 dX8_bargesThrough_29 rfl ?_
      cases hyp
      exact hx
theorem ef_X8_bargesThrough_40 {d : Nat} {h : am_H} (g : lay h) {M : Mem} {v : Int32} (hyp : f_X8_bargesThrough 40 M = some v) : am_Ev (d + 1) mX8_bargesThrough [.inr (39, 0)] (am_hM h M) (.inl (some (am_I v), am_hM h M)) := by
  unfold f_X8_bargesThrough at hyp
  refine am_Ev.mk (by decide +kernel) rfl rfl (Nat.le_refl _) (Nat.le_refl _) ?_
  change am_At _ _ _ 0 [_, _, _] [] _ _
  refine am_iconst 0 (v := 0) dX8_bargesThrough_0 (by decide) ?_
  refine am_istore_n dX8_bargesThrough_1 (am_lb rfl) ?_
  change am_At _ _ _ 2 [_, _, _] [] _ _
  refine am_iconst 0 (v := 0) dX8_bargesThrough_2 (by decide) ?_
  refine am_istore_n dX8_bargesThrough_3 (am_lb rfl) ?_
  change am_At _ _ _ 4 [_, _, _] [] _ _
  obtain ⟨x1_4, hw4, hyp⟩ := bd_some hyp
  try dsimp only at hyp
  refine eL_X8_bargesThrough_4_40 (d := d) (h := h) g (M := M) FU ((0 : Int32), (0 : Int32)) x1_4 hw4 ?_
  change am_At _ _ _ 32 [_, _, _] [] _ _
  refine am_iload_n dX8_bargesThrough_32 rfl ?_
  cases hyp
  exact am_iret dX8_bargesThrough_33 rfl
theorem ef_X8_modeOf_30 {d : Nat} {h : am_H} (g : lay h) {x1 : Int32} {M : Mem} {v : Int32} (hyp : f_X8_modeOf 30 x1 M = v) : am_Ev (d + 1) mX8_modeOf [.inr (29, 0), am_I x1] (am_hM h M) (.inl (some (am_I v), am_hM h M)) := by
  unfold f_X8_modeOf at hyp
  refine am_Ev.mk (by decide +kernel) rfl rfl (Nat.le_refl _) (Nat.le_refl _) ?_
  change am_At _ _ _ 0 [_, _] [] _ _
  refine am_aload_n dX8_modeOf_0 rfl ?_
  refine am_callV [] dX8_modeOf_1 ml_X8_27 vm_X8_lifted (sh_29 g) rfl (fun _ => Nat.le_of_ble_eq_true rfl) (by omega) rfl (ef_X8_lifted_30 (d := d + 0) (h := h) g  (M := M) rfl) rfl ?_
  change am_At _ _ _ 4 [_, _] [_] _ _
  refine am_iload_n dX8_modeOf_4 rfl ?_
  refine am_callSN (c := 0) (k := 0) (n := 0) (w := 0) [_, _] dX8_modeOf_5 ml_X8_31 sm_X11_isBitOf rfl (fun _ => Nat.le_of_ble_eq_true rfl) (by omega) rfl (ef_X11_isBitOf (d := d + 0) (h := am_hM h M) (x0 := (M 30 0 1)) (x1 := x1)  rfl) rfl ?_
  change am_At _ _ _ 8 [_, _] [_] _ _
  refine am_if_eq (5) 13 dX8_modeOf_8 rfl ?_ ?_
  · intro hc1
    have hc1 : (f_X11_isBitOf (M 30 0 1) x1) = 0 := hc1
    replace hyp := it_pos hc1 hyp
    refine am_aload_n dX8_modeOf_13 rfl ?_
    refine am_callV [] dX8_modeOf_14 ml_X8_35 vm_X8_shut (sh_29 g) rfl (fun _ => Nat.le_of_ble_eq_true rfl) (by omega) rfl (ef_X8_shut_30 (d := d + 0) (h := h) g  (M := M) rfl) rfl ?_
    change am_At _ _ _ 17 [_, _] [_] _ _
    refine am_iload_n dX8_modeOf_17 rfl ?_
    refine am_callSN (c := 0) (k := 0) (n := 0) (w := 0) [_, _] dX8_modeOf_18 ml_X8_31 sm_X11_isBitOf rfl (fun _ => Nat.le_of_ble_eq_true rfl) (by omega) rfl (ef_X11_isBitOf (d := d + 0) (h := am_hM h M) (x0 := (M 30 0 2)) (x1 := x1)  rfl) rfl ?_
    change am_At _ _ _ 21 [_, _] [_] _ _
    refine am_if_eq (7) 28 dX8_modeOf_21 rfl ?_ ?_
    · intro hc2
      have hc2 : (f_X11_isBitOf (M 30 0 2) x1) = 0 := hc2
      replace hyp := it_pos hc2 hyp
      refine am_iconst 0 (v := 0) dX8_modeOf_28 (by decide) ?_
      cases hyp
      exact am_iret dX8_modeOf_29 rfl
    · intro hc2n
      have hc2n : ¬ ((f_X11_isBitOf (M 30 0 2) x1) = 0) := hc2n
      replace hyp := it_neg hc2n hyp
      refine am_iconst 2 (v := 2) dX8_modeOf_24 (by decide) ?_
      refine am_goto (4) 29 dX8_modeOf_25 rfl ?_
      cases hyp
      exact am_iret dX8_modeOf_29 rfl
  · intro hc1n
    have hc1n : ¬ ((f_X11_isBitOf (M 30 0 1) x1) = 0) := hc1n
    replace hyp := it_neg hc1n hyp
    refine am_iconst 1 (v := 1) dX8_modeOf_11 (by decide) ?_
    cases hyp
    exact am_iret dX8_modeOf_12 rfl
theorem ef_X8_modeOf_40 {d : Nat} {h : am_H} (g : lay h) {x1 : Int32} {M : Mem} {v : Int32} (hyp : f_X8_modeOf 40 x1 M = v) : am_Ev (d + 1) mX8_modeOf [.inr (39, 0), am_I x1] (am_hM h M) (.inl (some (am_I v), am_hM h M)) := by
  unfold f_X8_modeOf at hyp
  refine am_Ev.mk (by decide +kernel) rfl rfl (Nat.le_refl _) (Nat.le_refl _) ?_
  change am_At _ _ _ 0 [_, _] [] _ _
  refine am_aload_n dX8_modeOf_0 rfl ?_
  refine am_callV [] dX8_modeOf_1 ml_X8_27 vm_X8_lifted (sh_39 g) rfl (fun _ => Nat.le_of_ble_eq_true rfl) (by omega) rfl (ef_X8_lifted_40 (d := d + 0) (h := h) g  (M := M) rfl) rfl ?_
  change am_At _ _ _ 4 [_, _] [_] _ _
  refine am_iload_n dX8_modeOf_4 rfl ?_
  refine am_callSN (c := 0) (k := 0) (n := 0) (w := 0) [_, _] dX8_modeOf_5 ml_X8_31 sm_X11_isBitOf rfl (fun _ => Nat.le_of_ble_eq_true rfl) (by omega) rfl (ef_X11_isBitOf (d := d + 0) (h := am_hM h M) (x0 := (M 40 0 1)) (x1 := x1)  rfl) rfl ?_
  change am_At _ _ _ 8 [_, _] [_] _ _
  refine am_if_eq (5) 13 dX8_modeOf_8 rfl ?_ ?_
  · intro hc1
    have hc1 : (f_X11_isBitOf (M 40 0 1) x1) = 0 := hc1
    replace hyp := it_pos hc1 hyp
    refine am_aload_n dX8_modeOf_13 rfl ?_
    refine am_callV [] dX8_modeOf_14 ml_X8_35 vm_X8_shut (sh_39 g) rfl (fun _ => Nat.le_of_ble_eq_true rfl) (by omega) rfl (ef_X8_shut_40 (d := d + 0) (h := h) g  (M := M) rfl) rfl ?_
    change am_At _ _ _ 17 [_, _] [_] _ _
    refine am_iload_n dX8_modeOf_17 rfl ?_
    refine am_callSN (c := 0) (k := 0) (n := 0) (w := 0) [_, _] dX8_modeOf_18 ml_X8_31 sm_X11_isBitOf rfl (fun _ => Nat.le_of_ble_eq_true rfl) (by omega) rfl (ef_X11_isBitOf (d := d + 0) (h := am_hM h M) (x0 := (M 40 0 2)) (x1 := x1)  rfl) rfl ?_
    change am_At _ _ _ 21 [_, _] [_] _ _
    refine am_if_eq (7) 28 dX8_modeOf_21 rfl ?_ ?_
    · intro hc2
      have hc2 : (f_X11_isBitOf (M 40 0 2) x1) = 0 := hc2
      replace hyp := it_pos hc2 hyp
      refine am_iconst 0 (v := 0) dX8_modeOf_28 (by decide) ?_
      cases hyp
      exact am_iret dX8_modeOf_29 rfl
    · intro hc2n
      have hc2n : ¬ ((f_X11_isBitOf (M 40 0 2) x1) = 0) := hc2n
      replace hyp := it_neg hc2n hyp
      refine am_iconst 2 (v := 2) dX8_modeOf_24 (by decide) ?_
      refine am_goto (4) 29 dX8_modeOf_25 rfl ?_
      cases hyp
      exact am_iret dX8_modeOf_29 rfl
  · intro hc1n
    have hc1n : ¬ ((f_X11_isBitOf (M 40 0 1) x1) = 0) := hc1n
    replace hyp := it_neg hc1n hyp
    refine am_iconst 1 (v := 1) dX8_modeOf_11 (by decide) ?_
    cases hyp
    exact am_iret dX8_modeOf_12 rfl
theorem ef_X8_setMode_30 {d : Nat} {h : am_H} (g : lay h) {x1 x2 : Int32} {M : Mem} {M' : Mem} (hyp : f_X8_setMode 30 x1 x2 M = M') : am_Ev (d + 1) mX8_setMode [.inr (29, 0), am_I x1, am_I x2] (am_hM h M) (.inl (none, am_hM h M')) := by
  unfold f_X8_setMode at hyp
  refine am_Ev.mk (by decide +kernel) rfl rfl (Nat.le_refl _) (Nat.le_refl _) ?_
  change am_At _ _ _ 0 [_, _, _, _] [] _ _
  refine am_iconst 1 (v := 1) dX8_setMode_0 (by decide) ?_
  refine am_iload_n dX8_setMode_1 rfl ?_
  refine am_ishl dX8_setMode_2 ?_
  refine am_istore_n dX8_setMode_3 (am_lb rfl) ?_
  change am_At _ _ _ 4 [_, _, _, _] [] _ _
  refine am_aload_n dX8_setMode_4 rfl ?_
  refine am_getR 8 0 30 dX8_setMode_5 fg_X8_11 (sh_29 g) (by decide) rfl (rf_29_0 g) ?_
  refine am_iconst 1 (v := 1) dX8_setMode_8 (by decide) ?_
  refine am_iload_n dX8_setMode_9 rfl ?_
  refine am_iconst 1 (v := 1) dX8_setMode_10 (by decide) ?_
  refine am_icmp_ne (12) 23 dX8_setMode_11 rfl ?_ ?_
  · intro hc1n
    have hc1n : ¬ (x2 = (1 : Int32)) := hc1n
    replace hyp := it_neg hc1n hyp
    refine am_aload_n dX8_setMode_23 rfl ?_
    refine am_callV [] dX8_setMode_24 ml_X8_27 vm_X8_lifted (sh_29 g) rfl (fun _ => Nat.le_of_ble_eq_true rfl) (by omega) rfl (ef_X8_lifted_30 (d := d + 0) (h := h) g  (M := M) rfl) rfl ?_
    change am_At _ _ _ 27 [_, _, _, _] [_, _, _] _ _
    refine am_iload_n dX8_setMode_27 rfl ?_
    refine am_iconst (-1) (v := (-1)) dX8_setMode_28 (by decide) ?_
    refine am_ixor dX8_setMode_29 ?_
    refine am_iand dX8_setMode_30 ?_
    refine am_iast dX8_setMode_31 (am_ia.one (sh_30 g)) (am_lit rfl) ?_
    refine am_aload_n dX8_setMode_32 rfl ?_
    refine am_getR 8 0 30 dX8_setMode_33 fg_X8_11 (sh_29 g) (by decide) rfl (rf_29_0 g) ?_
    refine am_iconst 2 (v := 2) dX8_setMode_36 (by decide) ?_
    refine am_iload_n dX8_setMode_37 rfl ?_
    refine am_iconst 2 (v := 2) dX8_setMode_38 (by decide) ?_
    refine am_icmp_ne (12) 51 dX8_setMode_39 rfl ?_ ?_
    · intro hc2n
      have hc2n : ¬ (x2 = (2 : Int32)) := hc2n
      replace hyp := it_neg hc2n hyp
      refine am_aload_n dX8_setMode_51 rfl ?_
      refine am_callV [] dX8_setMode_52 ml_X8_35 vm_X8_shut (sh_29 g) rfl (fun _ => Nat.le_of_ble_eq_true rfl) (by omega) rfl (ef_X8_shut_30 (d := d + 0) (h := h) g  (M := (am_u3 M 30 0 1 ((M 30 0 1) &&& (((1 : Int32) <<< (x1 &&& 31)) ^^^ (-1 : Int32))))) rfl) rfl ?_
      change am_At _ _ _ 55 [_, _, _, _] [_, _, _] _ _
      refine am_iload_n dX8_setMode_55 rfl ?_
      refine am_iconst (-1) (v := (-1)) dX8_setMode_56 (by decide) ?_
      refine am_ixor dX8_setMode_57 ?_
      refine am_iand dX8_setMode_58 ?_
      refine am_iast dX8_setMode_59 (am_ia.one (sh_30 g)) (am_lit rfl) ?_
      cases hyp
      exact am_vret dX8_setMode_60 rfl
    · intro hc2
      have hc2 : x2 = (2 : Int32) := hc2
      replace hyp := it_pos hc2 hyp
      refine am_aload_n dX8_setMode_42 rfl ?_
      refine am_callV [] dX8_setMode_43 ml_X8_35 vm_X8_shut (sh_29 g) rfl (fun _ => Nat.le_of_ble_eq_true rfl) (by omega) rfl (ef_X8_shut_30 (d := d + 0) (h := h) g  (M := (am_u3 M 30 0 1 ((M 30 0 1) &&& (((1 : Int32) <<< (x1 &&& 31)) ^^^ (-1 : Int32))))) rfl) rfl ?_
      change am_At _ _ _ 46 [_, _, _, _] [_, _, _] _ _
      refine am_iload_n dX8_setMode_46 rfl ?_
      refine am_ior dX8_setMode_47 ?_
      refine am_goto (11) 59 dX8_setMode_48 rfl ?_
      refine am_iast dX8_setMode_59 (am_ia.one (sh_30 g)) (am_lit rfl) ?_
      cases hyp
      exact am_vret dX8_setMode_60 rfl
  · intro hc1
    have hc1 : x2 = (1 : Int32) := hc1
    replace hyp := it_pos hc1 hyp
    refine am_aload_n dX8_setMode_14 rfl ?_
    refine am_callV [] dX8_setMode_15 ml_X8_27 vm_X8_lifted (sh_29 g) rfl (fun _ => Nat.le_of_ble_eq_true rfl) (by omega) rfl (ef_X8_lifted_30 (d := d + 0) (h := h) g  (M := M) rfl) rfl ?_
    change am_At _ _ _ 18 [_, _, _, _] [_, _, _] _ _
    refine am_iload_n dX8_setMode_18 rfl ?_
    refine am_ior dX8_setMode_19 ?_
    refine am_goto (11) 31 dX8_setMode_20 rfl ?_
    refine am_iast dX8_setMode_31 (am_ia.one (sh_30 g)) (am_lit rfl) ?_
    refine am_aload_n dX8_setMode_32 rfl ?_
    refine am_getR 8 0 30 dX8_setMode_33 fg_X8_11 (sh_29 g) (by decide) rfl (rf_29_0 g) ?_
    refine am_iconst 2 (v := 2) dX8_setMode_36 (by decide) ?_
    refine am_iload_n dX8_setMode_37 rfl ?_
    refine am_iconst 2 (v := 2) dX8_setMode_38 (by decide) ?_
    refine am_icmp_ne (12) 51 dX8_setMode_39 rfl ?_ ?_
    · intro hc3n
      have hc3n : ¬ (x2 = (2 : Int32)) := hc3n
      replace hyp := it_neg hc3n hyp
      refine am_aload_n dX8_setMode_51 rfl ?_
      refine am_callV [] dX8_setMode_52 ml_X8_35 vm_X8_shut (sh_29 g) rfl (fun _ => Nat.le_of_ble_eq_true rfl) (by omega) rfl (ef_X8_shut_30 (d := d + 0) (h := h) g  (M := (am_u3 M 30 0 1 ((M 30 0 1) ||| ((1 : Int32) <<< (x1 &&& 31))))) rfl) rfl ?_
      change am_At _ _ _ 55 [_, _, _, _] [_, _, _] _ _
      refine am_iload_n dX8_setMode_55 rfl ?_
      refine am_iconst (-1) (v := (-1)) dX8_setMode_56 (by decide) ?_
      refine am_ixor dX8_setMode_57 ?_
      refine am_iand dX8_setMode_58 ?_
      refine am_iast dX8_setMode_59 (am_ia.one (sh_30 g)) (am_lit rfl) ?_
      cases hyp
      exact am_vret dX8_setMode_60 rfl
    · intro hc3
      have hc3 : x2 = (2 : Int32) := hc3
      replace hyp := it_pos hc3 hyp
      refine am_aload_n dX8_setMode_42 rfl ?_
      refine am_callV [] dX8_setMode_43 ml_X8_35 vm_X8_shut (sh_29 g) rfl (fun _ => Nat.le_of_ble_eq_true rfl) (by omega) rfl (ef_X8_shut_30 (d := d + 0) (h := h) g  (M := (am_u3 M 30 0 1 ((M 30 0 1) ||| ((1 : Int32) <<< (x1 &&& 31))))) rfl) rfl ?_
      change am_At _ _ _ 46 [_, _, _, _] [_, _, _] _ _
      refine am_iload_n dX8_setMode_46 rfl ?_
      refine am_ior dX8_setMode_47 ?_
      refine am_goto (11) 59 dX8_setMode_48 rfl ?_
      refine am_iast dX8_setMode_59 (am_ia.one (sh_30 g)) (am_lit rfl) ?_
      cases hyp
      exact am_vret dX8_setMode_60 rfl
theorem ef_X8_setMode_40 {d : Nat} {h : am_H} (g : lay h) {x1 x2 : Int32} {M : Mem} {M' : Mem} (hyp : f_X8_setMode 40 x1 x2 M = M') : am_Ev (d + 1) mX8_setMode [.inr (39, 0), am_I x1, am_I x2] (am_hM h M) (.inl (none, am_hM h M')) := by
  unfold f_X8_setMode at hyp
  refine am_Ev.mk (by decide +kernel) rfl rfl (Nat.le_refl _) (Nat.le_refl _) ?_
  change am_At _ _ _ 0 [_, _, _, _] [] _ _
  refine am_iconst 1 (v := 1) dX8_setMode_0 (by decide) ?_
  refine am_iload_n dX8_setMode_1 rfl ?_
  refine am_ishl dX8_setMode_2 ?_
  refine am_istore_n dX8_setMode_3 (am_lb rfl) ?_
  change am_At _ _ _ 4 [_, _, _, _] [] _ _
  refine am_aload_n dX8_setMode_4 rfl ?_
  refine am_getR 8 0 40 dX8_setMode_5 fg_X8_11 (sh_39 g) (by decide) rfl (rf_39_0 g) ?_
  refine am_iconst 1 (v := 1) dX8_setMode_8 (by decide) ?_
  refine am_iload_n dX8_setMode_9 rfl ?_
  refine am_iconst 1 (v := 1) dX8_setMode_10 (by decide) ?_
  refine am_icmp_ne (12) 23 dX8_setMode_11 rfl ?_ ?_
  · intro hc1n
    have hc1n : ¬ (x2 = (1 : Int32)) := hc1n
    replace hyp := it_neg hc1n hyp
    refine am_aload_n dX8_setMode_23 rfl ?_
    refine am_callV [] dX8_setMode_24 ml_X8_27 vm_X8_lifted (sh_39 g) rfl (fun _ => Nat.le_of_ble_eq_true rfl) (by omega) rfl (ef_X8_lifted_40 (d := d + 0) (h := h) g  (M := M) rfl) rfl ?_
    change am_At _ _ _ 27 [_, _, _, _] [_, _, _] _ _
    refine am_iload_n dX8_setMode_27 rfl ?_
    refine am_iconst (-1) (v := (-1)) dX8_setMode_28 (by decide) ?_
    refine am_ixor dX8_setMode_29 ?_
    refine am_iand dX8_setMode_30 ?_
    refine am_iast dX8_setMode_31 (am_ia.one (sh_40 g)) (am_lit rfl) ?_
    refine am_aload_n dX8_setMode_32 rfl ?_
    refine am_getR 8 0 40 dX8_setMode_33 fg_X8_11 (sh_39 g) (by decide) rfl (rf_39_0 g) ?_
    refine am_iconst 2 (v := 2) dX8_setMode_36 (by decide) ?_
    refine am_iload_n dX8_setMode_37 rfl ?_
    refine am_iconst 2 (v := 2) dX8_setMode_38 (by decide) ?_
    refine am_icmp_ne (12) 51 dX8_setMode_39 rfl ?_ ?_
    · intro hc2n
      have hc2n : ¬ (x2 = (2 : Int32)) := hc2n
      replace hyp := it_neg hc2n hyp
      refine am_aload_n dX8_setMode_51 rfl ?_
      refine am_callV [] dX8_setMode_52 ml_X8_35 vm_X8_shut (sh_39 g) rfl (fun _ => Nat.le_of_ble_eq_true rfl) (by omega) rfl (ef_X8_shut_40 (d := d + 0) (h := h) g  (M := (am_u3 M 40 0 1 ((M 40 0 1) &&& (((1 : Int32) <<< (x1 &&& 31)) ^^^ (-1 : Int32))))) rfl) rfl ?_
      change am_At _ _ _ 55 [_, _, _, _] [_, _, _] _ _
      refine am_iload_n dX8_setMode_55 rfl ?_
      refine am_iconst (-1) (v := (-1)) dX8_setMode_56 (by decide) ?_
      refine am_ixor dX8_setMode_57 ?_
      refine am_iand dX8_setMode_58 ?_
      refine am_iast dX8_setMode_59 (am_ia.one (sh_40 g)) (am_lit rfl) ?_
      cases hyp
      exact am_vret dX8_setMode_60 rfl
    · intro hc2
      have hc2 : x2 = (2 : Int32) := hc2
      replace hyp := it_pos hc2 hyp
      refine am_aload_n dX8_setMode_42 rfl ?_
      refine am_callV [] dX8_setMode_43 ml_X8_35 vm_X8_shut (sh_39 g) rfl (fun _ => Nat.le_of_ble_eq_true rfl) (by omega) rfl (ef_X8_shut_40 (d := d + 0) (h := h) g  (M := (am_u3 M 40 0 1 ((M 40 0 1) &&& (((1 : Int32) <<< (x1 &&& 31)) ^^^ (-1 : Int32))))) rfl) rfl ?_
      change am_At _ _ _ 46 [_, _, _, _] [_, _, _] _ _
      refine am_iload_n dX8_setMode_46 rfl ?_
      refine am_ior dX8_setMode_47 ?_
      refine am_goto (11) 59 dX8_setMode_48 rfl ?_
      refine am_iast dX8_setMode_59 (am_ia.one (sh_40 g)) (am_lit rfl) ?_
      cases hyp
      exact am_vret dX8_setMode_60 rfl
  · intro hc1
    have hc1 : x2 = (1 : Int32) := hc1
    replace hyp := it_pos hc1 hyp
    refine am_aload_n dX8_setMode_14 rfl ?_
    refine am_callV [] dX8_setMode_15 ml_X8_27 vm_X8_lifted (sh_39 g) rfl (fun _ => Nat.le_of_ble_eq_true rfl) (by omega) rfl (ef_X8_lifted_40 (d := d + 0) (h := h) g  (M := M) rfl) rfl ?_
    change am_At _ _ _ 18 [_, _, _, _] [_, _, _] _ _
    refine am_iload_n dX8_setMode_18 rfl ?_
    refine am_ior dX8_setMode_19 ?_
    refine am_goto (11) 31 dX8_setMode_20 rfl ?_
    refine am_iast dX8_setMode_31 (am_ia.one (sh_40 g)) (am_lit rfl) ?_
    refine am_aload_n dX8_setMode_32 rfl ?_
    refine am_getR 8 0 40 dX8_setMode_33 fg_X8_11 (sh_39 g) (by decide) rfl (rf_39_0 g) ?_
    refine am_iconst 2 (v := 2) dX8_setMode_36 (by decide) ?_
    refine am_iload_n dX8_setMode_37 rfl ?_
    refine am_iconst 2 (v := 2) dX8_setMode_38 (by decide) ?_
    refine am_icmp_ne (12) 51 dX8_setMode_39 rfl ?_ ?_
    · intro hc3n
      have hc3n : ¬ (x2 = (2 : Int32)) := hc3n
      replace hyp := it_neg hc3n hyp
      refine am_aload_n dX8_setMode_51 rfl ?_
      refine am_callV [] dX8_setMode_52 ml_X8_35 vm_X8_shut (sh_39 g) rfl (fun _ => Nat.le_of_ble_eq_true rfl) (by omega) rfl (ef_X8_shut_40 (d := d + 0) (h := h) g  (M := (am_u3 M 40 0 1 ((M 40 0 1) ||| ((1 : Int32) <<< (x1 &&& 31))))) rfl) rfl ?_
      change am_At _ _ _ 55 [_, _, _, _] [_, _, _] _ _
      refine am_iload_n dX8_setMode_55 rfl ?_
      refine am_iconst (-1) (v := (-1)) dX8_setMode_56 (by decide) ?_
      refine am_ixor dX8_setMode_57 ?_
      refine am_iand dX8_setMode_58 ?_
      refine am_iast dX8_setMode_59 (am_ia.one (sh_40 g)) (am_lit rfl) ?_
      cases hyp
      exact am_vret dX8_setMode_60 rfl
    · intro hc3
      have hc3 : x2 = (2 : Int32) := hc3
      replace hyp := it_pos hc3 hyp
      refine am_aload_n dX8_setMode_42 rfl ?_
      refine am_callV [] dX8_setMode_43 ml_X8_35 vm_X8_shut (sh_39 g) rfl (fun _ => Nat.le_of_ble_eq_true rfl) (by omega) rfl (ef_X8_shut_40 (d := d + 0) (h := h) g  (M := (am_u3 M 40 0 1 ((M 40 0 1) ||| ((1 : Int32) <<< (x1 &&& 31))))) rfl) rfl ?_
      change am_At _ _ _ 46 [_, _, _, _] [_, _, _] _ _
      refine am_iload_n dX8_setMode_46 rfl ?_
      refine am_ior dX8_setMode_47 ?_
      refine am_goto (11) 59 dX8_setMode_48 rfl ?_
      refine am_iast dX8_setMode_59 (am_ia.one (sh_40 g)) (am_lit rfl) ?_
      cases hyp
      exact am_vret dX8_setMode_60 rfl
theorem ef_X9_isDone_24 {d : Nat} {h : am_H} (g : lay h) (hW : h.2.2 23 0 = some 24 ∧ h.2.2 23 2 = some 25) {x3 : Int32} {M : Mem} {v : Int32} {M' : Mem} (hyp : f_X9_isDone 24 25 x3 M = some (v, M')) : am_Ev (d + 4) mX9_isDone [.inr (34, 0), .inr (29, 0), .inr (28, 0), am_I x3] (am_hM h M) (.inl (some (am_I v), am_hM h M')) := by
  unfold f_X9_isDone at hyp
  refine am_Ev.mk (by decide +kernel) rfl rfl (Nat.le_refl _) (Nat.le_refl _) ?_
  change am_At _ _ _ 0 [_, _, _, _, _] [] _ _
  refine am_aload_n dX9_isDone_0 rfl ?_
  refine am_getR 9 0 35 dX9_isDone_1 fg_X9_9 (sh_34 g) (by decide) rfl (rf_34_0 g) ?_
  refine am_iload_n dX9_isDone_4 rfl ?_
  obtain ⟨hg1, hyp⟩ := gd_some hyp
  refine am_iald dX9_isDone_5 (am_ia.one (sh_35 g)) (am_lit hg1) ?_
  refine am_iconst 3 (v := 3) dX9_isDone_6 (by decide) ?_
  refine am_icmp_ne (32) 39 dX9_isDone_7 rfl ?_ ?_
  · intro hc2n
    have hc2n : ¬ ((M 35 0 x3.toNatClampNeg) = (3 : Int32)) := hc2n
    replace hyp := it_neg hc2n hyp
    refine am_aload_n dX9_isDone_39 rfl ?_
    refine am_getR 9 0 35 dX9_isDone_40 fg_X9_9 (sh_34 g) (by decide) rfl (rf_34_0 g) ?_
    refine am_iload_n dX9_isDone_43 rfl ?_
    refine am_iald dX9_isDone_44 (am_ia.one (sh_35 g)) (am_lit hg1) ?_
    refine am_callS (c := 0) (k := 0) (n := 0) (w := 0) [_] dX9_isDone_45 ml_X9_98 sm_X9_modeBy rfl (fun _ => Nat.le_of_ble_eq_true rfl) (by omega) rfl (ef_X9_modeBy (d := d + 3) (h := am_hM h M) (x0 := (M 35 0 x3.toNatClampNeg))  rfl) rfl ?_
    change am_At _ _ _ 48 [_, _, _, _, _] [_] _ _
    refine am_istore dX9_isDone_48 (am_lb rfl) ?_
    change am_At _ _ _ 50 [_, _, _, _, _] [] _ _
    refine am_aload_n dX9_isDone_50 rfl ?_
    refine am_aload_n dX9_isDone_51 rfl ?_
    refine am_getR 9 1 36 dX9_isDone_52 fg_X9_15 (sh_34 g) (by decide) rfl (rf_34_1 g) ?_
    refine am_iload_n dX9_isDone_55 rfl ?_
    refine am_iald dX9_isDone_56 (am_ia.one (sh_36 g)) (am_lit hg1) ?_
    refine am_callV [_] dX9_isDone_57 ml_X9_102 vm_X8_modeOf (sh_29 g) rfl (fun _ => Nat.le_of_ble_eq_true rfl) (by omega) rfl (ef_X8_modeOf_30 (d := d + 2) (h := h) g (x1 := (M 36 0 x3.toNatClampNeg)) (M := M) rfl) rfl ?_
    change am_At _ _ _ 60 [_, _, _, _, _] [_] _ _
    refine am_iload dX9_isDone_60 rfl ?_
    refine am_icmp_ne (5) 67 dX9_isDone_62 rfl ?_ ?_
    · intro hc3n
      have hc3n : ¬ ((f_X8_modeOf 30 (M 36 0 x3.toNatClampNeg) M) = (f_X9_modeBy (M 35 0 x3.toNatClampNeg))) := hc3n
      replace hyp := it_neg hc3n hyp
      refine am_aload_n dX9_isDone_67 rfl ?_
      refine am_aload_n dX9_isDone_68 rfl ?_
      refine am_getR 9 1 36 dX9_isDone_69 fg_X9_15 (sh_34 g) (by decide) rfl (rf_34_1 g) ?_
      refine am_iload_n dX9_isDone_72 rfl ?_
      refine am_iald dX9_isDone_73 (am_ia.one (sh_36 g)) (am_lit hg1) ?_
      refine am_iload dX9_isDone_74 rfl ?_
      refine am_callV [_, _] dX9_isDone_76 ml_X9_105 vm_X8_setMode (sh_29 g) rfl (fun _ => Nat.le_of_ble_eq_true rfl) (by omega) rfl (ef_X8_setMode_30 (d := d + 2) (h := h) g (x1 := (M 36 0 x3.toNatClampNeg)) (x2 := (f_X9_modeBy (M 35 0 x3.toNatClampNeg))) (M := M) rfl) rfl ?_
      change am_At _ _ _ 79 [_, _, _, _, _] [] _ _
      refine am_iconst 1 (v := 1) dX9_isDone_79 (by decide) ?_
      cases hyp
      exact am_zret dX9_isDone_80 rfl rfl
    · intro hc3
      have hc3 : (f_X8_modeOf 30 (M 36 0 x3.toNatClampNeg) M) = (f_X9_modeBy (M 35 0 x3.toNatClampNeg)) := hc3
      replace hyp := it_pos hc3 hyp
      refine am_iconst 0 (v := 0) dX9_isDone_65 (by decide) ?_
      cases hyp
      exact am_zret dX9_isDone_66 rfl rfl
  · intro hc2
    have hc2 : (M 35 0 x3.toNatClampNeg) = (3 : Int32) := hc2
    replace hyp := it_pos hc2 hyp
    refine am_aload_n dX9_isDone_10 rfl ?_
    refine am_callV [] dX9_isDone_11 ml_X9_83 vm_X8_hour (sh_29 g) rfl (fun _ => Nat.le_of_ble_eq_true rfl) (by omega) rfl (ef_X8_hour_30 (d := d + 3) (h := h) g  (M := M) rfl) rfl ?_
    change am_At _ _ _ 14 [_, _, _, _, _] [_] _ _
    refine am_sipush 960 (v := 960) dX9_isDone_14 (by decide) ?_
    refine am_icmp_lt (5) 22 dX9_isDone_17 rfl ?_ ?_
    · intro hc4
      have hc4 : (M 30 0 0) < (960 : Int32) := hc4
      replace hyp := it_pos hc4 hyp
      refine am_aload_n dX9_isDone_22 rfl ?_
      refine am_aload_n dX9_isDone_23 rfl ?_
      refine am_aload_n dX9_isDone_24 rfl ?_
      refine am_aload_n dX9_isDone_25 rfl ?_
      refine am_aload_n dX9_isDone_26 rfl ?_
      refine am_callV [] dX9_isDone_27 ml_X9_83 vm_X8_hour (sh_29 g) rfl (fun _ => Nat.le_of_ble_eq_true rfl) (by omega) rfl (ef_X8_hour_30 (d := d + 3) (h := h) g  (M := M) rfl) rfl ?_
      change am_At _ _ _ 30 [_, _, _, _, _] [_, _, _, _, _] _ _
      obtain ⟨⟨v5, M5⟩, hk5, hyp⟩ := bd_some hyp
      try dsimp only at hyp
      refine am_callV [_, _] dX9_isDone_30 ml_X9_88 vm_X4_dueBits (sh_28 g) rfl (fun _ => Nat.le_of_ble_eq_true rfl) (by omega) rfl (ef_X4_dueBits_30_24 (d := d + 1) (h := h) g hW hk5) rfl ?_
      change am_At _ _ _ 33 [_, _, _, _, _] [_, _, _] _ _
      refine am_iconst 0 (v := 0) dX9_isDone_33 (by decide) ?_
      obtain ⟨M6, hk6, hyp⟩ := bd_some hyp
      try dsimp only at hyp
      refine am_callV [_, _, _] dX9_isDone_34 ml_X9_94 vm_X4_passHour (sh_28 g) rfl (fun _ => Nat.le_of_ble_eq_true rfl) (by omega) rfl (ef_X4_passHour_30 (d := d + 0) (h := h) g hk6) rfl ?_
      change am_At _ _ _ 37 [_, _, _, _, _] [] _ _
      refine am_iconst 1 (v := 1) dX9_isDone_37 (by decide) ?_
      cases hyp
      exact am_zret dX9_isDone_38 rfl rfl
    · intro hc4n
      have hc4n : ¬ ((M 30 0 0) < (960 : Int32)) := hc4n
      replace hyp := it_neg hc4n hyp
      refine am_iconst 0 (v := 0) dX9_isDone_20 (by decide) ?_
      cases hyp
      exact am_zret dX9_isDone_21 rfl rfl
theorem ef_X9_isDone_25 {d : Nat} {h : am_H} (g : lay h) (hW : h.2.2 23 0 = some 25 ∧ h.2.2 23 2 = some 24) {x3 : Int32} {M : Mem} {v : Int32} {M' : Mem} (hyp : f_X9_isDone 25 24 x3 M = some (v, M')) : am_Ev (d + 4) mX9_isDone [.inr (34, 0), .inr (29, 0), .inr (28, 0), am_I x3] (am_hM h M) (.inl (some (am_I v), am_hM h M')) := by
  unfold f_X9_isDone at hyp
  refine am_Ev.mk (by decide +kernel) rfl rfl (Nat.le_refl _) (Nat.le_refl _) ?_
  change am_At _ _ _ 0 [_, _, _, _, _] [] _ _
  refine am_aload_n dX9_isDone_0 rfl ?_
  refine am_getR 9 0 35 dX9_isDone_1 fg_X9_9 (sh_34 g) (by decide) rfl (rf_34_0 g) ?_
  refine am_iload_n dX9_isDone_4 rfl ?_
  obtain ⟨hg1, hyp⟩ := gd_some hyp
  refine am_iald dX9_isDone_5 (am_ia.one (sh_35 g)) (am_lit hg1) ?_
  refine am_iconst 3 (v := 3) dX9_isDone_6 (by decide) ?_
  refine am_icmp_ne (32) 39 dX9_isDone_7 rfl ?_ ?_
  · intro hc2n
    have hc2n : ¬ ((M 35 0 x3.toNatClampNeg) = (3 : Int32)) := hc2n
    replace hyp := it_neg hc2n hyp
    refine am_aload_n dX9_isDone_39 rfl ?_
    refine am_getR 9 0 35 dX9_isDone_40 fg_X9_9 (sh_34 g) (by decide) rfl (rf_34_0 g) ?_
    refine am_iload_n dX9_isDone_43 rfl ?_
    refine am_iald dX9_isDone_44 (am_ia.one (sh_35 g)) (am_lit hg1) ?_
    refine am_callS (c := 0) (k := 0) (n := 0) (w := 0) [_] dX9_isDone_45 ml_X9_98 sm_X9_modeBy rfl (fun _ => Nat.le_of_ble_eq_true rfl) (by omega) rfl (ef_X9_modeBy (d := d + 3) (h := am_hM h M) (x0 := (M 35 0 x3.toNatClampNeg))  rfl) rfl ?_
    change am_At _ _ _ 48 [_, _, _, _, _] [_] _ _
    refine am_istore dX9_isDone_48 (am_lb rfl) ?_
    change am_At _ _ _ 50 [_, _, _, _, _] [] _ _
    refine am_aload_n dX9_isDone_50 rfl ?_
    refine am_aload_n dX9_isDone_51 rfl ?_
    refine am_getR 9 1 36 dX9_isDone_52 fg_X9_15 (sh_34 g) (by decide) rfl (rf_34_1 g) ?_
    refine am_iload_n dX9_isDone_55 rfl ?_
    refine am_iald dX9_isDone_56 (am_ia.one (sh_36 g)) (am_lit hg1) ?_
    refine am_callV [_] dX9_isDone_57 ml_X9_102 vm_X8_modeOf (sh_29 g) rfl (fun _ => Nat.le_of_ble_eq_true rfl) (by omega) rfl (ef_X8_modeOf_30 (d := d + 2) (h := h) g (x1 := (M 36 0 x3.toNatClampNeg)) (M := M) rfl) rfl ?_
    change am_At _ _ _ 60 [_, _, _, _, _] [_] _ _
    refine am_iload dX9_isDone_60 rfl ?_
    refine am_icmp_ne (5) 67 dX9_isDone_62 rfl ?_ ?_
    · intro hc3n
      have hc3n : ¬ ((f_X8_modeOf 30 (M 36 0 x3.toNatClampNeg) M) = (f_X9_modeBy (M 35 0 x3.toNatClampNeg))) := hc3n
      replace hyp := it_neg hc3n hyp
      refine am_aload_n dX9_isDone_67 rfl ?_
      refine am_aload_n dX9_isDone_68 rfl ?_
      refine am_getR 9 1 36 dX9_isDone_69 fg_X9_15 (sh_34 g) (by decide) rfl (rf_34_1 g) ?_
      refine am_iload_n dX9_isDone_72 rfl ?_
      refine am_iald dX9_isDone_73 (am_ia.one (sh_36 g)) (am_lit hg1) ?_
      refine am_iload dX9_isDone_74 rfl ?_
      refine am_callV [_, _] dX9_isDone_76 ml_X9_105 vm_X8_setMode (sh_29 g) rfl (fun _ => Nat.le_of_ble_eq_true rfl) (by omega) rfl (ef_X8_setMode_30 (d := d + 2) (h := h) g (x1 := (M 36 0 x3.toNatClampNeg)) (x2 := (f_X9_modeBy (M 35 0 x3.toNatClampNeg))) (M := M) rfl) rfl ?_
      change am_At _ _ _ 79 [_, _, _, _, _] [] _ _
      refine am_iconst 1 (v := 1) dX9_isDone_79 (by decide) ?_
      cases hyp
      exact am_zret dX9_isDone_80 rfl rfl
    · intro hc3
      have hc3 : (f_X8_modeOf 30 (M 36 0 x3.toNatClampNeg) M) = (f_X9_modeBy (M 35 0 x3.toNatClampNeg)) := hc3
      replace hyp := it_pos hc3 hyp
      refine am_iconst 0 (v := 0) dX9_isDone_65 (by decide) ?_
      cases hyp
      exact am_zret dX9_isDone_66 rfl rfl
  · intro hc2
    have hc2 : (M 35 0 x3.toNatClampNeg) = (3 : Int32) := hc2
    replace hyp := it_pos hc2 hyp
    refine am_aload_n dX9_isDone_10 rfl ?_
    refine am_callV [] dX9_isDone_11 ml_X9_83 vm_X8_hour (sh_29 g) rfl (fun _ => Nat.le_of_ble_eq_true rfl) (by omega) rfl (ef_X8_hour_30 (d := d + 3) (h := h) g  (M := M) rfl) rfl ?_
    change am_At _ _ _ 14 [_, _, _, _, _] [_] _ _
    refine am_sipush 960 (v := 960) dX9_isDone_14 (by decide) ?_
    refine am_icmp_lt (5) 22 dX9_isDone_17 rfl ?_ ?_
    · intro hc4
      have hc4 : (M 30 0 0) < (960 : Int32) := hc4
      replace hyp := it_pos hc4 hyp
      refine am_aload_n dX9_isDone_22 rfl ?_
      refine am_aload_n dX9_isDone_23 rfl ?_
      refine am_aload_n dX9_isDone_24 rfl ?_
      refine am_aload_n dX9_isDone_25 rfl ?_
      refine am_aload_n dX9_isDone_26 rfl ?_
      refine am_callV [] dX9_isDone_27 ml_X9_83 vm_X8_hour (sh_29 g) rfl (fun _ => Nat.le_of_ble_eq_true rfl) (by omega) rfl (ef_X8_hour_30 (d := d + 3) (h := h) g  (M := M) rfl) rfl ?_
      change am_At _ _ _ 30 [_, _, _, _, _] [_, _, _, _, _] _ _
      obtain ⟨⟨v5, M5⟩, hk5, hyp⟩ := bd_some hyp
      try dsimp only at hyp
      refine am_callV [_, _] dX9_isDone_30 ml_X9_88 vm_X4_dueBits (sh_28 g) rfl (fun _ => Nat.le_of_ble_eq_true rfl) (by omega) rfl (ef_X4_dueBits_30_25 (d := d + 1) (h := h) g hW hk5) rfl ?_
      change am_At _ _ _ 33 [_, _, _, _, _] [_, _, _] _ _
      refine am_iconst 0 (v := 0) dX9_isDone_33 (by decide) ?_
      obtain ⟨M6, hk6, hyp⟩ := bd_some hyp
      try dsimp only at hyp
      refine am_callV [_, _, _] dX9_isDone_34 ml_X9_94 vm_X4_passHour (sh_28 g) rfl (fun _ => Nat.le_of_ble_eq_true rfl) (by omega) rfl (ef_X4_passHour_30 (d := d + 0) (h := h) g hk6) rfl ?_
      change am_At _ _ _ 37 [_, _, _, _, _] [] _ _
      refine am_iconst 1 (v := 1) dX9_isDone_37 (by decide) ?_
      cases hyp
      exact am_zret dX9_isDone_38 rfl rfl
    · intro hc4n
      have hc4n : ¬ ((M 30 0 0) < (960 : Int32)) := hc4n
      replace hyp := it_neg hc4n hyp
      refine am_iconst 0 (v := 0) dX9_isDone_20 (by decide) ?_
      cases hyp
      exact am_zret dX9_isDone_21 rfl rfl
theorem ef_X12_isLawfulNow_72 {d : Nat} {h : am_H} (g : lay h) {x2 : Int32} {M : Mem} {v : Int32} {M' : Mem} (hyp : f_X12_isLawfulNow 72 x2 M = some (v, M')) : am_Ev (d + 4) mX12_isLawfulNow [.inr (54, 0), .inr (72, 0), am_I x2] (am_hM h M) (.inl (some (am_I v), am_hM h M')) := by
  unfold f_X12_isLawfulNow at hyp
  refine am_Ev.mk (by decide +kernel) rfl rfl (Nat.le_refl _) (Nat.le_refl _) ?_
  change am_At _ _ _ 0 [_, _, _] [] _ _
  refine am_aload_n dX12_isLawfulNow_0 rfl ?_
  refine am_iload_n dX12_isLawfulNow_1 rfl ?_
  refine am_aload_n dX12_isLawfulNow_2 rfl ?_
  refine am_bipush 63 (v := 63) dX12_isLawfulNow_3 (by decide) ?_
  refine am_iald dX12_isLawfulNow_5 (am_ia.one (sh_72 g)) (am_lit rfl) ?_
  refine am_bipush 24 (v := 24) dX12_isLawfulNow_6 (by decide) ?_
  refine am_irem dX12_isLawfulNow_8 (by decide) ?_
  refine am_aload_n dX12_isLawfulNow_9 rfl ?_
  refine am_bipush 63 (v := 63) dX12_isLawfulNow_10 (by decide) ?_
  refine am_iald dX12_isLawfulNow_12 (am_ia.one (sh_72 g)) (am_lit rfl) ?_
  refine am_bipush 24 (v := 24) dX12_isLawfulNow_13 (by decide) ?_
  refine am_idiv dX12_isLawfulNow_15 (by decide) ?_
  refine am_aload_n dX12_isLawfulNow_16 rfl ?_
  refine am_bipush 16 (v := 16) dX12_isLawfulNow_17 (by decide) ?_
  refine am_iload_n dX12_isLawfulNow_19 rfl ?_
  refine am_iadd dX12_isLawfulNow_20 ?_
  obtain ⟨hg1, hyp⟩ := gd_some hyp
  refine am_iald dX12_isLawfulNow_21 (am_ia.one (sh_72 g)) (am_lit hg1) ?_
  obtain ⟨⟨v2, M2⟩, hk2, hyp⟩ := bd_some hyp
  try dsimp only at hyp
  refine am_callV [_, _, _, _] dX12_isLawfulNow_22 ml_X12_265 vm_X12_isLawful (sh_54 g) rfl (fun _ => Nat.le_of_ble_eq_true rfl) (by omega) rfl (ef_X12_isLawful (d := d + 0) (h := h) g hk2) rfl ?_
  change am_At _ _ _ 25 [_, _, _] [_] _ _
  obtain ⟨hg3, hyp⟩ := gd_some hyp
  cases hyp
  exact am_zret dX12_isLawfulNow_25 rfl (isb_nf hg3).1
theorem ef_X12_isLawfulNow_73 {d : Nat} {h : am_H} (g : lay h) {x2 : Int32} {M : Mem} {v : Int32} {M' : Mem} (hyp : f_X12_isLawfulNow 73 x2 M = some (v, M')) : am_Ev (d + 4) mX12_isLawfulNow [.inr (54, 0), .inr (73, 0), am_I x2] (am_hM h M) (.inl (some (am_I v), am_hM h M')) := by
  unfold f_X12_isLawfulNow at hyp
  refine am_Ev.mk (by decide +kernel) rfl rfl (Nat.le_refl _) (Nat.le_refl _) ?_
  change am_At _ _ _ 0 [_, _, _] [] _ _
  refine am_aload_n dX12_isLawfulNow_0 rfl ?_
  refine am_iload_n dX12_isLawfulNow_1 rfl ?_
  refine am_aload_n dX12_isLawfulNow_2 rfl ?_
  refine am_bipush 63 (v := 63) dX12_isLawfulNow_3 (by decide) ?_
  refine am_iald dX12_isLawfulNow_5 (am_ia.one (sh_73 g)) (am_lit rfl) ?_
  refine am_bipush 24 (v := 24) dX12_isLawfulNow_6 (by decide) ?_
  refine am_irem dX12_isLawfulNow_8 (by decide) ?_
  refine am_aload_n dX12_isLawfulNow_9 rfl ?_
  refine am_bipush 63 (v := 63) dX12_isLawfulNow_10 (by decide) ?_
  refine am_iald dX12_isLawfulNow_12 (am_ia.one (sh_73 g)) (am_lit rfl) ?_
  refine am_bipush 24 (v := 24) dX12_isLawfulNow_13 (by decide) ?_
  refine am_idiv dX12_isLawfulNow_15 (by decide) ?_
  refine am_aload_n dX12_isLawfulNow_16 rfl ?_
  refine am_bipush 16 (v := 16) dX12_isLawfulNow_17 (by decide) ?_
  refine am_iload_n dX12_isLawfulNow_19 rfl ?_
  refine am_iadd dX12_isLawfulNow_20 ?_
  obtain ⟨hg1, hyp⟩ := gd_some hyp
  refine am_iald dX12_isLawfulNow_21 (am_ia.one (sh_73 g)) (am_lit hg1) ?_
  obtain ⟨⟨v2, M2⟩, hk2, hyp⟩ := bd_some hyp
  try dsimp only at hyp
  refine am_callV [_, _, _, _] dX12_isLawfulNow_22 ml_X12_265 vm_X12_isLawful (sh_54 g) rfl (fun _ => Nat.le_of_ble_eq_true rfl) (by omega) rfl (ef_X12_isLawful (d := d + 0) (h := h) g hk2) rfl ?_
  change am_At _ _ _ 25 [_, _, _] [_] _ _
  obtain ⟨hg3, hyp⟩ := gd_some hyp
  cases hyp
  exact am_zret dX12_isLawfulNow_25 rfl (isb_nf hg3).1
theorem eL_RX9_runRow_44_24 {d : Nat} {h : am_H} (g : lay h) (hW : h.2.2 23 0 = some 24 ∧ h.2.2 23 2 = some 25) {x4 x5 : Int32} {r_X9_runRow : Int32 → Int32 → Mem → Option (Mem)} (er_X9_runRow : ∀ {x3 x4 : Int32} {M M' : Mem} , r_X9_runRow x3 x4 M = some M' → am_Ev (d + 4) mX9_runRow [.inr (34, 0), .inr (29, 0), .inr (28, 0), am_I x3, am_I x4] (am_hM h M) (.inl (none, am_hM h M'))) {r : am_R} (n : Nat) : ∀ (s : Int32 × Mem) (e : Mem), wh (L_RX9_runRow_44 24 25 r_X9_runRow x5) n s = some e → ((fun (M : Mem) => am_At am_X0 (d + 5) mX9_runRow 89 [some (.inr (34, 0)), some (.inr (29, 0)), some (.inr (28, 0)), none, some (am_I (x4)), some (am_I (x5)), none] [] (am_hM h M) r) e) → (match s with | (x6, M) => am_At am_X0 (d + 5) mX9_runRow 44 [some (.inr (34, 0)), some (.inr (29, 0)), some (.inr (28, 0)), none, some (am_I (x4)), some (am_I (x5)), some (am_I (x6))] [] (am_hM h M) r) := by
  refine am_wh (At := fun (s : Int32 × Mem) => match s with | (x6, M) => am_At am_X0 (d + 5) mX9_runRow 44 [some (.inr (34, 0)), some (.inr (29, 0)), some (.inr (28, 0)), none, some (am_I (x4)), some (am_I (x5)), some (am_I (x6))] [] (am_hM h M) r) (Ex := fun (e : Mem) => (fun (M : Mem) => am_At am_X0 (d + 5) mX9_runRow 89 [some (.inr (34, 0)), some (.inr (29, 0)), some (.inr (28, 0)), none, some (am_I (x4)), some (am_I (x5)), none] [] (am_hM h M) r) e) ?_ n
  rintro ⟨x6, M⟩ y hyp hx
  unfold L_RX9_runRow_44 at hyp
  try dsimp only at hyp
  change am_At _ _ _ 44 [_, _, _, _, _, _, _] [] _ _
  refine am_iload dX9_runRow_44 rfl ?_
  refine am_aload_n dX9_runRow_46 rfl ?_
  refine am_getR 9 1 36 dX9_runRow_47 fg_X9_15 (sh_34 g) (by decide) rfl (rf_34_1 g) ?_
  refine am_iload dX9_runRow_50 rfl ?_
  obtain ⟨hg7, hyp⟩ := gd_some hyp
  refine am_iald dX9_runRow_52 (am_ia.one (sh_36 g)) (am_lit hg7) ?_
  refine am_icmp_ge (36) 89 dX9_runRow_53 rfl ?_ ?_
  · intro hc8
    have hc8 : (M 36 0 x5.toNatClampNeg) ≤ x6 := hc8
    replace hyp := it_pos hc8 hyp
    cases hyp
    refine am_At.drop 6 ?_
    exact hx
  · intro hc8n
    have hc8n : ¬ ((M 36 0 x5.toNatClampNeg) ≤ x6) := hc8n
    replace hyp := it_neg hc8n hyp
    refine am_aload_n dX9_runRow_56 rfl ?_
    refine am_getI 9 4 dX9_runRow_57 fg_X9_66 (sh_34 g) (by decide) rfl ?_
    refine am_sipush 240 (v := 240) dX9_runRow_60 (by decide) ?_
    refine am_icmp_ge (26) 89 dX9_runRow_63 rfl ?_ ?_
    · intro hc9
      have hc9 : (240 : Int32) ≤ (M 34 0 4) := hc9
      replace hyp := it_pos hc9 hyp
      cases hyp
      refine am_At.drop 6 ?_
      exact hx
    · intro hc9n
      have hc9n : ¬ ((240 : Int32) ≤ (M 34 0 4)) := hc9n
      replace hyp := it_neg hc9n hyp
      refine am_aload_n dX9_runRow_66 rfl ?_
      refine am_aload_n dX9_runRow_67 rfl ?_
      refine am_aload_n dX9_runRow_68 rfl ?_
      refine am_iload dX9_runRow_69 rfl ?_
      refine am_iconst 1 (v := 1) dX9_runRow_71 (by decide) ?_
      refine am_iadd dX9_runRow_72 ?_
      refine am_aload_n dX9_runRow_73 rfl ?_
      refine am_getR 9 2 37 dX9_runRow_74 fg_X9_18 (sh_34 g) (by decide) rfl (rf_34_2 g) ?_
      refine am_iload dX9_runRow_77 rfl ?_
      refine am_iald dX9_runRow_79 (am_ia.one (sh_37 g)) (am_lit hg7) ?_
      obtain ⟨M10, hk10, hyp⟩ := bd_some hyp
      try dsimp only at hyp
      refine am_callV [_, _, _, _] dX9_runRow_80 ml_X9_75 vm_X9_runRow (sh_34 g) rfl (fun _ => Nat.le_of_ble_eq_true rfl) (by omega) rfl (er_X9_runRow hk10) rfl ?_
      change am_At _ _ _ 83 [_, _, _, _, _, _, _] [] _ _
      refine am_iinc dX9_runRow_83 rfl (am_ix _) ?_
      change am_At _ _ _ 86 [_, _, _, _, _, _, _] [] _ _
      refine am_goto (-42) 44 dX9_runRow_86 rfl ?_
      cases hyp
      exact hx
theorem eL_RX9_runRow_3_24 {d : Nat} {h : am_H} (g : lay h) (hW : h.2.2 23 0 = some 24 ∧ h.2.2 23 2 = some 25) {x4 : Int32} {r_X9_runRow : Int32 → Int32 → Mem → Option (Mem)} (er_X9_runRow : ∀ {x3 x4 : Int32} {M M' : Mem} , r_X9_runRow x3 x4 M = some M' → am_Ev (d + 4) mX9_runRow [.inr (34, 0), .inr (29, 0), .inr (28, 0), am_I x3, am_I x4] (am_hM h M) (.inl (none, am_hM h M'))) {r : am_R} (n : Nat) : ∀ (s : Int32 × Mem) (e : Mem), wh (L_RX9_runRow_3 24 25 r_X9_runRow x4) n s = some e → ((fun (M : Mem) => am_At am_X0 (d + 5) mX9_runRow 138 [some (.inr (34, 0)), some (.inr (29, 0)), some (.inr (28, 0)), none, some (am_I (x4)), none, none] [] (am_hM h M) r) e) → (match s with | (x5, M) => am_At am_X0 (d + 5) mX9_runRow 3 [some (.inr (34, 0)), some (.inr (29, 0)), some (.inr (28, 0)), none, some (am_I (x4)), some (am_I (x5)), none] [] (am_hM h M) r) := by
  refine am_wh (At := fun (s : Int32 × Mem) => match s with | (x5, M) => am_At am_X0 (d + 5) mX9_runRow 3 [some (.inr (34, 0)), some (.inr (29, 0)), some (.inr (28, 0)), none, some (am_I (x4)), some (am_I (x5)), none] [] (am_hM h M) r) (Ex := fun (e : Mem) => (fun (M : Mem) => am_At am_X0 (d + 5) mX9_runRow 138 [some (.inr (34, 0)), some (.inr (29, 0)), some (.inr (28, 0)), none, some (am_I (x4)), none, none] [] (am_hM h M) r) e) ?_ n
  rintro ⟨x5, M⟩ y hyp hx
  unfold L_RX9_runRow_3 at hyp
  try dsimp only at hyp
  change am_At _ _ _ 3 [_, _, _, _, _, _, _] [] _ _
  refine am_iload dX9_runRow_3 rfl ?_
  refine am_iload dX9_runRow_5 rfl ?_
  refine am_icmp_ge (131) 138 dX9_runRow_7 rfl ?_ ?_
  · intro hc1
    have hc1 : x4 ≤ x5 := hc1
    replace hyp := it_pos hc1 hyp
    cases hyp
    refine am_At.drop 5 ?_
    exact hx
  · intro hc1n
    have hc1n : ¬ (x4 ≤ x5) := hc1n
    replace hyp := it_neg hc1n hyp
    refine am_aload_n dX9_runRow_10 rfl ?_
    refine am_getI 9 4 dX9_runRow_11 fg_X9_66 (sh_34 g) (by decide) rfl ?_
    refine am_sipush 240 (v := 240) dX9_runRow_14 (by decide) ?_
    refine am_icmp_ge (121) 138 dX9_runRow_17 rfl ?_ ?_
    · intro hc2
      have hc2 : (240 : Int32) ≤ (M 34 0 4) := hc2
      replace hyp := it_pos hc2 hyp
      cases hyp
      refine am_At.drop 5 ?_
      exact hx
    · intro hc2n
      have hc2n : ¬ ((240 : Int32) ≤ (M 34 0 4)) := hc2n
      replace hyp := it_neg hc2n hyp
      refine am_aload_n dX9_runRow_20 rfl ?_
      refine am_dup dX9_runRow_21 (fun _ => rfl) ?_
      refine am_getI 9 4 dX9_runRow_22 fg_X9_66 (sh_34 g) (by decide) rfl ?_
      refine am_iconst 1 (v := 1) dX9_runRow_25 (by decide) ?_
      refine am_iadd dX9_runRow_26 ?_
      refine am_putI 9 4 dX9_runRow_27 (Or.inl fp_X9_66) (sh_34 g) (by decide) rfl rfl rfl ?_
      refine am_aload_n dX9_runRow_30 rfl ?_
      refine am_getR 9 0 35 dX9_runRow_31 fg_X9_9 (sh_34 g) (by decide) rfl (rf_34_0 g) ?_
      refine am_iload dX9_runRow_34 rfl ?_
      obtain ⟨hg3, hyp⟩ := gd_some hyp
      refine am_iald dX9_runRow_36 (am_ia.one (sh_35 g)) (am_lit hg3) ?_
      refine am_iconst 4 (v := 4) dX9_runRow_37 (by decide) ?_
      refine am_icmp_ne (54) 92 dX9_runRow_38 rfl ?_ ?_
      · intro hc4n
        have hc4n : ¬ ((M 35 0 x5.toNatClampNeg) = (4 : Int32)) := hc4n
        replace hyp := it_neg hc4n hyp
        refine am_aload_n dX9_runRow_92 rfl ?_
        refine am_aload_n dX9_runRow_93 rfl ?_
        refine am_aload_n dX9_runRow_94 rfl ?_
        refine am_iload dX9_runRow_95 rfl ?_
        obtain ⟨⟨v5, M5⟩, hk5, hyp⟩ := bd_some hyp
        try dsimp only at hyp
        refine am_callV [_, _, _] dX9_runRow_97 ml_X9_79 vm_X9_isDone (sh_34 g) rfl (fun _ => Nat.le_of_ble_eq_true rfl) (by omega) rfl (ef_X9_isDone_24 (d := d + 0) (h := h) g hW hk5) rfl ?_
        change am_At _ _ _ 100 [_, _, _, _, _, _, _] [_] _ _
        refine am_if_eq (16) 116 dX9_runRow_100 rfl ?_ ?_
        · intro hc6
          have hc6 : v5 = 0 := hc6
          replace hyp := it_pos hc6 hyp
          refine am_aload_n dX9_runRow_116 rfl ?_
          refine am_dup dX9_runRow_117 (fun _ => rfl) ?_
          refine am_getI 9 6 dX9_runRow_118 fg_X9_72 (sh_34 g) (by decide) rfl ?_
          refine am_iconst 1 (v := 1) dX9_runRow_121 (by decide) ?_
          refine am_iadd dX9_runRow_122 ?_
          refine am_putI 9 6 dX9_runRow_123 (Or.inl fp_X9_72) (sh_34 g) (by decide) rfl rfl rfl ?_
          refine am_aload_n dX9_runRow_126 rfl ?_
          refine am_getR 9 2 37 dX9_runRow_127 fg_X9_18 (sh_34 g) (by decide) rfl (rf_34_2 g) ?_
          refine am_iload dX9_runRow_130 rfl ?_
          refine am_iald dX9_runRow_132 (am_ia.one (sh_37 g)) (am_lit hg3) ?_
          refine am_istore dX9_runRow_133 (am_lb rfl) ?_
          change am_At _ _ _ 135 [_, _, _, _, _, _, _] [] _ _
          refine am_goto (-132) 3 dX9_runRow_135 rfl ?_
          cases hyp
          exact hx
        · intro hc6n
          have hc6n : ¬ (v5 = 0) := hc6n
          replace hyp := it_neg hc6n hyp
          refine am_aload_n dX9_runRow_103 rfl ?_
          refine am_dup dX9_runRow_104 (fun _ => rfl) ?_
          refine am_getI 9 5 dX9_runRow_105 fg_X9_69 (sh_34 g) (by decide) rfl ?_
          refine am_iconst 1 (v := 1) dX9_runRow_108 (by decide) ?_
          refine am_iadd dX9_runRow_109 ?_
          refine am_putI 9 5 dX9_runRow_110 (Or.inl fp_X9_69) (sh_34 g) (by decide) rfl rfl rfl ?_
          refine am_goto (13) 126 dX9_runRow_113 rfl ?_
          refine am_aload_n dX9_runRow_126 rfl ?_
          refine am_getR 9 2 37 dX9_runRow_127 fg_X9_18 (sh_34 g) (by decide) rfl (rf_34_2 g) ?_
          refine am_iload dX9_runRow_130 rfl ?_
          refine am_iald dX9_runRow_132 (am_ia.one (sh_37 g)) (am_lit hg3) ?_
          refine am_istore dX9_runRow_133 (am_lb rfl) ?_
          change am_At _ _ _ 135 [_, _, _, _, _, _, _] [] _ _
          refine am_goto (-132) 3 dX9_runRow_135 rfl ?_
          cases hyp
          exact hx
      · intro hc4
        have hc4 : (M 35 0 x5.toNatClampNeg) = (4 : Int32) := hc4
        replace hyp := it_pos hc4 hyp
        refine am_iconst 0 (v := 0) dX9_runRow_41 (by decide) ?_
        refine am_istore dX9_runRow_42 (am_lb rfl) ?_
        change am_At _ _ _ 44 [_, _, _, _, _, _, _] [] _ _
        obtain ⟨M11, hw11, hyp⟩ := bd_some hyp
        try dsimp only at hyp
        refine eL_RX9_runRow_44_24 (d := d) (h := h) g hW er_X9_runRow  FU ((0 : Int32), (am_u3 M 34 0 4 ((M 34 0 4) + (1 : Int32)))) M11 hw11 ?_
        change am_At _ _ _ 89 [_, _, _, _, _, _, _] [] _ _
        refine am_goto (37) 126 dX9_runRow_89 rfl ?_
        refine am_aload_n dX9_runRow_126 rfl ?_
        refine am_getR 9 2 37 dX9_runRow_127 fg_X9_18 (sh_34 g) (by decide) rfl (rf_34_2 g) ?_
        refine am_iload dX9_runRow_130 rfl ?_
        refine am_iald dX9_runRow_132 (am_ia.one (sh_37 g)) (am_lit hg3) ?_
        refine am_istore dX9_runRow_133 (am_lb rfl) ?_
        change am_At _ _ _ 135 [_, _, _, _, _, _, _] [] _ _
        refine am_goto (-132) 3 dX9_runRow_135 rfl ?_
        cases hyp
        exact hx
theorem ef_RX9_runRow_24 {d : Nat} {h : am_H} (g : lay h) (hW : h.2.2 23 0 = some 24 ∧ h.2.2 23 2 = some 25) {x3 x4 : Int32} {r_X9_runRow : Int32 → Int32 → Mem → Option (Mem)} (er_X9_runRow : ∀ {x3 x4 : Int32} {M M' : Mem} , r_X9_runRow x3 x4 M = some M' → am_Ev (d + 4) mX9_runRow [.inr (34, 0), .inr (29, 0), .inr (28, 0), am_I x3, am_I x4] (am_hM h M) (.inl (none, am_hM h M'))) {M : Mem} {M' : Mem} (hyp : f_RX9_runRow 24 25 r_X9_runRow x3 x4 M = some M') : am_Ev (d + 5) mX9_runRow [.inr (34, 0), .inr (29, 0), .inr (28, 0), am_I x3, am_I x4] (am_hM h M) (.inl (none, am_hM h M')) := by
  unfold f_RX9_runRow at hyp
  refine am_Ev.mk (by decide +kernel) rfl rfl (Nat.le_refl _) (Nat.le_refl _) ?_
  change am_At _ _ _ 0 [_, _, _, _, _, _, _] [] _ _
  refine am_iload_n dX9_runRow_0 rfl ?_
  refine am_istore dX9_runRow_1 (am_lb rfl) ?_
  change am_At _ _ _ 3 [_, _, _, _, _, _, _] [] _ _
  obtain ⟨M12, hw12, hyp⟩ := bd_some hyp
  refine am_At.drop 3 ?_
  try dsimp only at hyp
  refine eL_RX9_runRow_3_24 (d := d) (h := h) g hW er_X9_runRow  FU (x3, M) M12 hw12 ?_
  change am_At _ _ _ 138 [_, _, _, _, _, _, _] [] _ _
  cases hyp
  exact am_vret dX9_runRow_138 rfl
theorem eL_RX9_runRow_44_25 {d : Nat} {h : am_H} (g : lay h) (hW : h.2.2 23 0 = some 25 ∧ h.2.2 23 2 = some 24) {x4 x5 : Int32} {r_X9_runRow : Int32 → Int32 → Mem → Option (Mem)} (er_X9_runRow : ∀ {x3 x4 : Int32} {M M' : Mem} , r_X9_runRow x3 x4 M = some M' → am_Ev (d + 4) mX9_runRow [.inr (34, 0), .inr (29, 0), .inr (28, 0), am_I x3, am_I x4] (am_hM h M) (.inl (none, am_hM h M'))) {r : am_R} (n : Nat) : ∀ (s : Int32 × Mem) (e : Mem), wh (L_RX9_runRow_44 25 24 r_X9_runRow x5) n s = some e → ((fun (M : Mem) => am_At am_X0 (d + 5) mX9_runRow 89 [some (.inr (34, 0)), some (.inr (29, 0)), some (.inr (28, 0)), none, some (am_I (x4)), some (am_I (x5)), none] [] (am_hM h M) r) e) → (match s with | (x6, M) => am_At am_X0 (d + 5) mX9_runRow 44 [some (.inr (34, 0)), some (.inr (29, 0)), some (.inr (28, 0)), none, some (am_I (x4)), some (am_I (x5)), some (am_I (x6))] [] (am_hM h M) r) := by
  refine am_wh (At := fun (s : Int32 × Mem) => match s with | (x6, M) => am_At am_X0 (d + 5) mX9_runRow 44 [some (.inr (34, 0)), some (.inr (29, 0)), some (.inr (28, 0)), none, some (am_I (x4)), some (am_I (x5)), some (am_I (x6))] [] (am_hM h M) r) (Ex := fun (e : Mem) => (fun (M : Mem) => am_At am_X0 (d + 5) mX9_runRow 89 [some (.inr (34, 0)), some (.inr (29, 0)), some (.inr (28, 0)), none, some (am_I (x4)), some (am_I (x5)), none] [] (am_hM h M) r) e) ?_ n
  rintro ⟨x6, M⟩ y hyp hx
  unfold L_RX9_runRow_44 at hyp
  try dsimp only at hyp
  change am_At _ _ _ 44 [_, _, _, _, _, _, _] [] _ _
  refine am_iload dX9_runRow_44 rfl ?_
  refine am_aload_n dX9_runRow_46 rfl ?_
  refine am_getR 9 1 36 dX9_runRow_47 fg_X9_15 (sh_34 g) (by decide) rfl (rf_34_1 g) ?_
  refine am_iload dX9_runRow_50 rfl ?_
  obtain ⟨hg7, hyp⟩ := gd_some hyp
  refine am_iald dX9_runRow_52 (am_ia.one (sh_36 g)) (am_lit hg7) ?_
  refine am_icmp_ge (36) 89 dX9_runRow_53 rfl ?_ ?_
  · intro hc8
    have hc8 : (M 36 0 x5.toNatClampNeg) ≤ x6 := hc8
    replace hyp := it_pos hc8 hyp
    cases hyp
    refine am_At.drop 6 ?_
    exact hx
  · intro hc8n
    have hc8n : ¬ ((M 36 0 x5.toNatClampNeg) ≤ x6) := hc8n
    replace hyp := it_neg hc8n hyp
    refine am_aload_n dX9_runRow_56 rfl ?_
    refine am_getI 9 4 dX9_runRow_57 fg_X9_66 (sh_34 g) (by decide) rfl ?_
    refine am_sipush 240 (v := 240) dX9_runRow_60 (by decide) ?_
    refine am_icmp_ge (26) 89 dX9_runRow_63 rfl ?_ ?_
    · intro hc9
      have hc9 : (240 : Int32) ≤ (M 34 0 4) := hc9
      replace hyp := it_pos hc9 hyp
      cases hyp
      refine am_At.drop 6 ?_
      exact hx
    · intro hc9n
      have hc9n : ¬ ((240 : Int32) ≤ (M 34 0 4)) := hc9n
      replace hyp := it_neg hc9n hyp
      refine am_aload_n dX9_runRow_66 rfl ?_
      refine am_aload_n dX9_runRow_67 rfl ?_
      refine am_aload_n dX9_runRow_68 rfl ?_
      refine am_iload dX9_runRow_69 rfl ?_
      refine am_iconst 1 (v := 1) dX9_runRow_71 (by decide) ?_
      refine am_iadd dX9_runRow_72 ?_
      refine am_aload_n dX9_runRow_73 rfl ?_
      refine am_getR 9 2 37 dX9_runRow_74 fg_X9_18 (sh_34 g) (by decide) rfl (rf_34_2 g) ?_
      refine am_iload dX9_runRow_77 rfl ?_
      refine am_iald dX9_runRow_79 (am_ia.one (sh_37 g)) (am_lit hg7) ?_
      obtain ⟨M10, hk10, hyp⟩ := bd_some hyp
      try dsimp only at hyp
      refine am_callV [_, _, _, _] dX9_runRow_80 ml_X9_75 vm_X9_runRow (sh_34 g) rfl (fun _ => Nat.le_of_ble_eq_true rfl) (by omega) rfl (er_X9_runRow hk10) rfl ?_
      change am_At _ _ _ 83 [_, _, _, _, _, _, _] [] _ _
      refine am_iinc dX9_runRow_83 rfl (am_ix _) ?_
      change am_At _ _ _ 86 [_, _, _, _, _, _, _] [] _ _
      refine am_goto (-42) 44 dX9_runRow_86 rfl ?_
      cases hyp
      exact hx
theorem eL_RX9_runRow_3_25 {d : Nat} {h : am_H} (g : lay h) (hW : h.2.2 23 0 = some 25 ∧ h.2.2 23 2 = some 24) {x4 : Int32} {r_X9_runRow : Int32 → Int32 → Mem → Option (Mem)} (er_X9_runRow : ∀ {x3 x4 : Int32} {M M' : Mem} , r_X9_runRow x3 x4 M = some M' → am_Ev (d + 4) mX9_runRow [.inr (34, 0), .inr (29, 0), .inr (28, 0), am_I x3, am_I x4] (am_hM h M) (.inl (none, am_hM h M'))) {r : am_R} (n : Nat) : ∀ (s : Int32 × Mem) (e : Mem), wh (L_RX9_runRow_3 25 24 r_X9_runRow x4) n s = some e → ((fun (M : Mem) => am_At am_X0 (d + 5) mX9_runRow 138 [some (.inr (34, 0)), some (.inr (29, 0)), some (.inr (28, 0)), none, some (am_I (x4)), none, none] [] (am_hM h M) r) e) → (match s with | (x5, M) => am_At am_X0 (d + 5) mX9_runRow 3 [some (.inr (34, 0)), some (.inr (29, 0)), some (.inr (28, 0)), none, some (am_I (x4)), some (am_I (x5)), none] [] (am_hM h M) r) := by
  refine am_wh (At := fun (s : Int32 × Mem) => match s with | (x5, M) => am_At am_X0 (d + 5) mX9_runRow 3 [some (.inr (34, 0)), some (.inr (29, 0)), some (.inr (28, 0)), none, some (am_I (x4)), some (am_I (x5)), none] [] (am_hM h M) r) (Ex := fun (e : Mem) => (fun (M : Mem) => am_At am_X0 (d + 5) mX9_runRow 138 [some (.inr (34, 0)), some (.inr (29, 0)), some (.inr (28, 0)), none, some (am_I (x4)), none, none] [] (am_hM h M) r) e) ?_ n
  rintro ⟨x5, M⟩ y hyp hx
  unfold L_RX9_runRow_3 at hyp
  try dsimp only at hyp
  change am_At _ _ _ 3 [_, _, _, _, _, _, _] [] _ _
  refine am_iload dX9_runRow_3 rfl ?_
  refine am_iload dX9_runRow_5 rfl ?_
  refine am_icmp_ge (131) 138 dX9_runRow_7 rfl ?_ ?_
  · intro hc1
    have hc1 : x4 ≤ x5 := hc1
    replace hyp := it_pos hc1 hyp
    cases hyp
    refine am_At.drop 5 ?_
    exact hx
  · intro hc1n
    have hc1n : ¬ (x4 ≤ x5) := hc1n
    replace hyp := it_neg hc1n hyp
    refine am_aload_n dX9_runRow_10 rfl ?_
    refine am_getI 9 4 dX9_runRow_11 fg_X9_66 (sh_34 g) (by decide) rfl ?_
    refine am_sipush 240 (v := 240) dX9_runRow_14 (by decide) ?_
    refine am_icmp_ge (121) 138 dX9_runRow_17 rfl ?_ ?_
    · intro hc2
      have hc2 : (240 : Int32) ≤ (M 34 0 4) := hc2
      replace hyp := it_pos hc2 hyp
      cases hyp
      refine am_At.drop 5 ?_
      exact hx
    · intro hc2n
      have hc2n : ¬ ((240 : Int32) ≤ (M 34 0 4)) := hc2n
      replace hyp := it_neg hc2n hyp
      refine am_aload_n dX9_runRow_20 rfl ?_
      refine am_dup dX9_runRow_21 (fun _ => rfl) ?_
      refine am_getI 9 4 dX9_runRow_22 fg_X9_66 (sh_34 g) (by decide) rfl ?_
      refine am_iconst 1 (v := 1) dX9_runRow_25 (by decide) ?_
      refine am_iadd dX9_runRow_26 ?_
      refine am_putI 9 4 dX9_runRow_27 (Or.inl fp_X9_66) (sh_34 g) (by decide) rfl rfl rfl ?_
      refine am_aload_n dX9_runRow_30 rfl ?_
      refine am_getR 9 0 35 dX9_runRow_31 fg_X9_9 (sh_34 g) (by decide) rfl (rf_34_0 g) ?_
      refine am_iload dX9_runRow_34 rfl ?_
      obtain ⟨hg3, hyp⟩ := gd_some hyp
      refine am_iald dX9_runRow_36 (am_ia.one (sh_35 g)) (am_lit hg3) ?_
      refine am_iconst 4 (v := 4) dX9_runRow_37 (by decide) ?_
      refine am_icmp_ne (54) 92 dX9_runRow_38 rfl ?_ ?_
      · intro hc4n
        have hc4n : ¬ ((M 35 0 x5.toNatClampNeg) = (4 : Int32)) := hc4n
        replace hyp := it_neg hc4n hyp
        refine am_aload_n dX9_runRow_92 rfl ?_
        refine am_aload_n dX9_runRow_93 rfl ?_
        refine am_aload_n dX9_runRow_94 rfl ?_
        refine am_iload dX9_runRow_95 rfl ?_
        obtain ⟨⟨v5, M5⟩, hk5, hyp⟩ := bd_some hyp
        try dsimp only at hyp
        refine am_callV [_, _, _] dX9_runRow_97 ml_X9_79 vm_X9_isDone (sh_34 g) rfl (fun _ => Nat.le_of_ble_eq_true rfl) (by omega) rfl (ef_X9_isDone_25 (d := d + 0) (h := h) g hW hk5) rfl ?_
        change am_At _ _ _ 100 [_, _, _, _, _, _, _] [_] _ _
        refine am_if_eq (16) 116 dX9_runRow_100 rfl ?_ ?_
        · intro hc6
          have hc6 : v5 = 0 := hc6
          replace hyp := it_pos hc6 hyp
          refine am_aload_n dX9_runRow_116 rfl ?_
          refine am_dup dX9_runRow_117 (fun _ => rfl) ?_
          refine am_getI 9 6 dX9_runRow_118 fg_X9_72 (sh_34 g) (by decide) rfl ?_
          refine am_iconst 1 (v := 1) dX9_runRow_121 (by decide) ?_
          refine am_iadd dX9_runRow_122 ?_
          refine am_putI 9 6 dX9_runRow_123 (Or.inl fp_X9_72) (sh_34 g) (by decide) rfl rfl rfl ?_
          refine am_aload_n dX9_runRow_126 rfl ?_
          refine am_getR 9 2 37 dX9_runRow_127 fg_X9_18 (sh_34 g) (by decide) rfl (rf_34_2 g) ?_
          refine am_iload dX9_runRow_130 rfl ?_
          refine am_iald dX9_runRow_132 (am_ia.one (sh_37 g)) (am_lit hg3) ?_
          refine am_istore dX9_runRow_133 (am_lb rfl) ?_
          change am_At _ _ _ 135 [_, _, _, _, _, _, _] [] _ _
          refine am_goto (-132) 3 dX9_runRow_135 rfl ?_
          cases hyp
          exact hx
        · intro hc6n
          have hc6n : ¬ (v5 = 0) := hc6n
          replace hyp := it_neg hc6n hyp
          refine am_aload_n dX9_runRow_103 rfl ?_
          refine am_dup dX9_runRow_104 (fun _ => rfl) ?_
          refine am_getI 9 5 dX9_runRow_105 fg_X9_69 (sh_34 g) (by decide) rfl ?_
          refine am_iconst 1 (v := 1) dX9_runRow_108 (by decide) ?_
          refine am_iadd dX9_runRow_109 ?_
          refine am_putI 9 5 dX9_runRow_110 (Or.inl fp_X9_69) (sh_34 g) (by decide) rfl rfl rfl ?_
          refine am_goto (13) 126 dX9_runRow_113 rfl ?_
          refine am_aload_n dX9_runRow_126 rfl ?_
          refine am_getR 9 2 37 dX9_runRow_127 fg_X9_18 (sh_34 g) (by decide) rfl (rf_34_2 g) ?_
          refine am_iload dX9_runRow_130 rfl ?_
          refine am_iald dX9_runRow_132 (am_ia.one (sh_37 g)) (am_lit hg3) ?_
          refine am_istore dX9_runRow_133 (am_lb rfl) ?_
          change am_At _ _ _ 135 [_, _, _, _, _, _, _] [] _ _
          refine am_goto (-132) 3 dX9_runRow_135 rfl ?_
          cases hyp
          exact hx
      · intro hc4
        have hc4 : (M 35 0 x5.toNatClampNeg) = (4 : Int32) := hc4
        replace hyp := it_pos hc4 hyp
        refine am_iconst 0 (v := 0) dX9_runRow_41 (by decide) ?_
        refine am_istore dX9_runRow_42 (am_lb rfl) ?_
        change am_At _ _ _ 44 [_, _, _, _, _, _, _] [] _ _
        obtain ⟨M11, hw11, hyp⟩ := bd_some hyp
        try dsimp only at hyp
        refine eL_RX9_runRow_44_25 (d := d) (h := h) g hW er_X9_runRow  FU ((0 : Int32), (am_u3 M 34 0 4 ((M 34 0 4) + (1 : Int32)))) M11 hw11 ?_
        change am_At _ _ _ 89 [_, _, _, _, _, _, _] [] _ _
        refine am_goto (37) 126 dX9_runRow_89 rfl ?_
        refine am_aload_n dX9_runRow_126 rfl ?_
        refine am_getR 9 2 37 dX9_runRow_127 fg_X9_18 (sh_34 g) (by decide) rfl (rf_34_2 g) ?_
        refine am_iload dX9_runRow_130 rfl ?_
        refine am_iald dX9_runRow_132 (am_ia.one (sh_37 g)) (am_lit hg3) ?_
        refine am_istore dX9_runRow_133 (am_lb rfl) ?_
        change am_At _ _ _ 135 [_, _, _, _, _, _, _] [] _ _
        refine am_goto (-132) 3 dX9_runRow_135 rfl ?_
        cases hyp
        exact hx
theorem ef_RX9_runRow_25 {d : Nat} {h : am_H} (g : lay h) (hW : h.2.2 23 0 = some 25 ∧ h.2.2 23 2 = some 24) {x3 x4 : Int32} {r_X9_runRow : Int32 → Int32 → Mem → Option (Mem)} (er_X9_runRow : ∀ {x3 x4 : Int32} {M M' : Mem} , r_X9_runRow x3 x4 M = some M' → am_Ev (d + 4) mX9_runRow [.inr (34, 0), .inr (29, 0), .inr (28, 0), am_I x3, am_I x4] (am_hM h M) (.inl (none, am_hM h M'))) {M : Mem} {M' : Mem} (hyp : f_RX9_runRow 25 24 r_X9_runRow x3 x4 M = some M') : am_Ev (d + 5) mX9_runRow [.inr (34, 0), .inr (29, 0), .inr (28, 0), am_I x3, am_I x4] (am_hM h M) (.inl (none, am_hM h M')) := by
  unfold f_RX9_runRow at hyp
  refine am_Ev.mk (by decide +kernel) rfl rfl (Nat.le_refl _) (Nat.le_refl _) ?_
  change am_At _ _ _ 0 [_, _, _, _, _, _, _] [] _ _
  refine am_iload_n dX9_runRow_0 rfl ?_
  refine am_istore dX9_runRow_1 (am_lb rfl) ?_
  change am_At _ _ _ 3 [_, _, _, _, _, _, _] [] _ _
  obtain ⟨M12, hw12, hyp⟩ := bd_some hyp
  refine am_At.drop 3 ?_
  try dsimp only at hyp
  refine eL_RX9_runRow_3_25 (d := d) (h := h) g hW er_X9_runRow  FU (x3, M) M12 hw12 ?_
  change am_At _ _ _ 138 [_, _, _, _, _, _, _] [] _ _
  cases hyp
  exact am_vret dX9_runRow_138 rfl
theorem erec_runRow_24 {d : Nat} {h : am_H} (g : lay h) (hW : h.2.2 23 0 = some 24 ∧ h.2.2 23 2 = some 25) : ∀ (n : Nat), (∀ {x3 x4 : Int32} {M M' : Mem} , (rec_runRow 24 25 n) x3 x4 M = some M' → am_Ev (d + n + 4) mX9_runRow [.inr (34, 0), .inr (29, 0), .inr (28, 0), am_I x3, am_I x4] (am_hM h M) (.inl (none, am_hM h M')))
  | 0 => (fun hyp => nomatch hyp)
  | n + 1 => (fun hyp => by
      rw [show d + (n + 1) + 4 = d + n + 5 by omega]
      exact ef_RX9_runRow_24 (d := d + n) g hW (erec_runRow_24 g hW n) hyp)
theorem erec_runRow_25 {d : Nat} {h : am_H} (g : lay h) (hW : h.2.2 23 0 = some 25 ∧ h.2.2 23 2 = some 24) : ∀ (n : Nat), (∀ {x3 x4 : Int32} {M M' : Mem} , (rec_runRow 25 24 n) x3 x4 M = some M' → am_Ev (d + n + 4) mX9_runRow [.inr (34, 0), .inr (29, 0), .inr (28, 0), am_I x3, am_I x4] (am_hM h M) (.inl (none, am_hM h M')))
  | 0 => (fun hyp => nomatch hyp)
  | n + 1 => (fun hyp => by
      rw [show d + (n + 1) + 4 = d + n + 5 by omega]
      exact ef_RX9_runRow_25 (d := d + n) g hW (erec_runRow_25 g hW n) hyp)
theorem ef_X9_runRow_24 {d : Nat} {h : am_H} (g : lay h) (hW : h.2.2 23 0 = some 24 ∧ h.2.2 23 2 = some 25) : ∀ {x3 x4 : Int32} {M M' : Mem} , f_X9_runRow 24 25 x3 x4 M = some M' → am_Ev (d + 34) mX9_runRow [.inr (34, 0), .inr (29, 0), .inr (28, 0), am_I x3, am_I x4] (am_hM h M) (.inl (none, am_hM h M')) := fun hyp => (erec_runRow_24 (d := d) g hW 30) hyp
theorem ef_X9_runRow_25 {d : Nat} {h : am_H} (g : lay h) (hW : h.2.2 23 0 = some 25 ∧ h.2.2 23 2 = some 24) : ∀ {x3 x4 : Int32} {M M' : Mem} , f_X9_runRow 25 24 x3 x4 M = some M' → am_Ev (d + 34) mX9_runRow [.inr (34, 0), .inr (29, 0), .inr (28, 0), am_I x3, am_I x4] (am_hM h M) (.inl (none, am_hM h M')) := fun hyp => (erec_runRow_25 (d := d) g hW 30) hyp
theorem eL_RX3_readSum_8_24 {d : Nat} {h : am_H} (g : lay h) (hW : h.2.2 23 0 = some 24 ∧ h.2.2 23 2 = some 25) {x2 : Int32} {r_X3_readSum : Int32 → Mem → Option (Mem)} (er_X3_readSum : ∀ {x2 : Int32} {M M' : Mem} , r_X3_readSum x2 M = some M' → am_Ev (d + 5) mX3_readSum [.inr (23, 0), .inr (1, 0), am_I x2] (am_hM h M) (.inl (none, am_hM h M'))) {r_X3_readProduct : Int32 → Mem → Option (Mem)} (er_X3_readProduct : ∀ {x2 : Int32} {M M' : Mem} , r_X3_readProduct x2 M = some M' → am_Ev (d + 5) mX3_readProduct [.inr (23, 0), .inr (1, 0), am_I x2] (am_hM h M) (.inl (none, am_hM h M'))) {r_X3_readUnit : Int32 → Mem → Option (Mem)} (er_X3_readUnit : ∀ {x2 : Int32} {M M' : Mem} , r_X3_readUnit x2 M = some M' → am_Ev (d + 5) mX3_readUnit [.inr (23, 0), .inr (1, 0), am_I x2] (am_hM h M) (.inl (none, am_hM h M'))) {r : am_R} (n : Nat) : ∀ (s : Int32 × Mem) (e : (Mem) ⊕ (Mem)), wh (L_RX3_readSum_8 24 25 r_X3_readProduct x2) n s = some e → (match e with | (Sum.inl M) => am_At am_X0 (d + 6) mX3_readSum 36 [some (.inr (23, 0)), some (.inr (1, 0)), some (am_I (x2)), none, none] [] (am_hM h M) r | (Sum.inr M) => am_At am_X0 (d + 6) mX3_readSum 58 [some (.inr (23, 0)), some (.inr (1, 0)), some (am_I (x2)), none, none] [] (am_hM h M) r) → (match s with | (x3, M) => am_At am_X0 (d + 6) mX3_readSum 8 [some (.inr (23, 0)), some (.inr (1, 0)), some (am_I (x2)), some (am_I (x3)), none] [] (am_hM h M) r) := by
  refine am_wh (At := fun (s : Int32 × Mem) => match s with | (x3, M) => am_At am_X0 (d + 6) mX3_readSum 8 [some (.inr (23, 0)), some (.inr (1, 0)), some (am_I (x2)), some (am_I (x3)), none] [] (am_hM h M) r) (Ex := fun (e : (Mem) ⊕ (Mem)) => match e with | (Sum.inl M) => am_At am_X0 (d + 6) mX3_readSum 36 [some (.inr (23, 0)), some (.inr (1, 0)), some (am_I (x2)), none, none] [] (am_hM h M) r | (Sum.inr M) => am_At am_X0 (d + 6) mX3_readSum 58 [some (.inr (23, 0)), some (.inr (1, 0)), some (am_I (x2)), none, none] [] (am_hM h M) r) ?_ n
  rintro ⟨x3, M⟩ y hyp hx
  unfold L_RX3_readSum_8 at hyp
  try dsimp only at hyp
  change am_At _ _ _ 8 [_, _, _, _, _] [] _ _
  refine am_iload_n dX3_readSum_8 rfl ?_
  refine am_sipush 150 (v := 150) dX3_readSum_9 (by decide) ?_
  refine am_icmp_ge (46) 58 dX3_readSum_12 rfl ?_ ?_
  · intro hc2
    have hc2 : (150 : Int32) ≤ x3 := hc2
    replace hyp := it_pos hc2 hyp
    cases hyp
    refine am_At.drop 3 ?_
    exact hx
  · intro hc2n
    have hc2n : ¬ ((150 : Int32) ≤ x3) := hc2n
    replace hyp := it_neg hc2n hyp
    refine am_aload_n dX3_readSum_15 rfl ?_
    refine am_callV [] dX3_readSum_16 ml_X3_47 vm_X10_isFaulty (sh_1 g) rfl (fun _ => Nat.le_of_ble_eq_true rfl) (by omega) rfl (ef_X10_isFaulty (d := d + 5) (h := h) g  (M := M) rfl) rfl ?_
    change am_At _ _ _ 19 [_, _, _, _, _] [_] _ _
    refine am_if_ne (39) 58 dX3_readSum_19 rfl ?_ ?_
    · intro hc3n
      have hc3n : ¬ ((f_X10_isFaulty M) = 0) := hc3n
      replace hyp := it_neg hc3n hyp
      cases hyp
      refine am_At.drop 3 ?_
      exact hx
    · intro hc3
      have hc3 : (f_X10_isFaulty M) = 0 := hc3
      replace hyp := it_pos hc3 hyp
      refine am_aload_n dX3_readSum_22 rfl ?_
      refine am_ldcS (k9 := 1) (text := "+-") dX3_readSum_23 (by decide) ?_
      obtain ⟨⟨v4, M4⟩, hk4, hyp⟩ := bd_some hyp
      try dsimp only at hyp
      refine am_callV [_] dX3_readSum_25 ml_X3_63 vm_X10_takeOneOf (sh_1 g) rfl (fun _ => Nat.le_of_ble_eq_true rfl) (by omega) rfl (ef_X10_takeOneOf (d := d + 1) (h := h) g (k1 := 1) (by decide)  hk4) rfl ?_
      change am_At _ _ _ 28 [_, _, _, _, _] [_] _ _
      refine am_istore dX3_readSum_28 (am_lb rfl) ?_
      change am_At _ _ _ 30 [_, _, _, _, _] [] _ _
      refine am_iload dX3_readSum_30 rfl ?_
      refine am_iconst (-1) (v := (-1)) dX3_readSum_32 (by decide) ?_
      refine am_icmp_ne (4) 37 dX3_readSum_33 rfl ?_ ?_
      · intro hc5n
        have hc5n : ¬ (v4 = (-1 : Int32)) := hc5n
        replace hyp := it_neg hc5n hyp
        refine am_aload_n dX3_readSum_37 rfl ?_
        refine am_aload_n dX3_readSum_38 rfl ?_
        refine am_iload_n dX3_readSum_39 rfl ?_
        obtain ⟨M6, hk6, hyp⟩ := bd_some hyp
        try dsimp only at hyp
        refine am_callV [_, _] dX3_readSum_40 ml_X3_58 vm_X3_readProduct (sh_23 g) rfl (fun _ => Nat.le_of_ble_eq_true rfl) (by omega) rfl (er_X3_readProduct hk6) rfl ?_
        change am_At _ _ _ 43 [_, _, _, _, _] [] _ _
        refine am_aload_n dX3_readSum_43 rfl ?_
        refine am_bipush 10 (v := 10) dX3_readSum_44 (by decide) ?_
        refine am_iload dX3_readSum_46 rfl ?_
        refine am_iadd dX3_readSum_48 ?_
        obtain ⟨M7, hk7, hyp⟩ := bd_some hyp
        try dsimp only at hyp
        refine am_callV [_] dX3_readSum_49 ml_X3_31 vm_X3_add (sh_23 g) rfl (fun _ => Nat.le_of_ble_eq_true rfl) (by omega) rfl (ef_X3_add_24 (d := d + 5) (h := h) g hW hk7) rfl ?_
        change am_At _ _ _ 52 [_, _, _, _, _] [] _ _
        refine am_iinc dX3_readSum_52 rfl (am_ix _) ?_
        change am_At _ _ _ 55 [_, _, _, _, _] [] _ _
        refine am_goto (-47) 8 dX3_readSum_55 rfl ?_
        cases hyp
        refine am_At.drop 4 ?_
        exact hx
      · intro hc5
        have hc5 : v4 = (-1 : Int32) := hc5
        replace hyp := it_pos hc5 hyp
        cases hyp
        refine am_At.drop 3 ?_
        refine am_At.drop 4 ?_
        exact hx
theorem ef_RX3_readSum_24 {d : Nat} {h : am_H} (g : lay h) (hW : h.2.2 23 0 = some 24 ∧ h.2.2 23 2 = some 25) {x2 : Int32} {r_X3_readSum : Int32 → Mem → Option (Mem)} (er_X3_readSum : ∀ {x2 : Int32} {M M' : Mem} , r_X3_readSum x2 M = some M' → am_Ev (d + 5) mX3_readSum [.inr (23, 0), .inr (1, 0), am_I x2] (am_hM h M) (.inl (none, am_hM h M'))) {r_X3_readProduct : Int32 → Mem → Option (Mem)} (er_X3_readProduct : ∀ {x2 : Int32} {M M' : Mem} , r_X3_readProduct x2 M = some M' → am_Ev (d + 5) mX3_readProduct [.inr (23, 0), .inr (1, 0), am_I x2] (am_hM h M) (.inl (none, am_hM h M'))) {r_X3_readUnit : Int32 → Mem → Option (Mem)} (er_X3_readUnit : ∀ {x2 : Int32} {M M' : Mem} , r_X3_readUnit x2 M = some M' → am_Ev (d + 5) mX3_readUnit [.inr (23, 0), .inr (1, 0), am_I x2] (am_hM h M) (.inl (none, am_hM h M'))) {M : Mem} {M' : Mem} (hyp : f_RX3_readSum 24 25 r_X3_readSum r_X3_readProduct r_X3_readUnit x2 M = some M') : am_Ev (d + 6) mX3_readSum [.inr (23, 0), .inr (1, 0), am_I x2] (am_hM h M) (.inl (none, am_hM h M')) := by
  unfold f_RX3_readSum at hyp
  refine am_Ev.mk (by decide +kernel) rfl rfl (Nat.le_refl _) (Nat.le_refl _) ?_
  change am_At _ _ _ 0 [_, _, _, _, _] [] _ _
  refine am_aload_n dX3_readSum_0 rfl ?_
  refine am_aload_n dX3_readSum_1 rfl ?_
  refine am_iload_n dX3_readSum_2 rfl ?_
  obtain ⟨M1, hk1, hyp⟩ := bd_some hyp
  try dsimp only at hyp
  refine am_callV [_, _] dX3_readSum_3 ml_X3_58 vm_X3_readProduct (sh_23 g) rfl (fun _ => Nat.le_of_ble_eq_true rfl) (by omega) rfl (er_X3_readProduct hk1) rfl ?_
  change am_At _ _ _ 6 [_, _, _, _, _] [] _ _
  refine am_iconst 0 (v := 0) dX3_readSum_6 (by decide) ?_
  refine am_istore_n dX3_readSum_7 (am_lb rfl) ?_
  change am_At _ _ _ 8 [_, _, _, _, _] [] _ _
  obtain ⟨e8, hw8, hyp⟩ := bd_some hyp
  rcases e8 with M8 | M8
  · try dsimp only at hyp
    refine eL_RX3_readSum_8_24 (d := d) (h := h) g hW er_X3_readSum er_X3_readProduct er_X3_readUnit  FU ((0 : Int32), M1) (Sum.inl M8) hw8 ?_
    change am_At _ _ _ 36 [_, _, _, _, _] [] _ _
    cases hyp
    exact am_vret dX3_readSum_36 rfl
  · try dsimp only at hyp
    refine eL_RX3_readSum_8_24 (d := d) (h := h) g hW er_X3_readSum er_X3_readProduct er_X3_readUnit  FU ((0 : Int32), M1) (Sum.inr M8) hw8 ?_
    change am_At _ _ _ 58 [_, _, _, _, _] [] _ _
    cases hyp
    exact am_vret dX3_readSum_58 rfl
theorem eL_RX3_readSum_8_25 {d : Nat} {h : am_H} (g : lay h) (hW : h.2.2 23 0 = some 25 ∧ h.2.2 23 2 = some 24) {x2 : Int32} {r_X3_readSum : Int32 → Mem → Option (Mem)} (er_X3_readSum : ∀ {x2 : Int32} {M M' : Mem} , r_X3_readSum x2 M = some M' → am_Ev (d + 5) mX3_readSum [.inr (23, 0), .inr (1, 0), am_I x2] (am_hM h M) (.inl (none, am_hM h M'))) {r_X3_readProduct : Int32 → Mem → Option (Mem)} (er_X3_readProduct : ∀ {x2 : Int32} {M M' : Mem} , r_X3_readProduct x2 M = some M' → am_Ev (d + 5) mX3_readProduct [.inr (23, 0), .inr (1, 0), am_I x2] (am_hM h M) (.inl (none, am_hM h M'))) {r_X3_readUnit : Int32 → Mem → Option (Mem)} (er_X3_readUnit : ∀ {x2 : Int32} {M M' : Mem} , r_X3_readUnit x2 M = some M' → am_Ev (d + 5) mX3_readUnit [.inr (23, 0), .inr (1, 0), am_I x2] (am_hM h M) (.inl (none, am_hM h M'))) {r : am_R} (n : Nat) : ∀ (s : Int32 × Mem) (e : (Mem) ⊕ (Mem)), wh (L_RX3_readSum_8 25 24 r_X3_readProduct x2) n s = some e → (match e with | (Sum.inl M) => am_At am_X0 (d + 6) mX3_readSum 36 [some (.inr (23, 0)), some (.inr (1, 0)), some (am_I (x2)), none, none] [] (am_hM h M) r | (Sum.inr M) => am_At am_X0 (d + 6) mX3_readSum 58 [some (.inr (23, 0)), some (.inr (1, 0)), some (am_I (x2)), none, none] [] (am_hM h M) r) → (match s with | (x3, M) => am_At am_X0 (d + 6) mX3_readSum 8 [some (.inr (23, 0)), some (.inr (1, 0)), some (am_I (x2)), some (am_I (x3)), none] [] (am_hM h M) r) := by
  refine am_wh (At := fun (s : Int32 × Mem) => match s with | (x3, M) => am_At am_X0 (d + 6) mX3_readSum 8 [some (.inr (23, 0)), some (.inr (1, 0)), some (am_I (x2)), some (am_I (x3)), none] [] (am_hM h M) r) (Ex := fun (e : (Mem) ⊕ (Mem)) => match e with | (Sum.inl M) => am_At am_X0 (d + 6) mX3_readSum 36 [some (.inr (23, 0)), some (.inr (1, 0)), some (am_I (x2)), none, none] [] (am_hM h M) r | (Sum.inr M) => am_At am_X0 (d + 6) mX3_readSum 58 [some (.inr (23, 0)), some (.inr (1, 0)), some (am_I (x2)), none, none] [] (am_hM h M) r) ?_ n
  rintro ⟨x3, M⟩ y hyp hx
  unfold L_RX3_readSum_8 at hyp
  try dsimp only at hyp
  change am_At _ _ _ 8 [_, _, _, _, _] [] _ _
  refine am_iload_n dX3_readSum_8 rfl ?_
  refine am_sipush 150 (v := 150) dX3_readSum_9 (by decide) ?_
  refine am_icmp_ge (46) 58 dX3_readSum_12 rfl ?_ ?_
  · intro hc2
    have hc2 : (150 : Int32) ≤ x3 := hc2
    replace hyp := it_pos hc2 hyp
    cases hyp
    refine am_At.drop 3 ?_
    exact hx
  · intro hc2n
    have hc2n : ¬ ((150 : Int32) ≤ x3) := hc2n
    replace hyp := it_neg hc2n hyp
    refine am_aload_n dX3_readSum_15 rfl ?_
    refine am_callV [] dX3_readSum_16 ml_X3_47 vm_X10_isFaulty (sh_1 g) rfl (fun _ => Nat.le_of_ble_eq_true rfl) (by omega) rfl (ef_X10_isFaulty (d := d + 5) (h := h) g  (M := M) rfl) rfl ?_
    change am_At _ _ _ 19 [_, _, _, _, _] [_] _ _
    refine am_if_ne (39) 58 dX3_readSum_19 rfl ?_ ?_
    · intro hc3n
      have hc3n : ¬ ((f_X10_isFaulty M) = 0) := hc3n
      replace hyp := it_neg hc3n hyp
      cases hyp
      refine am_At.drop 3 ?_
      exact hx
    · intro hc3
      have hc3 : (f_X10_isFaulty M) = 0 := hc3
      replace hyp := it_pos hc3 hyp
      refine am_aload_n dX3_readSum_22 rfl ?_
      refine am_ldcS (k9 := 1) (text := "+-") dX3_readSum_23 (by decide) ?_
      obtain ⟨⟨v4, M4⟩, hk4, hyp⟩ := bd_some hyp
      try dsimp only at hyp
      refine am_callV [_] dX3_readSum_25 ml_X3_63 vm_X10_takeOneOf (sh_1 g) rfl (fun _ => Nat.le_of_ble_eq_true rfl) (by omega) rfl (ef_X10_takeOneOf (d := d + 1) (h := h) g (k1 := 1) (by decide)  hk4) rfl ?_
      change am_At _ _ _ 28 [_, _, _, _, _] [_] _ _
      refine am_istore dX3_readSum_28 (am_lb rfl) ?_
      change am_At _ _ _ 30 [_, _, _, _, _] [] _ _
      refine am_iload dX3_readSum_30 rfl ?_
      refine am_iconst (-1) (v := (-1)) dX3_readSum_32 (by decide) ?_
      refine am_icmp_ne (4) 37 dX3_readSum_33 rfl ?_ ?_
      · intro hc5n
        have hc5n : ¬ (v4 = (-1 : Int32)) := hc5n
        replace hyp := it_neg hc5n hyp
        refine am_aload_n dX3_readSum_37 rfl ?_
        refine am_aload_n dX3_readSum_38 rfl ?_
        refine am_iload_n dX3_readSum_39 rfl ?_
        obtain ⟨M6, hk6, hyp⟩ := bd_some hyp
        try dsimp only at hyp
        refine am_callV [_, _] dX3_readSum_40 ml_X3_58 vm_X3_readProduct (sh_23 g) rfl (fun _ => Nat.le_of_ble_eq_true rfl) (by omega) rfl (er_X3_readProduct hk6) rfl ?_
        change am_At _ _ _ 43 [_, _, _, _, _] [] _ _
        refine am_aload_n dX3_readSum_43 rfl ?_
        refine am_bipush 10 (v := 10) dX3_readSum_44 (by decide) ?_
        refine am_iload dX3_readSum_46 rfl ?_
        refine am_iadd dX3_readSum_48 ?_
        obtain ⟨M7, hk7, hyp⟩ := bd_some hyp
        try dsimp only at hyp
        refine am_callV [_] dX3_readSum_49 ml_X3_31 vm_X3_add (sh_23 g) rfl (fun _ => Nat.le_of_ble_eq_true rfl) (by omega) rfl (ef_X3_add_25 (d := d + 5) (h := h) g hW hk7) rfl ?_
        change am_At _ _ _ 52 [_, _, _, _, _] [] _ _
        refine am_iinc dX3_readSum_52 rfl (am_ix _) ?_
        change am_At _ _ _ 55 [_, _, _, _, _] [] _ _
        refine am_goto (-47) 8 dX3_readSum_55 rfl ?_
        cases hyp
        refine am_At.drop 4 ?_
        exact hx
      · intro hc5
        have hc5 : v4 = (-1 : Int32) := hc5
        replace hyp := it_pos hc5 hyp
        cases hyp
        refine am_At.drop 3 ?_
        refine am_At.drop 4 ?_
        exact hx
theorem ef_RX3_readSum_25 {d : Nat} {h : am_H} (g : lay h) (hW : h.2.2 23 0 = some 25 ∧ h.2.2 23 2 = some 24) {x2 : Int32} {r_X3_readSum : Int32 → Mem → Option (Mem)} (er_X3_readSum : ∀ {x2 : Int32} {M M' : Mem} , r_X3_readSum x2 M = some M' → am_Ev (d + 5) mX3_readSum [.inr (23, 0), .inr (1, 0), am_I x2] (am_hM h M) (.inl (none, am_hM h M'))) {r_X3_readProduct : Int32 → Mem → Option (Mem)} (er_X3_readProduct : ∀ {x2 : Int32} {M M' : Mem} , r_X3_readProduct x2 M = some M' → am_Ev (d + 5) mX3_readProduct [.inr (23, 0), .inr (1, 0), am_I x2] (am_hM h M) (.inl (none, am_hM h M'))) {r_X3_readUnit : Int32 → Mem → Option (Mem)} (er_X3_readUnit : ∀ {x2 : Int32} {M M' : Mem} , r_X3_readUnit x2 M = some M' → am_Ev (d + 5) mX3_readUnit [.inr (23, 0), .inr (1, 0), am_I x2] (am_hM h M) (.inl (none, am_hM h M'))) {M : Mem} {M' : Mem} (hyp : f_RX3_readSum 25 24 r_X3_readSum r_X3_readProduct r_X3_readUnit x2 M = some M') : am_Ev (d + 6) mX3_readSum [.inr (23, 0), .inr (1, 0), am_I x2] (am_hM h M) (.inl (none, am_hM h M')) := by
  unfold f_RX3_readSum at hyp
  refine am_Ev.mk (by decide +kernel) rfl rfl (Nat.le_refl _) (Nat.le_refl _) ?_
  change am_At _ _ _ 0 [_, _, _, _, _] [] _ _
  refine am_aload_n dX3_readSum_0 rfl ?_
  refine am_aload_n dX3_readSum_1 rfl ?_
  refine am_iload_n dX3_readSum_2 rfl ?_
  obtain ⟨M1, hk1, hyp⟩ := bd_some hyp
  try dsimp only at hyp
  refine am_callV [_, _] dX3_readSum_3 ml_X3_58 vm_X3_readProduct (sh_23 g) rfl (fun _ => Nat.le_of_ble_eq_true rfl) (by omega) rfl (er_X3_readProduct hk1) rfl ?_
  change am_At _ _ _ 6 [_, _, _, _, _] [] _ _
  refine am_iconst 0 (v := 0) dX3_readSum_6 (by decide) ?_
  refine am_istore_n dX3_readSum_7 (am_lb rfl) ?_
  change am_At _ _ _ 8 [_, _, _, _, _] [] _ _
  obtain ⟨e8, hw8, hyp⟩ := bd_some hyp
  rcases e8 with M8 | M8
  · try dsimp only at hyp
    refine eL_RX3_readSum_8_25 (d := d) (h := h) g hW er_X3_readSum er_X3_readProduct er_X3_readUnit  FU ((0 : Int32), M1) (Sum.inl M8) hw8 ?_
    change am_At _ _ _ 36 [_, _, _, _, _] [] _ _
    cases hyp
    exact am_vret dX3_readSum_36 rfl
  · try dsimp only at hyp
    refine eL_RX3_readSum_8_25 (d := d) (h := h) g hW er_X3_readSum er_X3_readProduct er_X3_readUnit  FU ((0 : Int32), M1) (Sum.inr M8) hw8 ?_
    change am_At _ _ _ 58 [_, _, _, _, _] [] _ _
    cases hyp
    exact am_vret dX3_readSum_58 rfl
theorem eL_RX3_readProduct_8_24 {d : Nat} {h : am_H} (g : lay h) (hW : h.2.2 23 0 = some 24 ∧ h.2.2 23 2 = some 25) {x2 : Int32} {r_X3_readSum : Int32 → Mem → Option (Mem)} (er_X3_readSum : ∀ {x2 : Int32} {M M' : Mem} , r_X3_readSum x2 M = some M' → am_Ev (d + 5) mX3_readSum [.inr (23, 0), .inr (1, 0), am_I x2] (am_hM h M) (.inl (none, am_hM h M'))) {r_X3_readProduct : Int32 → Mem → Option (Mem)} (er_X3_readProduct : ∀ {x2 : Int32} {M M' : Mem} , r_X3_readProduct x2 M = some M' → am_Ev (d + 5) mX3_readProduct [.inr (23, 0), .inr (1, 0), am_I x2] (am_hM h M) (.inl (none, am_hM h M'))) {r_X3_readUnit : Int32 → Mem → Option (Mem)} (er_X3_readUnit : ∀ {x2 : Int32} {M M' : Mem} , r_X3_readUnit x2 M = some M' → am_Ev (d + 5) mX3_readUnit [.inr (23, 0), .inr (1, 0), am_I x2] (am_hM h M) (.inl (none, am_hM h M'))) {r : am_R} (n : Nat) : ∀ (s : Int32 × Mem) (e : (Mem) ⊕ (Mem)), wh (L_RX3_readProduct_8 24 25 r_X3_readUnit x2) n s = some e → (match e with | (Sum.inl M) => am_At am_X0 (d + 6) mX3_readProduct 36 [some (.inr (23, 0)), some (.inr (1, 0)), some (am_I (x2)), none, none] [] (am_hM h M) r | (Sum.inr M) => am_At am_X0 (d + 6) mX3_readProduct 58 [some (.inr (23, 0)), some (.inr (1, 0)), some (am_I (x2)), none, none] [] (am_hM h M) r) → (match s with | (x3, M) => am_At am_X0 (d + 6) mX3_readProduct 8 [some (.inr (23, 0)), some (.inr (1, 0)), some (am_I (x2)), some (am_I (x3)), none] [] (am_hM h M) r) := by
  refine am_wh (At := fun (s : Int32 × Mem) => match s with | (x3, M) => am_At am_X0 (d + 6) mX3_readProduct 8 [some (.inr (23, 0)), some (.inr (1, 0)), some (am_I (x2)), some (am_I (x3)), none] [] (am_hM h M) r) (Ex := fun (e : (Mem) ⊕ (Mem)) => match e with | (Sum.inl M) => am_At am_X0 (d + 6) mX3_readProduct 36 [some (.inr (23, 0)), some (.inr (1, 0)), some (am_I (x2)), none, none] [] (am_hM h M) r | (Sum.inr M) => am_At am_X0 (d + 6) mX3_readProduct 58 [some (.inr (23, 0)), some (.inr (1, 0)), some (am_I (x2)), none, none] [] (am_hM h M) r) ?_ n
  rintro ⟨x3, M⟩ y hyp hx
  unfold L_RX3_readProduct_8 at hyp
  try dsimp only at hyp
  change am_At _ _ _ 8 [_, _, _, _, _] [] _ _
  refine am_iload_n dX3_readProduct_8 rfl ?_
  refine am_sipush 150 (v := 150) dX3_readProduct_9 (by decide) ?_
  refine am_icmp_ge (46) 58 dX3_readProduct_12 rfl ?_ ?_
  · intro hc2
    have hc2 : (150 : Int32) ≤ x3 := hc2
    replace hyp := it_pos hc2 hyp
    cases hyp
    refine am_At.drop 3 ?_
    exact hx
  · intro hc2n
    have hc2n : ¬ ((150 : Int32) ≤ x3) := hc2n
    replace hyp := it_neg hc2n hyp
    refine am_aload_n dX3_readProduct_15 rfl ?_
    refine am_callV [] dX3_readProduct_16 ml_X3_47 vm_X10_isFaulty (sh_1 g) rfl (fun _ => Nat.le_of_ble_eq_true rfl) (by omega) rfl (ef_X10_isFaulty (d := d + 5) (h := h) g  (M := M) rfl) rfl ?_
    change am_At _ _ _ 19 [_, _, _, _, _] [_] _ _
    refine am_if_ne (39) 58 dX3_readProduct_19 rfl ?_ ?_
    · intro hc3n
      have hc3n : ¬ ((f_X10_isFaulty M) = 0) := hc3n
      replace hyp := it_neg hc3n hyp
      cases hyp
      refine am_At.drop 3 ?_
      exact hx
    · intro hc3
      have hc3 : (f_X10_isFaulty M) = 0 := hc3
      replace hyp := it_pos hc3 hyp
      refine am_aload_n dX3_readProduct_22 rfl ?_
      refine am_ldcS (k9 := 2) (text := "*/%") dX3_readProduct_23 (by decide) ?_
      obtain ⟨⟨v4, M4⟩, hk4, hyp⟩ := bd_some hyp
      try dsimp only at hyp
      refine am_callV [_] dX3_readProduct_25 ml_X3_63 vm_X10_takeOneOf (sh_1 g) rfl (fun _ => Nat.le_of_ble_eq_true rfl) (by omega) rfl (ef_X10_takeOneOf (d := d + 1) (h := h) g (k1 := 2) (by decide)  hk4) rfl ?_
      change am_At _ _ _ 28 [_, _, _, _, _] [_] _ _
      refine am_istore dX3_readProduct_28 (am_lb rfl) ?_
      change am_At _ _ _ 30 [_, _, _, _, _] [] _ _
      refine am_iload dX3_readProduct_30 rfl ?_
      refine am_iconst (-1) (v := (-1)) dX3_readProduct_32 (by decide) ?_
      refine am_icmp_ne (4) 37 dX3_readProduct_33 rfl ?_ ?_
      · intro hc5n
        have hc5n : ¬ (v4 = (-1 : Int32)) := hc5n
        replace hyp := it_neg hc5n hyp
        refine am_aload_n dX3_readProduct_37 rfl ?_
        refine am_aload_n dX3_readProduct_38 rfl ?_
        refine am_iload_n dX3_readProduct_39 rfl ?_
        obtain ⟨M6, hk6, hyp⟩ := bd_some hyp
        try dsimp only at hyp
        refine am_callV [_, _] dX3_readProduct_40 ml_X3_67 vm_X3_readUnit (sh_23 g) rfl (fun _ => Nat.le_of_ble_eq_true rfl) (by omega) rfl (er_X3_readUnit hk6) rfl ?_
        change am_At _ _ _ 43 [_, _, _, _, _] [] _ _
        refine am_aload_n dX3_readProduct_43 rfl ?_
        refine am_bipush 12 (v := 12) dX3_readProduct_44 (by decide) ?_
        refine am_iload dX3_readProduct_46 rfl ?_
        refine am_iadd dX3_readProduct_48 ?_
        obtain ⟨M7, hk7, hyp⟩ := bd_some hyp
        try dsimp only at hyp
        refine am_callV [_] dX3_readProduct_49 ml_X3_31 vm_X3_add (sh_23 g) rfl (fun _ => Nat.le_of_ble_eq_true rfl) (by omega) rfl (ef_X3_add_24 (d := d + 5) (h := h) g hW hk7) rfl ?_
        change am_At _ _ _ 52 [_, _, _, _, _] [] _ _
        refine am_iinc dX3_readProduct_52 rfl (am_ix _) ?_
        change am_At _ _ _ 55 [_, _, _, _, _] [] _ _
        refine am_goto (-47) 8 dX3_readProduct_55 rfl ?_
        cases hyp
        refine am_At.drop 4 ?_
        exact hx
      · intro hc5
        have hc5 : v4 = (-1 : Int32) := hc5
        replace hyp := it_pos hc5 hyp
        cases hyp
        refine am_At.drop 3 ?_
        refine am_At.drop 4 ?_
        exact hx
theorem ef_RX3_readProduct_24 {d : Nat} {h : am_H} (g : lay h) (hW : h.2.2 23 0 = some 24 ∧ h.2.2 23 2 = some 25) {x2 : Int32} {r_X3_readSum : Int32 → Mem → Option (Mem)} (er_X3_readSum : ∀ {x2 : Int32} {M M' : Mem} , r_X3_readSum x2 M = some M' → am_Ev (d + 5) mX3_readSum [.inr (23, 0), .inr (1, 0), am_I x2] (am_hM h M) (.inl (none, am_hM h M'))) {r_X3_readProduct : Int32 → Mem → Option (Mem)} (er_X3_readProduct : ∀ {x2 : Int32} {M M' : Mem} , r_X3_readProduct x2 M = some M' → am_Ev (d + 5) mX3_readProduct [.inr (23, 0), .inr (1, 0), am_I x2] (am_hM h M) (.inl (none, am_hM h M'))) {r_X3_readUnit : Int32 → Mem → Option (Mem)} (er_X3_readUnit : ∀ {x2 : Int32} {M M' : Mem} , r_X3_readUnit x2 M = some M' → am_Ev (d + 5) mX3_readUnit [.inr (23, 0), .inr (1, 0), am_I x2] (am_hM h M) (.inl (none, am_hM h M'))) {M : Mem} {M' : Mem} (hyp : f_RX3_readProduct 24 25 r_X3_readSum r_X3_readProduct r_X3_readUnit x2 M = some M') : am_Ev (d + 6) mX3_readProduct [.inr (23, 0), .inr (1, 0), am_I x2] (am_hM h M) (.inl (none, am_hM h M')) := by
  unfold f_RX3_readProduct at hyp
  refine am_Ev.mk (by decide +kernel) rfl rfl (Nat.le_refl _) (Nat.le_refl _) ?_
  change am_At _ _ _ 0 [_, _, _, _, _] [] _ _
  refine am_aload_n dX3_readProduct_0 rfl ?_
  refine am_aload_n dX3_readProduct_1 rfl ?_
  refine am_iload_n dX3_readProduct_2 rfl ?_
  obtain ⟨M1, hk1, hyp⟩ := bd_some hyp
  try dsimp only at hyp
  refine am_callV [_, _] dX3_readProduct_3 ml_X3_67 vm_X3_readUnit (sh_23 g) rfl (fun _ => Nat.le_of_ble_eq_true rfl) (by omega) rfl (er_X3_readUnit hk1) rfl ?_
  change am_At _ _ _ 6 [_, _, _, _, _] [] _ _
  refine am_iconst 0 (v := 0) dX3_readProduct_6 (by decide) ?_
  refine am_istore_n dX3_readProduct_7 (am_lb rfl) ?_
  change am_At _ _ _ 8 [_, _, _, _, _] [] _ _
  obtain ⟨e8, hw8, hyp⟩ := bd_some hyp
  rcases e8 with M8 | M8
  · try dsimp only at hyp
    refine eL_RX3_readProduct_8_24 (d := d) (h := h) g hW er_X3_readSum er_X3_readProduct er_X3_readUnit  FU ((0 : Int32), M1) (Sum.inl M8) hw8 ?_
    change am_At _ _ _ 36 [_, _, _, _, _] [] _ _
    cases hyp
    exact am_vret dX3_readProduct_36 rfl
  · try dsimp only at hyp
    refine eL_RX3_readProduct_8_24 (d := d) (h := h) g hW er_X3_readSum er_X3_readProduct er_X3_readUnit  FU ((0 : Int32), M1) (Sum.inr M8) hw8 ?_
    change am_At _ _ _ 58 [_, _, _, _, _] [] _ _
    cases hyp
    exact am_vret dX3_readProduct_58 rfl
theorem eL_RX3_readProduct_8_25 {d : Nat} {h : am_H} (g : lay h) (hW : h.2.2 23 0 = some 25 ∧ h.2.2 23 2 = some 24) {x2 : Int32} {r_X3_readSum : Int32 → Mem → Option (Mem)} (er_X3_readSum : ∀ {x2 : Int32} {M M' : Mem} , r_X3_readSum x2 M = some M' → am_Ev (d + 5) mX3_readSum [.inr (23, 0), .inr (1, 0), am_I x2] (am_hM h M) (.inl (none, am_hM h M'))) {r_X3_readProduct : Int32 → Mem → Option (Mem)} (er_X3_readProduct : ∀ {x2 : Int32} {M M' : Mem} , r_X3_readProduct x2 M = some M' → am_Ev (d + 5) mX3_readProduct [.inr (23, 0), .inr (1, 0), am_I x2] (am_hM h M) (.inl (none, am_hM h M'))) {r_X3_readUnit : Int32 → Mem → Option (Mem)} (er_X3_readUnit : ∀ {x2 : Int32} {M M' : Mem} , r_X3_readUnit x2 M = some M' → am_Ev (d + 5) mX3_readUnit [.inr (23, 0), .inr (1, 0), am_I x2] (am_hM h M) (.inl (none, am_hM h M'))) {r : am_R} (n : Nat) : ∀ (s : Int32 × Mem) (e : (Mem) ⊕ (Mem)), wh (L_RX3_readProduct_8 25 24 r_X3_readUnit x2) n s = some e → (match e with | (Sum.inl M) => am_At am_X0 (d + 6) mX3_readProduct 36 [some (.inr (23, 0)), some (.inr (1, 0)), some (am_I (x2)), none, none] [] (am_hM h M) r | (Sum.inr M) => am_At am_X0 (d + 6) mX3_readProduct 58 [some (.inr (23, 0)), some (.inr (1, 0)), some (am_I (x2)), none, none] [] (am_hM h M) r) → (match s with | (x3, M) => am_At am_X0 (d + 6) mX3_readProduct 8 [some (.inr (23, 0)), some (.inr (1, 0)), some (am_I (x2)), some (am_I (x3)), none] [] (am_hM h M) r) := by
  refine am_wh (At := fun (s : Int32 × Mem) => match s with | (x3, M) => am_At am_X0 (d + 6) mX3_readProduct 8 [some (.inr (23, 0)), some (.inr (1, 0)), some (am_I (x2)), some (am_I (x3)), none] [] (am_hM h M) r) (Ex := fun (e : (Mem) ⊕ (Mem)) => match e with | (Sum.inl M) => am_At am_X0 (d + 6) mX3_readProduct 36 [some (.inr (23, 0)), some (.inr (1, 0)), some (am_I (x2)), none, none] [] (am_hM h M) r | (Sum.inr M) => am_At am_X0 (d + 6) mX3_readProduct 58 [some (.inr (23, 0)), some (.inr (1, 0)), some (am_I (x2)), none, none] [] (am_hM h M) r) ?_ n
  rintro ⟨x3, M⟩ y hyp hx
  unfold L_RX3_readProduct_8 at hyp
  try dsimp only at hyp
  change am_At _ _ _ 8 [_, _, _, _, _] [] _ _
  refine am_iload_n dX3_readProduct_8 rfl ?_
  refine am_sipush 150 (v := 150) dX3_readProduct_9 (by decide) ?_
  refine am_icmp_ge (46) 58 dX3_readProduct_12 rfl ?_ ?_
  · intro hc2
    have hc2 : (150 : Int32) ≤ x3 := hc2
    replace hyp := it_pos hc2 hyp
    cases hyp
    refine am_At.drop 3 ?_
    exact hx
  · intro hc2n
    have hc2n : ¬ ((150 : Int32) ≤ x3) := hc2n
    replace hyp := it_neg hc2n hyp
    refine am_aload_n dX3_readProduct_15 rfl ?_
    refine am_callV [] dX3_readProduct_16 ml_X3_47 vm_X10_isFaulty (sh_1 g) rfl (fun _ => Nat.le_of_ble_eq_true rfl) (by omega) rfl (ef_X10_isFaulty (d := d + 5) (h := h) g  (M := M) rfl) rfl ?_
    change am_At _ _ _ 19 [_, _, _, _, _] [_] _ _
    refine am_if_ne (39) 58 dX3_readProduct_19 rfl ?_ ?_
    · intro hc3n
      have hc3n : ¬ ((f_X10_isFaulty M) = 0) := hc3n
      replace hyp := it_neg hc3n hyp
      cases hyp
      refine am_At.drop 3 ?_
      exact hx
    · intro hc3
      have hc3 : (f_X10_isFaulty M) = 0 := hc3
      replace hyp := it_pos hc3 hyp
      refine am_aload_n dX3_readProduct_22 rfl ?_
      refine am_ldcS (k9 := 2) (text := "*/%") dX3_readProduct_23 (by decide) ?_
      obtain ⟨⟨v4, M4⟩, hk4, hyp⟩ := bd_some hyp
      try dsimp only at hyp
      refine am_callV [_] dX3_readProduct_25 ml_X3_63 vm_X10_takeOneOf (sh_1 g) rfl (fun _ => Nat.le_of_ble_eq_true rfl) (by omega) rfl (ef_X10_takeOneOf (d := d + 1) (h := h) g (k1 := 2) (by decide)  hk4) rfl ?_
      change am_At _ _ _ 28 [_, _, _, _, _] [_] _ _
      refine am_istore dX3_readProduct_28 (am_lb rfl) ?_
      change am_At _ _ _ 30 [_, _, _, _, _] [] _ _
      refine am_iload dX3_readProduct_30 rfl ?_
      refine am_iconst (-1) (v := (-1)) dX3_readProduct_32 (by decide) ?_
      refine am_icmp_ne (4) 37 dX3_readProduct_33 rfl ?_ ?_
      · intro hc5n
        have hc5n : ¬ (v4 = (-1 : Int32)) := hc5n
        replace hyp := it_neg hc5n hyp
        refine am_aload_n dX3_readProduct_37 rfl ?_
        refine am_aload_n dX3_readProduct_38 rfl ?_
        refine am_iload_n dX3_readProduct_39 rfl ?_
        obtain ⟨M6, hk6, hyp⟩ := bd_some hyp
        try dsimp only at hyp
        refine am_callV [_, _] dX3_readProduct_40 ml_X3_67 vm_X3_readUnit (sh_23 g) rfl (fun _ => Nat.le_of_ble_eq_true rfl) (by omega) rfl (er_X3_readUnit hk6) rfl ?_
        change am_At _ _ _ 43 [_, _, _, _, _] [] _ _
        refine am_aload_n dX3_readProduct_43 rfl ?_
        refine am_bipush 12 (v := 12) dX3_readProduct_44 (by decide) ?_
        refine am_iload dX3_readProduct_46 rfl ?_
        refine am_iadd dX3_readProduct_48 ?_
        obtain ⟨M7, hk7, hyp⟩ := bd_some hyp
        try dsimp only at hyp
        refine am_callV [_] dX3_readProduct_49 ml_X3_31 vm_X3_add (sh_23 g) rfl (fun _ => Nat.le_of_ble_eq_true rfl) (by omega) rfl (ef_X3_add_25 (d := d + 5) (h := h) g hW hk7) rfl ?_
        change am_At _ _ _ 52 [_, _, _, _, _] [] _ _
        refine am_iinc dX3_readProduct_52 rfl (am_ix _) ?_
        change am_At _ _ _ 55 [_, _, _, _, _] [] _ _
        refine am_goto (-47) 8 dX3_readProduct_55 rfl ?_
        cases hyp
        refine am_At.drop 4 ?_
        exact hx
      · intro hc5
        have hc5 : v4 = (-1 : Int32) := hc5
        replace hyp := it_pos hc5 hyp
        cases hyp
        refine am_At.drop 3 ?_
        refine am_At.drop 4 ?_
        exact hx
theorem ef_RX3_readProduct_25 {d : Nat} {h : am_H} (g : lay h) (hW : h.2.2 23 0 = some 25 ∧ h.2.2 23 2 = some 24) {x2 : Int32} {r_X3_readSum : Int32 → Mem → Option (Mem)} (er_X3_readSum : ∀ {x2 : Int32} {M M' : Mem} , r_X3_readSum x2 M = some M' → am_Ev (d + 5) mX3_readSum [.inr (23, 0), .inr (1, 0), am_I x2] (am_hM h M) (.inl (none, am_hM h M'))) {r_X3_readProduct : Int32 → Mem → Option (Mem)} (er_X3_readProduct : ∀ {x2 : Int32} {M M' : Mem} , r_X3_readProduct x2 M = some M' → am_Ev (d + 5) mX3_readProduct [.inr (23, 0), .inr (1, 0), am_I x2] (am_hM h M) (.inl (none, am_hM h M'))) {r_X3_readUnit : Int32 → Mem → Option (Mem)} (er_X3_readUnit : ∀ {x2 : Int32} {M M' : Mem} , r_X3_readUnit x2 M = some M' → am_Ev (d + 5) mX3_readUnit [.inr (23, 0), .inr (1, 0), am_I x2] (am_hM h M) (.inl (none, am_hM h M'))) {M : Mem} {M' : Mem} (hyp : f_RX3_readProduct 25 24 r_X3_readSum r_X3_readProduct r_X3_readUnit x2 M = some M') : am_Ev (d + 6) mX3_readProduct [.inr (23, 0), .inr (1, 0), am_I x2] (am_hM h M) (.inl (none, am_hM h M')) := by
  unfold f_RX3_readProduct at hyp
  refine am_Ev.mk (by decide +kernel) rfl rfl (Nat.le_refl _) (Nat.le_refl _) ?_
  change am_At _ _ _ 0 [_, _, _, _, _] [] _ _
  refine am_aload_n dX3_readProduct_0 rfl ?_
  refine am_aload_n dX3_readProduct_1 rfl ?_
  refine am_iload_n dX3_readProduct_2 rfl ?_
  obtain ⟨M1, hk1, hyp⟩ := bd_some hyp
  try dsimp only at hyp
  refine am_callV [_, _] dX3_readProduct_3 ml_X3_67 vm_X3_readUnit (sh_23 g) rfl (fun _ => Nat.le_of_ble_eq_true rfl) (by omega) rfl (er_X3_readUnit hk1) rfl ?_
  change am_At _ _ _ 6 [_, _, _, _, _] [] _ _
  refine am_iconst 0 (v := 0) dX3_readProduct_6 (by decide) ?_
  refine am_istore_n dX3_readProduct_7 (am_lb rfl) ?_
  change am_At _ _ _ 8 [_, _, _, _, _] [] _ _
  obtain ⟨e8, hw8, hyp⟩ := bd_some hyp
  rcases e8 with M8 | M8
  · try dsimp only at hyp
    refine eL_RX3_readProduct_8_25 (d := d) (h := h) g hW er_X3_readSum er_X3_readProduct er_X3_readUnit  FU ((0 : Int32), M1) (Sum.inl M8) hw8 ?_
    change am_At _ _ _ 36 [_, _, _, _, _] [] _ _
    cases hyp
    exact am_vret dX3_readProduct_36 rfl
  · try dsimp only at hyp
    refine eL_RX3_readProduct_8_25 (d := d) (h := h) g hW er_X3_readSum er_X3_readProduct er_X3_readUnit  FU ((0 : Int32), M1) (Sum.inr M8) hw8 ?_
    change am_At _ _ _ 58 [_, _, _, _, _] [] _ _
    cases hyp
    exact am_vret dX3_readProduct_58 rfl
theorem ef_RX3_readUnit_24 {d : Nat} {h : am_H} (g : lay h) (hW : h.2.2 23 0 = some 24 ∧ h.2.2 23 2 = some 25) {x2 : Int32} {r_X3_readSum : Int32 → Mem → Option (Mem)} (er_X3_readSum : ∀ {x2 : Int32} {M M' : Mem} , r_X3_readSum x2 M = some M' → am_Ev (d + 5) mX3_readSum [.inr (23, 0), .inr (1, 0), am_I x2] (am_hM h M) (.inl (none, am_hM h M'))) {r_X3_readProduct : Int32 → Mem → Option (Mem)} (er_X3_readProduct : ∀ {x2 : Int32} {M M' : Mem} , r_X3_readProduct x2 M = some M' → am_Ev (d + 5) mX3_readProduct [.inr (23, 0), .inr (1, 0), am_I x2] (am_hM h M) (.inl (none, am_hM h M'))) {r_X3_readUnit : Int32 → Mem → Option (Mem)} (er_X3_readUnit : ∀ {x2 : Int32} {M M' : Mem} , r_X3_readUnit x2 M = some M' → am_Ev (d + 5) mX3_readUnit [.inr (23, 0), .inr (1, 0), am_I x2] (am_hM h M) (.inl (none, am_hM h M'))) {M : Mem} {M' : Mem} (hyp : f_RX3_readUnit 24 25 r_X3_readSum r_X3_readProduct r_X3_readUnit x2 M = some M') : am_Ev (d + 6) mX3_readUnit [.inr (23, 0), .inr (1, 0), am_I x2] (am_hM h M) (.inl (none, am_hM h M')) := by
  unfold f_RX3_readUnit at hyp
  refine am_Ev.mk (by decide +kernel) rfl rfl (Nat.le_refl _) (Nat.le_refl _) ?_
  change am_At _ _ _ 0 [_, _, _, _] [] _ _
  refine am_aload_n dX3_readUnit_0 rfl ?_
  obtain ⟨⟨v1, M1⟩, hk1, hyp⟩ := bd_some hyp
  try dsimp only at hyp
  refine am_callV [] dX3_readUnit_1 ml_X3_72 vm_X10_isAtDigit (sh_1 g) rfl (fun _ => Nat.le_of_ble_eq_true rfl) (by omega) rfl (ef_X10_isAtDigit (d := d + 4) (h := h) g hk1) rfl ?_
  change am_At _ _ _ 4 [_, _, _, _] [_] _ _
  refine am_if_eq (21) 25 dX3_readUnit_4 rfl ?_ ?_
  · intro hc2
    have hc2 : v1 = 0 := hc2
    replace hyp := it_pos hc2 hyp
    refine am_aload_n dX3_readUnit_25 rfl ?_
    refine am_ldcS (k9 := 3) (text := "(") dX3_readUnit_26 (by decide) ?_
    obtain ⟨⟨v3, M3⟩, hk3, hyp⟩ := bd_some hyp
    try dsimp only at hyp
    refine am_callV [_] dX3_readUnit_28 ml_X3_63 vm_X10_takeOneOf (sh_1 g) rfl (fun _ => Nat.le_of_ble_eq_true rfl) (by omega) rfl (ef_X10_takeOneOf (d := d + 1) (h := h) g (k1 := 3) (by decide)  hk3) rfl ?_
    change am_At _ _ _ 31 [_, _, _, _] [_] _ _
    refine am_iconst (-1) (v := (-1)) dX3_readUnit_31 (by decide) ?_
    refine am_icmp_eq (28) 60 dX3_readUnit_32 rfl ?_ ?_
    · intro hc4
      have hc4 : v3 = (-1 : Int32) := hc4
      replace hyp := it_pos hc4 hyp
      refine am_aload_n dX3_readUnit_60 rfl ?_
      refine am_ldcS (k9 := 4) (text := "hour day board clear bears drains fish fined least most") dX3_readUnit_61 (by decide) ?_
      obtain ⟨⟨v5, M5⟩, hk5, hyp⟩ := bd_some hyp
      try dsimp only at hyp
      refine am_callV [_] dX3_readUnit_63 ml_X3_91 vm_X10_word (sh_1 g) rfl (fun _ => Nat.le_of_ble_eq_true rfl) (by omega) rfl (ef_X10_word (d := d + 0) (h := h) g (k1 := 4) (by decide)  hk5) rfl ?_
      change am_At _ _ _ 66 [_, _, _, _] [_] _ _
      refine am_istore_n dX3_readUnit_66 (am_lb rfl) ?_
      change am_At _ _ _ 67 [_, _, _, _] [] _ _
      refine am_iload_n dX3_readUnit_67 rfl ?_
      refine am_bipush 8 (v := 8) dX3_readUnit_68 (by decide) ?_
      refine am_icmp_lt (45) 115 dX3_readUnit_70 rfl ?_ ?_
      · intro hc6
        have hc6 : v5 < (8 : Int32) := hc6
        replace hyp := it_pos hc6 hyp
        refine am_aload_n dX3_readUnit_115 rfl ?_
        refine am_iload_n dX3_readUnit_116 rfl ?_
        obtain ⟨M7, hk7, hyp⟩ := bd_some hyp
        try dsimp only at hyp
        refine am_callV [_] dX3_readUnit_117 ml_X3_31 vm_X3_add (sh_23 g) rfl (fun _ => Nat.le_of_ble_eq_true rfl) (by omega) rfl (ef_X3_add_24 (d := d + 5) (h := h) g hW hk7) rfl ?_
        change am_At _ _ _ 120 [_, _, _, _] [] _ _
        cases hyp
        exact am_vret dX3_readUnit_120 rfl
      · intro hc6n
        have hc6n : ¬ (v5 < (8 : Int32)) := hc6n
        replace hyp := it_neg hc6n hyp
        refine am_aload_n dX3_readUnit_73 rfl ?_
        refine am_iload_n dX3_readUnit_74 rfl ?_
        refine am_callS (c := 0) (k := 0) (n := 0) (w := 0) [_, _] dX3_readUnit_75 ml_X3_81 sm_X3_isNestedDeeper rfl (fun _ => Nat.le_of_ble_eq_true rfl) (by omega) rfl (ef_X3_isNestedDeeper (d := d + 3) (h := h) g (x1 := x2) (M := M5) rfl) rfl ?_
        change am_At _ _ _ 78 [_, _, _, _] [_] _ _
        refine am_if_eq (37) 115 dX3_readUnit_78 rfl ?_ ?_
        · intro hc8
          have hc8 : ((f_X3_isNestedDeeper x2 M5).1) = 0 := hc8
          replace hyp := it_pos hc8 hyp
          refine am_aload_n dX3_readUnit_115 rfl ?_
          refine am_iload_n dX3_readUnit_116 rfl ?_
          obtain ⟨M9, hk9, hyp⟩ := bd_some hyp
          try dsimp only at hyp
          refine am_callV [_] dX3_readUnit_117 ml_X3_31 vm_X3_add (sh_23 g) rfl (fun _ => Nat.le_of_ble_eq_true rfl) (by omega) rfl (ef_X3_add_24 (d := d + 5) (h := h) g hW hk9) rfl ?_
          change am_At _ _ _ 120 [_, _, _, _] [] _ _
          cases hyp
          exact am_vret dX3_readUnit_120 rfl
        · intro hc8n
          have hc8n : ¬ (((f_X3_isNestedDeeper x2 M5).1) = 0) := hc8n
          replace hyp := it_neg hc8n hyp
          refine am_aload_n dX3_readUnit_81 rfl ?_
          refine am_bipush 91 (v := 91) dX3_readUnit_82 (by decide) ?_
          obtain ⟨M10, hk10, hyp⟩ := bd_some hyp
          try dsimp only at hyp
          refine am_callV [_] dX3_readUnit_84 ml_X3_85 vm_X10_expect (sh_1 g) rfl (fun _ => Nat.le_of_ble_eq_true rfl) (by omega) rfl (ef_X10_expect (d := d + 4) (h := h) g hk10) rfl ?_
          change am_At _ _ _ 87 [_, _, _, _] [] _ _
          refine am_aload_n dX3_readUnit_87 rfl ?_
          refine am_aload_n dX3_readUnit_88 rfl ?_
          refine am_iload_n dX3_readUnit_89 rfl ?_
          refine am_iconst 1 (v := 1) dX3_readUnit_90 (by decide) ?_
          refine am_iadd dX3_readUnit_91 ?_
          obtain ⟨M11, hk11, hyp⟩ := bd_some hyp
          try dsimp only at hyp
          refine am_callV [_, _] dX3_readUnit_92 ml_X3_38 vm_X3_readSum (sh_23 g) rfl (fun _ => Nat.le_of_ble_eq_true rfl) (by omega) rfl (er_X3_readSum hk11) rfl ?_
          change am_At _ _ _ 95 [_, _, _, _] [] _ _
          refine am_aload_n dX3_readUnit_95 rfl ?_
          refine am_bipush 44 (v := 44) dX3_readUnit_96 (by decide) ?_
          obtain ⟨M12, hk12, hyp⟩ := bd_some hyp
          try dsimp only at hyp
          refine am_callV [_] dX3_readUnit_98 ml_X3_85 vm_X10_expect (sh_1 g) rfl (fun _ => Nat.le_of_ble_eq_true rfl) (by omega) rfl (ef_X10_expect (d := d + 4) (h := h) g hk12) rfl ?_
          change am_At _ _ _ 101 [_, _, _, _] [] _ _
          refine am_aload_n dX3_readUnit_101 rfl ?_
          refine am_aload_n dX3_readUnit_102 rfl ?_
          refine am_iload_n dX3_readUnit_103 rfl ?_
          refine am_iconst 1 (v := 1) dX3_readUnit_104 (by decide) ?_
          refine am_iadd dX3_readUnit_105 ?_
          obtain ⟨M13, hk13, hyp⟩ := bd_some hyp
          try dsimp only at hyp
          refine am_callV [_, _] dX3_readUnit_106 ml_X3_38 vm_X3_readSum (sh_23 g) rfl (fun _ => Nat.le_of_ble_eq_true rfl) (by omega) rfl (er_X3_readSum hk13) rfl ?_
          change am_At _ _ _ 109 [_, _, _, _] [] _ _
          refine am_aload_n dX3_readUnit_109 rfl ?_
          refine am_bipush 93 (v := 93) dX3_readUnit_110 (by decide) ?_
          obtain ⟨M14, hk14, hyp⟩ := bd_some hyp
          try dsimp only at hyp
          refine am_callV [_] dX3_readUnit_112 ml_X3_85 vm_X10_expect (sh_1 g) rfl (fun _ => Nat.le_of_ble_eq_true rfl) (by omega) rfl (ef_X10_expect (d := d + 4) (h := h) g hk14) rfl ?_
          change am_At _ _ _ 115 [_, _, _, _] [] _ _
          refine am_aload_n dX3_readUnit_115 rfl ?_
          refine am_iload_n dX3_readUnit_116 rfl ?_
          obtain ⟨M15, hk15, hyp⟩ := bd_some hyp
          try dsimp only at hyp
          refine am_callV [_] dX3_readUnit_117 ml_X3_31 vm_X3_add (sh_23 g) rfl (fun _ => Nat.le_of_ble_eq_true rfl) (by omega) rfl (ef_X3_add_24 (d := d + 5) (h := h) g hW hk15) rfl ?_
          change am_At _ _ _ 120 [_, _, _, _] [] _ _
          cases hyp
          exact am_vret dX3_readUnit_120 rfl
    · intro hc4n
      have hc4n : ¬ (v3 = (-1 : Int32)) := hc4n
      replace hyp := it_neg hc4n hyp
      refine am_aload_n dX3_readUnit_35 rfl ?_
      refine am_iload_n dX3_readUnit_36 rfl ?_
      refine am_callS (c := 0) (k := 0) (n := 0) (w := 0) [_, _] dX3_readUnit_37 ml_X3_81 sm_X3_isNestedDeeper rfl (fun _ => Nat.le_of_ble_eq_true rfl) (by omega) rfl (ef_X3_isNestedDeeper (d := d + 3) (h := h) g (x1 := x2) (M := M3) rfl) rfl ?_
      change am_At _ _ _ 40 [_, _, _, _] [_] _ _
      refine am_if_eq (80) 120 dX3_readUnit_40 rfl ?_ ?_
      · intro hc16
        have hc16 : ((f_X3_isNestedDeeper x2 M3).1) = 0 := hc16
        replace hyp := it_pos hc16 hyp
        cases hyp
        exact am_vret dX3_readUnit_120 rfl
      · intro hc16n
        have hc16n : ¬ (((f_X3_isNestedDeeper x2 M3).1) = 0) := hc16n
        replace hyp := it_neg hc16n hyp
        refine am_aload_n dX3_readUnit_43 rfl ?_
        refine am_aload_n dX3_readUnit_44 rfl ?_
        refine am_iload_n dX3_readUnit_45 rfl ?_
        refine am_iconst 1 (v := 1) dX3_readUnit_46 (by decide) ?_
        refine am_iadd dX3_readUnit_47 ?_
        obtain ⟨M17, hk17, hyp⟩ := bd_some hyp
        try dsimp only at hyp
        refine am_callV [_, _] dX3_readUnit_48 ml_X3_38 vm_X3_readSum (sh_23 g) rfl (fun _ => Nat.le_of_ble_eq_true rfl) (by omega) rfl (er_X3_readSum hk17) rfl ?_
        change am_At _ _ _ 51 [_, _, _, _] [] _ _
        refine am_aload_n dX3_readUnit_51 rfl ?_
        refine am_bipush 41 (v := 41) dX3_readUnit_52 (by decide) ?_
        obtain ⟨M18, hk18, hyp⟩ := bd_some hyp
        try dsimp only at hyp
        refine am_callV [_] dX3_readUnit_54 ml_X3_85 vm_X10_expect (sh_1 g) rfl (fun _ => Nat.le_of_ble_eq_true rfl) (by omega) rfl (ef_X10_expect (d := d + 4) (h := h) g hk18) rfl ?_
        change am_At _ _ _ 57 [_, _, _, _] [] _ _
        refine am_goto (63) 120 dX3_readUnit_57 rfl ?_
        cases hyp
        exact am_vret dX3_readUnit_120 rfl
  · intro hc2n
    have hc2n : ¬ (v1 = 0) := hc2n
    replace hyp := it_neg hc2n hyp
    refine am_aload_n dX3_readUnit_7 rfl ?_
    refine am_bipush 15 (v := 15) dX3_readUnit_8 (by decide) ?_
    refine am_aload_n dX3_readUnit_10 rfl ?_
    refine am_iconst 0 (v := 0) dX3_readUnit_11 (by decide) ?_
    refine am_sipush 999 (v := 999) dX3_readUnit_12 (by decide) ?_
    obtain ⟨⟨v19, M19⟩, hk19, hyp⟩ := bd_some hyp
    try dsimp only at hyp
    refine am_callV [_, _] dX3_readUnit_15 ml_X3_75 vm_X10_number (sh_1 g) rfl (fun _ => Nat.le_of_ble_eq_true rfl) (by omega) rfl (ef_X10_number (d := d + 4) (h := h) g hk19) rfl ?_
    change am_At _ _ _ 18 [_, _, _, _] [_, _, _] _ _
    refine am_iadd dX3_readUnit_18 ?_
    obtain ⟨M20, hk20, hyp⟩ := bd_some hyp
    try dsimp only at hyp
    refine am_callV [_] dX3_readUnit_19 ml_X3_31 vm_X3_add (sh_23 g) rfl (fun _ => Nat.le_of_ble_eq_true rfl) (by omega) rfl (ef_X3_add_24 (d := d + 5) (h := h) g hW hk20) rfl ?_
    change am_At _ _ _ 22 [_, _, _, _] [] _ _
    refine am_goto (98) 120 dX3_readUnit_22 rfl ?_
    cases hyp
    exact am_vret dX3_readUnit_120 rfl
theorem ef_RX3_readUnit_25 {d : Nat} {h : am_H} (g : lay h) (hW : h.2.2 23 0 = some 25 ∧ h.2.2 23 2 = some 24) {x2 : Int32} {r_X3_readSum : Int32 → Mem → Option (Mem)} (er_X3_readSum : ∀ {x2 : Int32} {M M' : Mem} , r_X3_readSum x2 M = some M' → am_Ev (d + 5) mX3_readSum [.inr (23, 0), .inr (1, 0), am_I x2] (am_hM h M) (.inl (none, am_hM h M'))) {r_X3_readProduct : Int32 → Mem → Option (Mem)} (er_X3_readProduct : ∀ {x2 : Int32} {M M' : Mem} , r_X3_readProduct x2 M = some M' → am_Ev (d + 5) mX3_readProduct [.inr (23, 0), .inr (1, 0), am_I x2] (am_hM h M) (.inl (none, am_hM h M'))) {r_X3_readUnit : Int32 → Mem → Option (Mem)} (er_X3_readUnit : ∀ {x2 : Int32} {M M' : Mem} , r_X3_readUnit x2 M = some M' → am_Ev (d + 5) mX3_readUnit [.inr (23, 0), .inr (1, 0), am_I x2] (am_hM h M) (.inl (none, am_hM h M'))) {M : Mem} {M' : Mem} (hyp : f_RX3_readUnit 25 24 r_X3_readSum r_X3_readProduct r_X3_readUnit x2 M = some M') : am_Ev (d + 6) mX3_readUnit [.inr (23, 0), .inr (1, 0), am_I x2] (am_hM h M) (.inl (none, am_hM h M')) := by
  unfold f_RX3_readUnit at hyp
  refine am_Ev.mk (by decide +kernel) rfl rfl (Nat.le_refl _) (Nat.le_refl _) ?_
  change am_At _ _ _ 0 [_, _, _, _] [] _ _
  refine am_aload_n dX3_readUnit_0 rfl ?_
  obtain ⟨⟨v1, M1⟩, hk1, hyp⟩ := bd_some hyp
  try dsimp only at hyp
  refine am_callV [] dX3_readUnit_1 ml_X3_72 vm_X10_isAtDigit (sh_1 g) rfl (fun _ => Nat.le_of_ble_eq_true rfl) (by omega) rfl (ef_X10_isAtDigit (d := d + 4) (h := h) g hk1) rfl ?_
  change am_At _ _ _ 4 [_, _, _, _] [_] _ _
  refine am_if_eq (21) 25 dX3_readUnit_4 rfl ?_ ?_
  · intro hc2
    have hc2 : v1 = 0 := hc2
    replace hyp := it_pos hc2 hyp
    refine am_aload_n dX3_readUnit_25 rfl ?_
    refine am_ldcS (k9 := 3) (text := "(") dX3_readUnit_26 (by decide) ?_
    obtain ⟨⟨v3, M3⟩, hk3, hyp⟩ := bd_some hyp
    try dsimp only at hyp
    refine am_callV [_] dX3_readUnit_28 ml_X3_63 vm_X10_takeOneOf (sh_1 g) rfl (fun _ => Nat.le_of_ble_eq_true rfl) (by omega) rfl (ef_X10_takeOneOf (d := d + 1) (h := h) g (k1 := 3) (by decide)  hk3) rfl ?_
    change am_At _ _ _ 31 [_, _, _, _] [_] _ _
    refine am_iconst (-1) (v := (-1)) dX3_readUnit_31 (by decide) ?_
    refine am_icmp_eq (28) 60 dX3_readUnit_32 rfl ?_ ?_
    · intro hc4
      have hc4 : v3 = (-1 : Int32) := hc4
      replace hyp := it_pos hc4 hyp
      refine am_aload_n dX3_readUnit_60 rfl ?_
      refine am_ldcS (k9 := 4) (text := "hour day board clear bears drains fish fined least most") dX3_readUnit_61 (by decide) ?_
      obtain ⟨⟨v5, M5⟩, hk5, hyp⟩ := bd_some hyp
      try dsimp only at hyp
      refine am_callV [_] dX3_readUnit_63 ml_X3_91 vm_X10_word (sh_1 g) rfl (fun _ => Nat.le_of_ble_eq_true rfl) (by omega) rfl (ef_X10_word (d := d + 0) (h := h) g (k1 := 4) (by decide)  hk5) rfl ?_
      change am_At _ _ _ 66 [_, _, _, _] [_] _ _
      refine am_istore_n dX3_readUnit_66 (am_lb rfl) ?_
      change am_At _ _ _ 67 [_, _, _, _] [] _ _
      refine am_iload_n dX3_readUnit_67 rfl ?_
      refine am_bipush 8 (v := 8) dX3_readUnit_68 (by decide) ?_
      refine am_icmp_lt (45) 115 dX3_readUnit_70 rfl ?_ ?_
      · intro hc6
        have hc6 : v5 < (8 : Int32) := hc6
        replace hyp := it_pos hc6 hyp
        refine am_aload_n dX3_readUnit_115 rfl ?_
        refine am_iload_n dX3_readUnit_116 rfl ?_
        obtain ⟨M7, hk7, hyp⟩ := bd_some hyp
        try dsimp only at hyp
        refine am_callV [_] dX3_readUnit_117 ml_X3_31 vm_X3_add (sh_23 g) rfl (fun _ => Nat.le_of_ble_eq_true rfl) (by omega) rfl (ef_X3_add_25 (d := d + 5) (h := h) g hW hk7) rfl ?_
        change am_At _ _ _ 120 [_, _, _, _] [] _ _
        cases hyp
        exact am_vret dX3_readUnit_120 rfl
      · intro hc6n
        have hc6n : ¬ (v5 < (8 : Int32)) := hc6n
        replace hyp := it_neg hc6n hyp
        refine am_aload_n dX3_readUnit_73 rfl ?_
        refine am_iload_n dX3_readUnit_74 rfl ?_
        refine am_callS (c := 0) (k := 0) (n := 0) (w := 0) [_, _] dX3_readUnit_75 ml_X3_81 sm_X3_isNestedDeeper rfl (fun _ => Nat.le_of_ble_eq_true rfl) (by omega) rfl (ef_X3_isNestedDeeper (d := d + 3) (h := h) g (x1 := x2) (M := M5) rfl) rfl ?_
        change am_At _ _ _ 78 [_, _, _, _] [_] _ _
        refine am_if_eq (37) 115 dX3_readUnit_78 rfl ?_ ?_
        · intro hc8
          have hc8 : ((f_X3_isNestedDeeper x2 M5).1) = 0 := hc8
          replace hyp := it_pos hc8 hyp
          refine am_aload_n dX3_readUnit_115 rfl ?_
          refine am_iload_n dX3_readUnit_116 rfl ?_
          obtain ⟨M9, hk9, hyp⟩ := bd_some hyp
          try dsimp only at hyp
          refine am_callV [_] dX3_readUnit_117 ml_X3_31 vm_X3_add (sh_23 g) rfl (fun _ => Nat.le_of_ble_eq_true rfl) (by omega) rfl (ef_X3_add_25 (d := d + 5) (h := h) g hW hk9) rfl ?_
          change am_At _ _ _ 120 [_, _, _, _] [] _ _
          cases hyp
          exact am_vret dX3_readUnit_120 rfl
        · intro hc8n
          have hc8n : ¬ (((f_X3_isNestedDeeper x2 M5).1) = 0) := hc8n
          replace hyp := it_neg hc8n hyp
          refine am_aload_n dX3_readUnit_81 rfl ?_
          refine am_bipush 91 (v := 91) dX3_readUnit_82 (by decide) ?_
          obtain ⟨M10, hk10, hyp⟩ := bd_some hyp
          try dsimp only at hyp
          refine am_callV [_] dX3_readUnit_84 ml_X3_85 vm_X10_expect (sh_1 g) rfl (fun _ => Nat.le_of_ble_eq_true rfl) (by omega) rfl (ef_X10_expect (d := d + 4) (h := h) g hk10) rfl ?_
          change am_At _ _ _ 87 [_, _, _, _] [] _ _
          refine am_aload_n dX3_readUnit_87 rfl ?_
          refine am_aload_n dX3_readUnit_88 rfl ?_
          refine am_iload_n dX3_readUnit_89 rfl ?_
          refine am_iconst 1 (v := 1) dX3_readUnit_90 (by decide) ?_
          refine am_iadd dX3_readUnit_91 ?_
          obtain ⟨M11, hk11, hyp⟩ := bd_some hyp
          try dsimp only at hyp
          refine am_callV [_, _] dX3_readUnit_92 ml_X3_38 vm_X3_readSum (sh_23 g) rfl (fun _ => Nat.le_of_ble_eq_true rfl) (by omega) rfl (er_X3_readSum hk11) rfl ?_
          change am_At _ _ _ 95 [_, _, _, _] [] _ _
          refine am_aload_n dX3_readUnit_95 rfl ?_
          refine am_bipush 44 (v := 44) dX3_readUnit_96 (by decide) ?_
          obtain ⟨M12, hk12, hyp⟩ := bd_some hyp
          try dsimp only at hyp
          refine am_callV [_] dX3_readUnit_98 ml_X3_85 vm_X10_expect (sh_1 g) rfl (fun _ => Nat.le_of_ble_eq_true rfl) (by omega) rfl (ef_X10_expect (d := d + 4) (h := h) g hk12) rfl ?_
          change am_At _ _ _ 101 [_, _, _, _] [] _ _
          refine am_aload_n dX3_readUnit_101 rfl ?_
          refine am_aload_n dX3_readUnit_102 rfl ?_
          refine am_iload_n dX3_readUnit_103 rfl ?_
          refine am_iconst 1 (v := 1) dX3_readUnit_104 (by decide) ?_
          refine am_iadd dX3_readUnit_105 ?_
          obtain ⟨M13, hk13, hyp⟩ := bd_some hyp
          try dsimp only at hyp
          refine am_callV [_, _] dX3_readUnit_106 ml_X3_38 vm_X3_readSum (sh_23 g) rfl (fun _ => Nat.le_of_ble_eq_true rfl) (by omega) rfl (er_X3_readSum hk13) rfl ?_
          change am_At _ _ _ 109 [_, _, _, _] [] _ _
          refine am_aload_n dX3_readUnit_109 rfl ?_
          refine am_bipush 93 (v := 93) dX3_readUnit_110 (by decide) ?_
          obtain ⟨M14, hk14, hyp⟩ := bd_some hyp
          try dsimp only at hyp
          refine am_callV [_] dX3_readUnit_112 ml_X3_85 vm_X10_expect (sh_1 g) rfl (fun _ => Nat.le_of_ble_eq_true rfl) (by omega) rfl (ef_X10_expect (d := d + 4) (h := h) g hk14) rfl ?_
          change am_At _ _ _ 115 [_, _, _, _] [] _ _
          refine am_aload_n dX3_readUnit_115 rfl ?_
          refine am_iload_n dX3_readUnit_116 rfl ?_
          obtain ⟨M15, hk15, hyp⟩ := bd_some hyp
          try dsimp only at hyp
          refine am_callV [_] dX3_readUnit_117 ml_X3_31 vm_X3_add (sh_23 g) rfl (fun _ => Nat.le_of_ble_eq_true rfl) (by omega) rfl (ef_X3_add_25 (d := d + 5) (h := h) g hW hk15) rfl ?_
          change am_At _ _ _ 120 [_, _, _, _] [] _ _
          cases hyp
          exact am_vret dX3_readUnit_120 rfl
    · intro hc4n
      have hc4n : ¬ (v3 = (-1 : Int32)) := hc4n
      replace hyp := it_neg hc4n hyp
      refine am_aload_n dX3_readUnit_35 rfl ?_
      refine am_iload_n dX3_readUnit_36 rfl ?_
      refine am_callS (c := 0) (k := 0) (n := 0) (w := 0) [_, _] dX3_readUnit_37 ml_X3_81 sm_X3_isNestedDeeper rfl (fun _ => Nat.le_of_ble_eq_true rfl) (by omega) rfl (ef_X3_isNestedDeeper (d := d + 3) (h := h) g (x1 := x2) (M := M3) rfl) rfl ?_
      change am_At _ _ _ 40 [_, _, _, _] [_] _ _
      refine am_if_eq (80) 120 dX3_readUnit_40 rfl ?_ ?_
      · intro hc16
        have hc16 : ((f_X3_isNestedDeeper x2 M3).1) = 0 := hc16
        replace hyp := it_pos hc16 hyp
        cases hyp
        exact am_vret dX3_readUnit_120 rfl
      · intro hc16n
        have hc16n : ¬ (((f_X3_isNestedDeeper x2 M3).1) = 0) := hc16n
        replace hyp := it_neg hc16n hyp
        refine am_aload_n dX3_readUnit_43 rfl ?_
        refine am_aload_n dX3_readUnit_44 rfl ?_
        refine am_iload_n dX3_readUnit_45 rfl ?_
        refine am_iconst 1 (v := 1) dX3_readUnit_46 (by decide) ?_
        refine am_iadd dX3_readUnit_47 ?_
        obtain ⟨M17, hk17, hyp⟩ := bd_some hyp
        try dsimp only at hyp
        refine am_callV [_, _] dX3_readUnit_48 ml_X3_38 vm_X3_readSum (sh_23 g) rfl (fun _ => Nat.le_of_ble_eq_true rfl) (by omega) rfl (er_X3_readSum hk17) rfl ?_
        change am_At _ _ _ 51 [_, _, _, _] [] _ _
        refine am_aload_n dX3_readUnit_51 rfl ?_
        refine am_bipush 41 (v := 41) dX3_readUnit_52 (by decide) ?_
        obtain ⟨M18, hk18, hyp⟩ := bd_some hyp
        try dsimp only at hyp
        refine am_callV [_] dX3_readUnit_54 ml_X3_85 vm_X10_expect (sh_1 g) rfl (fun _ => Nat.le_of_ble_eq_true rfl) (by omega) rfl (ef_X10_expect (d := d + 4) (h := h) g hk18) rfl ?_
        change am_At _ _ _ 57 [_, _, _, _] [] _ _
        refine am_goto (63) 120 dX3_readUnit_57 rfl ?_
        cases hyp
        exact am_vret dX3_readUnit_120 rfl
  · intro hc2n
    have hc2n : ¬ (v1 = 0) := hc2n
    replace hyp := it_neg hc2n hyp
    refine am_aload_n dX3_readUnit_7 rfl ?_
    refine am_bipush 15 (v := 15) dX3_readUnit_8 (by decide) ?_
    refine am_aload_n dX3_readUnit_10 rfl ?_
    refine am_iconst 0 (v := 0) dX3_readUnit_11 (by decide) ?_
    refine am_sipush 999 (v := 999) dX3_readUnit_12 (by decide) ?_
    obtain ⟨⟨v19, M19⟩, hk19, hyp⟩ := bd_some hyp
    try dsimp only at hyp
    refine am_callV [_, _] dX3_readUnit_15 ml_X3_75 vm_X10_number (sh_1 g) rfl (fun _ => Nat.le_of_ble_eq_true rfl) (by omega) rfl (ef_X10_number (d := d + 4) (h := h) g hk19) rfl ?_
    change am_At _ _ _ 18 [_, _, _, _] [_, _, _] _ _
    refine am_iadd dX3_readUnit_18 ?_
    obtain ⟨M20, hk20, hyp⟩ := bd_some hyp
    try dsimp only at hyp
    refine am_callV [_] dX3_readUnit_19 ml_X3_31 vm_X3_add (sh_23 g) rfl (fun _ => Nat.le_of_ble_eq_true rfl) (by omega) rfl (ef_X3_add_25 (d := d + 5) (h := h) g hW hk20) rfl ?_
    change am_At _ _ _ 22 [_, _, _, _] [] _ _
    refine am_goto (98) 120 dX3_readUnit_22 rfl ?_
    cases hyp
    exact am_vret dX3_readUnit_120 rfl
theorem erec_readSum_24 {d : Nat} {h : am_H} (g : lay h) (hW : h.2.2 23 0 = some 24 ∧ h.2.2 23 2 = some 25) : ∀ (n : Nat), (∀ {x2 : Int32} {M M' : Mem} , (rec_readSum 24 25 n).1 x2 M = some M' → am_Ev (d + n + 5) mX3_readSum [.inr (23, 0), .inr (1, 0), am_I x2] (am_hM h M) (.inl (none, am_hM h M'))) ∧ (∀ {x2 : Int32} {M M' : Mem} , (rec_readSum 24 25 n).2.1 x2 M = some M' → am_Ev (d + n + 5) mX3_readProduct [.inr (23, 0), .inr (1, 0), am_I x2] (am_hM h M) (.inl (none, am_hM h M'))) ∧ (∀ {x2 : Int32} {M M' : Mem} , (rec_readSum 24 25 n).2.2 x2 M = some M' → am_Ev (d + n + 5) mX3_readUnit [.inr (23, 0), .inr (1, 0), am_I x2] (am_hM h M) (.inl (none, am_hM h M')))
  | 0 => ⟨(fun hyp => nomatch hyp), (fun hyp => nomatch hyp), (fun hyp => nomatch hyp)⟩
  | n + 1 => ⟨(fun hyp => by
      rw [show d + (n + 1) + 5 = d + n + 6 by omega]
      exact ef_RX3_readSum_24 (d := d + n) g hW (erec_readSum_24 g hW n).1 (erec_readSum_24 g hW n).2.1 (erec_readSum_24 g hW n).2.2 hyp),
    (fun hyp => by
      rw [show d + (n + 1) + 5 = d + n + 6 by omega]
      exact ef_RX3_readProduct_24 (d := d + n) g hW (erec_readSum_24 g hW n).1 (erec_readSum_24 g hW n).2.1 (erec_readSum_24 g hW n).2.2 hyp),
    (fun hyp => by
      rw [show d + (n + 1) + 5 = d + n + 6 by omega]
      exact ef_RX3_readUnit_24 (d := d + n) g hW (erec_readSum_24 g hW n).1 (erec_readSum_24 g hW n).2.1 (erec_readSum_24 g hW n).2.2 hyp)⟩
theorem erec_readSum_25 {d : Nat} {h : am_H} (g : lay h) (hW : h.2.2 23 0 = some 25 ∧ h.2.2 23 2 = some 24) : ∀ (n : Nat), (∀ {x2 : Int32} {M M' : Mem} , (rec_readSum 25 24 n).1 x2 M = some M' → am_Ev (d + n + 5) mX3_readSum [.inr (23, 0), .inr (1, 0), am_I x2] (am_hM h M) (.inl (none, am_hM h M'))) ∧ (∀ {x2 : Int32} {M M' : Mem} , (rec_readSum 25 24 n).2.1 x2 M = some M' → am_Ev (d + n + 5) mX3_readProduct [.inr (23, 0), .inr (1, 0), am_I x2] (am_hM h M) (.inl (none, am_hM h M'))) ∧ (∀ {x2 : Int32} {M M' : Mem} , (rec_readSum 25 24 n).2.2 x2 M = some M' → am_Ev (d + n + 5) mX3_readUnit [.inr (23, 0), .inr (1, 0), am_I x2] (am_hM h M) (.inl (none, am_hM h M')))
  | 0 => ⟨(fun hyp => nomatch hyp), (fun hyp => nomatch hyp), (fun hyp => nomatch hyp)⟩
  | n + 1 => ⟨(fun hyp => by
      rw [show d + (n + 1) + 5 = d + n + 6 by omega]
      exact ef_RX3_readSum_25 (d := d + n) g hW (erec_readSum_25 g hW n).1 (erec_readSum_25 g hW n).2.1 (erec_readSum_25 g hW n).2.2 hyp),
    (fun hyp => by
      rw [show d + (n + 1) + 5 = d + n + 6 by omega]
      exact ef_RX3_readProduct_25 (d := d + n) g hW (erec_readSum_25 g hW n).1 (erec_readSum_25 g hW n).2.1 (erec_readSum_25 g hW n).2.2 hyp),
    (fun hyp => by
      rw [show d + (n + 1) + 5 = d + n + 6 by omega]
      exact ef_RX3_readUnit_25 (d := d + n) g hW (erec_readSum_25 g hW n).1 (erec_readSum_25 g hW n).2.1 (erec_readSum_25 g hW n).2.2 hyp)⟩
theorem ef_X3_readSum_24 {d : Nat} {h : am_H} (g : lay h) (hW : h.2.2 23 0 = some 24 ∧ h.2.2 23 2 = some 25) : ∀ {x2 : Int32} {M M' : Mem} , f_X3_readSum 24 25 x2 M = some M' → am_Ev (d + 35) mX3_readSum [.inr (23, 0), .inr (1, 0), am_I x2] (am_hM h M) (.inl (none, am_hM h M')) := fun hyp => (erec_readSum_24 (d := d) g hW 30).1 hyp
theorem ef_X3_readSum_25 {d : Nat} {h : am_H} (g : lay h) (hW : h.2.2 23 0 = some 25 ∧ h.2.2 23 2 = some 24) : ∀ {x2 : Int32} {M M' : Mem} , f_X3_readSum 25 24 x2 M = some M' → am_Ev (d + 35) mX3_readSum [.inr (23, 0), .inr (1, 0), am_I x2] (am_hM h M) (.inl (none, am_hM h M')) := fun hyp => (erec_readSum_25 (d := d) g hW 30).1 hyp
theorem ef_X3_readProduct_24 {d : Nat} {h : am_H} (g : lay h) (hW : h.2.2 23 0 = some 24 ∧ h.2.2 23 2 = some 25) : ∀ {x2 : Int32} {M M' : Mem} , f_X3_readProduct 24 25 x2 M = some M' → am_Ev (d + 35) mX3_readProduct [.inr (23, 0), .inr (1, 0), am_I x2] (am_hM h M) (.inl (none, am_hM h M')) := fun hyp => (erec_readSum_24 (d := d) g hW 30).2.1 hyp
theorem ef_X3_readProduct_25 {d : Nat} {h : am_H} (g : lay h) (hW : h.2.2 23 0 = some 25 ∧ h.2.2 23 2 = some 24) : ∀ {x2 : Int32} {M M' : Mem} , f_X3_readProduct 25 24 x2 M = some M' → am_Ev (d + 35) mX3_readProduct [.inr (23, 0), .inr (1, 0), am_I x2] (am_hM h M) (.inl (none, am_hM h M')) := fun hyp => (erec_readSum_25 (d := d) g hW 30).2.1 hyp
theorem ef_X3_readUnit_24 {d : Nat} {h : am_H} (g : lay h) (hW : h.2.2 23 0 = some 24 ∧ h.2.2 23 2 = some 25) : ∀ {x2 : Int32} {M M' : Mem} , f_X3_readUnit 24 25 x2 M = some M' → am_Ev (d + 35) mX3_readUnit [.inr (23, 0), .inr (1, 0), am_I x2] (am_hM h M) (.inl (none, am_hM h M')) := fun hyp => (erec_readSum_24 (d := d) g hW 30).2.2 hyp
theorem ef_X3_readUnit_25 {d : Nat} {h : am_H} (g : lay h) (hW : h.2.2 23 0 = some 25 ∧ h.2.2 23 2 = some 24) : ∀ {x2 : Int32} {M M' : Mem} , f_X3_readUnit 25 24 x2 M = some M' → am_Ev (d + 35) mX3_readUnit [.inr (23, 0), .inr (1, 0), am_I x2] (am_hM h M) (.inl (none, am_hM h M')) := fun hyp => (erec_readSum_25 (d := d) g hW 30).2.2 hyp
