theorem eL_X5_setsWith_4 {d : Nat} {h : am_H} (g : lay h) {x1 : Int32} {M : Mem} {r : am_R} (n : Nat) : ∀ (s : Int32 × Int32) (e : Int32), wh (L_X5_setsWith_4 x1 M) n s = some e → ((fun (x2 : Int32) => am_At am_X0 (d + 1) mX5_setsWith 45 [some (.inr (45, 0)), some (am_I (x1)), some (am_I (x2)), none] [] (am_hM h M) r) e) → (match s with | (x2, x3) => am_At am_X0 (d + 1) mX5_setsWith 4 [some (.inr (45, 0)), some (am_I (x1)), some (am_I (x2)), some (am_I (x3))] [] (am_hM h M) r) := by
  refine am_wh (At := fun (s : Int32 × Int32) => match s with | (x2, x3) => am_At am_X0 (d + 1) mX5_setsWith 4 [some (.inr (45, 0)), some (am_I (x1)), some (am_I (x2)), some (am_I (x3))] [] (am_hM h M) r) (Ex := fun (e : Int32) => (fun (x2 : Int32) => am_At am_X0 (d + 1) mX5_setsWith 45 [some (.inr (45, 0)), some (am_I (x1)), some (am_I (x2)), none] [] (am_hM h M) r) e) ?_ n
  rintro ⟨x2, x3⟩ y hyp hx
  unfold L_X5_setsWith_4 at hyp
  try dsimp only at hyp
  change am_At _ _ _ 4 [_, _, _, _] [] _ _
  refine am_iload_n dX5_setsWith_4 rfl ?_
  refine am_aload_n dX5_setsWith_5 rfl ?_
  refine am_callV [] dX5_setsWith_6 ml_X5_77 vm_X5_windows (sh_45 g) rfl (fun _ => Nat.le_of_ble_eq_true rfl) (by omega) rfl (ef_X5_windows (d := d + 0) (h := h) g  (M := M) rfl) rfl ?_
  change am_At _ _ _ 9 [_, _, _, _] [_, _] _ _
  refine am_icmp_ge (36) 45 dX5_setsWith_9 rfl ?_ ?_
  · intro hc1
    have hc1 : ((2 : Int32) <<< ((M 3 0 13) &&& 31)) ≤ x3 := hc1
    replace hyp := it_pos hc1 hyp
    cases hyp
    refine am_At.drop 3 ?_
    exact hx
  · intro hc1n
    have hc1n : ¬ (((2 : Int32) <<< ((M 3 0 13) &&& 31)) ≤ x3) := hc1n
    replace hyp := it_neg hc1n hyp
    refine am_iload_n dX5_setsWith_12 rfl ?_
    refine am_iload_n dX5_setsWith_13 rfl ?_
    refine am_aload_n dX5_setsWith_14 rfl ?_
    refine am_getR 5 0 3 dX5_setsWith_15 fg_X5_27 (sh_45 g) (by decide) rfl (rf_45_0 g) ?_
    refine am_getI 1 13 dX5_setsWith_18 fg_X5_74 (sh_3 g) (by decide) rfl ?_
    refine am_callSN (c := 0) (k := 0) (n := 0) (w := 0) [_, _] dX5_setsWith_21 ml_X5_85 sm_X11_isBitOf rfl (fun _ => Nat.le_of_ble_eq_true rfl) (by omega) rfl (ef_X11_isBitOf (d := d + 0) (h := am_hM h M) (x0 := x3) (x1 := (M 3 0 13))  rfl) rfl ?_
    change am_At _ _ _ 24 [_, _, _, _] [_, _] _ _
    refine am_if_eq (12) 36 dX5_setsWith_24 rfl ?_ ?_
    · intro hc2
      have hc2 : (f_X11_isBitOf x3 (M 3 0 13)) = 0 := hc2
      replace hyp := it_pos hc2 hyp
      refine am_iconst 0 (v := 0) dX5_setsWith_36 (by decide) ?_
      refine am_iadd dX5_setsWith_37 ?_
      refine am_istore_n dX5_setsWith_38 (am_lb rfl) ?_
      change am_At _ _ _ 39 [_, _, _, _] [] _ _
      refine am_iinc dX5_setsWith_39 rfl (am_ix _) ?_
      change am_At _ _ _ 42 [_, _, _, _] [] _ _
      refine am_goto (-38) 4 dX5_setsWith_42 rfl ?_
      cases hyp
      exact hx
    · intro hc2n
      have hc2n : ¬ ((f_X11_isBitOf x3 (M 3 0 13)) = 0) := hc2n
      replace hyp := it_neg hc2n hyp
      refine am_aload_n dX5_setsWith_27 rfl ?_
      refine am_iload_n dX5_setsWith_28 rfl ?_
      refine am_iload_n dX5_setsWith_29 rfl ?_
      obtain ⟨v3, hk3, hyp⟩ := bd_some hyp
      try dsimp only at hyp
      refine am_callV [_, _] dX5_setsWith_30 ml_X5_99 vm_X5_waysBy (sh_45 g) rfl (fun _ => Nat.le_of_ble_eq_true rfl) (by omega) rfl (ef_X5_waysBy (d := d + 0) (h := h) g hk3) rfl ?_
      change am_At _ _ _ 33 [_, _, _, _] [_, _] _ _
      refine am_goto (4) 37 dX5_setsWith_33 rfl ?_
      refine am_iadd dX5_setsWith_37 ?_
      refine am_istore_n dX5_setsWith_38 (am_lb rfl) ?_
      change am_At _ _ _ 39 [_, _, _, _] [] _ _
      refine am_iinc dX5_setsWith_39 rfl (am_ix _) ?_
      change am_At _ _ _ 42 [_, _, _, _] [] _ _
      refine am_goto (-38) 4 dX5_setsWith_42 rfl ?_
      cases hyp
      exact hx
theorem ef_X5_setsWith {d : Nat} {h : am_H} (g : lay h) {x1 : Int32} {M : Mem} {v : Int32} (hyp : f_X5_setsWith x1 M = some v) : am_Ev (d + 1) mX5_setsWith [.inr (45, 0), am_I x1] (am_hM h M) (.inl (some (am_I v), am_hM h M)) := by
  unfold f_X5_setsWith at hyp
  refine am_Ev.mk (by decide +kernel) rfl rfl (Nat.le_refl _) (Nat.le_refl _) ?_
  change am_At _ _ _ 0 [_, _, _, _] [] _ _
  refine am_iconst 0 (v := 0) dX5_setsWith_0 (by decide) ?_
  refine am_istore_n dX5_setsWith_1 (am_lb rfl) ?_
  change am_At _ _ _ 2 [_, _, _, _] [] _ _
  refine am_iconst 0 (v := 0) dX5_setsWith_2 (by decide) ?_
  refine am_istore_n dX5_setsWith_3 (am_lb rfl) ?_
  change am_At _ _ _ 4 [_, _, _, _] [] _ _
  obtain ⟨x2_4, hw4, hyp⟩ := bd_some hyp
  try dsimp only at hyp
  refine eL_X5_setsWith_4 (d := d) (h := h) g (M := M) FU ((0 : Int32), (0 : Int32)) x2_4 hw4 ?_
  change am_At _ _ _ 45 [_, _, _, _] [] _ _
  refine am_iload_n dX5_setsWith_45 rfl ?_
  cases hyp
  exact am_iret dX5_setsWith_46 rfl
theorem ef_X5_smellAt {d : Nat} {h : am_H} (g : lay h) {x1 x2 : Int32} {M : Mem} {v : Int32} (hyp : f_X5_smellAt x1 x2 M = some v) : am_Ev (d + 2) mX5_smellAt [.inr (45, 0), am_I x1, am_I x2] (am_hM h M) (.inl (some (am_I v), am_hM h M)) := by
  unfold f_X5_smellAt at hyp
  refine am_Ev.mk (by decide +kernel) rfl rfl (Nat.le_refl _) (Nat.le_refl _) ?_
  change am_At _ _ _ 0 [_, _, _, _] [] _ _
  refine am_iload_n dX5_smellAt_0 rfl ?_
  refine am_aload_n dX5_smellAt_1 rfl ?_
  refine am_getR 5 0 3 dX5_smellAt_2 fg_X5_27 (sh_45 g) (by decide) rfl (rf_45_0 g) ?_
  refine am_getI 1 13 dX5_smellAt_5 fg_X5_74 (sh_3 g) (by decide) rfl ?_
  refine am_isub dX5_smellAt_8 ?_
  refine am_istore_n dX5_smellAt_9 (am_lb rfl) ?_
  change am_At _ _ _ 10 [_, _, _, _] [] _ _
  refine am_iload_n dX5_smellAt_10 rfl ?_
  refine am_if_ge (10) 21 dX5_smellAt_11 rfl ?_ ?_
  · intro hc1
    have hc1 : 0 ≤ (x1 - (M 3 0 13)) := hc1
    replace hyp := it_pos hc1 hyp
    refine am_iload_n dX5_smellAt_21 rfl ?_
    refine am_iload_n dX5_smellAt_22 rfl ?_
    refine am_ishr dX5_smellAt_23 ?_
    refine am_aload_n dX5_smellAt_24 rfl ?_
    refine am_callV [] dX5_smellAt_25 ml_X5_77 vm_X5_windows (sh_45 g) rfl (fun _ => Nat.le_of_ble_eq_true rfl) (by omega) rfl (ef_X5_windows (d := d + 1) (h := h) g  (M := M) rfl) rfl ?_
    change am_At _ _ _ 28 [_, _, _, _] [_, _] _ _
    refine am_iconst 1 (v := 1) dX5_smellAt_28 (by decide) ?_
    refine am_isub dX5_smellAt_29 ?_
    refine am_iand dX5_smellAt_30 ?_
    obtain ⟨v2, hk2, hyp⟩ := bd_some hyp
    try dsimp only at hyp
    refine am_callS (c := 0) (k := 0) (n := 0) (w := 0) [_] dX5_smellAt_31 ml_X5_81 sm_X5_scentOf rfl (fun _ => Nat.le_of_ble_eq_true rfl) (by omega) rfl (ef_X5_scentOf (d := d + 0) (h := am_hM h M) hk2) rfl ?_
    change am_At _ _ _ 34 [_, _, _, _] [_] _ _
    cases hyp
    exact am_iret dX5_smellAt_34 rfl
  · intro hc1n
    have hc1n : ¬ (0 ≤ (x1 - (M 3 0 13))) := hc1n
    replace hyp := it_neg hc1n hyp
    refine am_iload_n dX5_smellAt_14 rfl ?_
    refine am_iload_n dX5_smellAt_15 rfl ?_
    refine am_ineg dX5_smellAt_16 ?_
    refine am_ishl dX5_smellAt_17 ?_
    refine am_goto (6) 24 dX5_smellAt_18 rfl ?_
    refine am_aload_n dX5_smellAt_24 rfl ?_
    refine am_callV [] dX5_smellAt_25 ml_X5_77 vm_X5_windows (sh_45 g) rfl (fun _ => Nat.le_of_ble_eq_true rfl) (by omega) rfl (ef_X5_windows (d := d + 1) (h := h) g  (M := M) rfl) rfl ?_
    change am_At _ _ _ 28 [_, _, _, _] [_, _] _ _
    refine am_iconst 1 (v := 1) dX5_smellAt_28 (by decide) ?_
    refine am_isub dX5_smellAt_29 ?_
    refine am_iand dX5_smellAt_30 ?_
    obtain ⟨v3, hk3, hyp⟩ := bd_some hyp
    try dsimp only at hyp
    refine am_callS (c := 0) (k := 0) (n := 0) (w := 0) [_] dX5_smellAt_31 ml_X5_81 sm_X5_scentOf rfl (fun _ => Nat.le_of_ble_eq_true rfl) (by omega) rfl (ef_X5_scentOf (d := d + 0) (h := am_hM h M) hk3) rfl ?_
    change am_At _ _ _ 34 [_, _, _, _] [_] _ _
    cases hyp
    exact am_iret dX5_smellAt_34 rfl
theorem eL_X5_weighOn_23_46 {d : Nat} {h : am_H} (g : lay h) (hN : h.2.2 45 1 = some 46 ∧ h.2.2 45 2 = some 47) {x1 x2 : Int32} {M : Mem} {r : am_R} (n : Nat) : ∀ (s : Int32 × Int32) (e : Int32), wh (L_X5_weighOn_23 46 47 x1 x2 M) n s = some e → ((fun (x3 : Int32) => am_At am_X0 (d + 3) mX5_weighOn 77 [some (.inr (45, 0)), some (am_I (x1)), some (am_I (x2)), some (am_I (x3)), none, none] [] (am_hM h M) r) e) → (match s with | (x3, x4) => am_At am_X0 (d + 3) mX5_weighOn 23 [some (.inr (45, 0)), some (am_I (x1)), some (am_I (x2)), some (am_I (x3)), some (am_I (x4)), none] [] (am_hM h M) r) := by
  refine am_wh (At := fun (s : Int32 × Int32) => match s with | (x3, x4) => am_At am_X0 (d + 3) mX5_weighOn 23 [some (.inr (45, 0)), some (am_I (x1)), some (am_I (x2)), some (am_I (x3)), some (am_I (x4)), none] [] (am_hM h M) r) (Ex := fun (e : Int32) => (fun (x3 : Int32) => am_At am_X0 (d + 3) mX5_weighOn 77 [some (.inr (45, 0)), some (am_I (x1)), some (am_I (x2)), some (am_I (x3)), none, none] [] (am_hM h M) r) e) ?_ n
  rintro ⟨x3, x4⟩ y hyp hx
  unfold L_X5_weighOn_23 at hyp
  try dsimp only at hyp
  change am_At _ _ _ 23 [_, _, _, _, _, _] [] _ _
  refine am_iload dX5_weighOn_23 rfl ?_
  refine am_iconst 1 (v := 1) dX5_weighOn_25 (by decide) ?_
  refine am_icmp_gt (51) 77 dX5_weighOn_26 rfl ?_ ?_
  · intro hc2
    have hc2 : (1 : Int32) < x4 := hc2
    replace hyp := it_pos hc2 hyp
    cases hyp
    refine am_At.drop 4 ?_
    exact hx
  · intro hc2n
    have hc2n : ¬ ((1 : Int32) < x4) := hc2n
    replace hyp := it_neg hc2n hyp
    refine am_aload_n dX5_weighOn_29 rfl ?_
    refine am_iload_n dX5_weighOn_30 rfl ?_
    refine am_iload dX5_weighOn_31 rfl ?_
    refine am_callV [_, _] dX5_weighOn_33 ml_X5_102 vm_X5_windowBehind (sh_45 g) rfl (fun _ => Nat.le_of_ble_eq_true rfl) (by omega) rfl (ef_X5_windowBehind (d := d + 2) (h := h) g (x1 := x2) (x2 := x4) (M := M) rfl) rfl ?_
    change am_At _ _ _ 36 [_, _, _, _, _, _] [_] _ _
    refine am_istore dX5_weighOn_36 (am_lb rfl) ?_
    change am_At _ _ _ 38 [_, _, _, _, _, _] [] _ _
    refine am_iload_n dX5_weighOn_38 rfl ?_
    refine am_aload_n dX5_weighOn_39 rfl ?_
    refine am_iload_n dX5_weighOn_40 rfl ?_
    refine am_iconst 1 (v := 1) dX5_weighOn_41 (by decide) ?_
    refine am_iadd dX5_weighOn_42 ?_
    refine am_iload dX5_weighOn_43 rfl ?_
    obtain ⟨v3, hk3, hyp⟩ := bd_some hyp
    try dsimp only at hyp
    refine am_callV [_, _] dX5_weighOn_45 ml_X5_105 vm_X5_isRight (sh_45 g) rfl (fun _ => Nat.le_of_ble_eq_true rfl) (by omega) rfl (ef_X5_isRight_46 (d := d + 0) (h := h) g hN hk3) rfl ?_
    change am_At _ _ _ 48 [_, _, _, _, _, _] [_, _] _ _
    refine am_if_eq (20) 68 dX5_weighOn_48 rfl ?_ ?_
    · intro hc4
      have hc4 : v3 = 0 := hc4
      replace hyp := it_pos hc4 hyp
      refine am_iconst 0 (v := 0) dX5_weighOn_68 (by decide) ?_
      refine am_iadd dX5_weighOn_69 ?_
      refine am_istore_n dX5_weighOn_70 (am_lb rfl) ?_
      change am_At _ _ _ 71 [_, _, _, _, _, _] [] _ _
      refine am_iinc dX5_weighOn_71 rfl (am_ix _) ?_
      change am_At _ _ _ 74 [_, _, _, _, _, _] [] _ _
      refine am_goto (-51) 23 dX5_weighOn_74 rfl ?_
      cases hyp
      refine am_At.drop 5 ?_
      exact hx
    · intro hc4n
      have hc4n : ¬ (v3 = 0) := hc4n
      replace hyp := it_neg hc4n hyp
      refine am_aload_n dX5_weighOn_51 rfl ?_
      refine am_getR 5 5 49 dX5_weighOn_52 fg_X5_21 (sh_45 g) (by decide) rfl (rf_45_5 g) ?_
      refine am_iload_n dX5_weighOn_55 rfl ?_
      refine am_iconst 1 (v := 1) dX5_weighOn_56 (by decide) ?_
      refine am_iadd dX5_weighOn_57 ?_
      refine am_bipush 32 (v := 32) dX5_weighOn_58 (by decide) ?_
      refine am_imul dX5_weighOn_60 ?_
      refine am_iload dX5_weighOn_61 rfl ?_
      refine am_iadd dX5_weighOn_63 ?_
      obtain ⟨hg5, hyp⟩ := gd_some hyp
      refine am_iald dX5_weighOn_64 (am_ia.one (sh_49 g)) (am_lit hg5) ?_
      refine am_goto (4) 69 dX5_weighOn_65 rfl ?_
      refine am_iadd dX5_weighOn_69 ?_
      refine am_istore_n dX5_weighOn_70 (am_lb rfl) ?_
      change am_At _ _ _ 71 [_, _, _, _, _, _] [] _ _
      refine am_iinc dX5_weighOn_71 rfl (am_ix _) ?_
      change am_At _ _ _ 74 [_, _, _, _, _, _] [] _ _
      refine am_goto (-51) 23 dX5_weighOn_74 rfl ?_
      cases hyp
      refine am_At.drop 5 ?_
      exact hx
theorem ef_X5_weighOn_46 {d : Nat} {h : am_H} (g : lay h) (hN : h.2.2 45 1 = some 46 ∧ h.2.2 45 2 = some 47) {x1 x2 : Int32} {M : Mem} {M' : Mem} (hyp : f_X5_weighOn 46 47 x1 x2 M = some M') : am_Ev (d + 3) mX5_weighOn [.inr (45, 0), am_I x1, am_I x2] (am_hM h M) (.inl (none, am_hM h M')) := by
  unfold f_X5_weighOn at hyp
  refine am_Ev.mk (by decide +kernel) rfl rfl (Nat.le_refl _) (Nat.le_refl _) ?_
  change am_At _ _ _ 0 [_, _, _, _, _, _] [] _ _
  refine am_iconst 0 (v := 0) dX5_weighOn_0 (by decide) ?_
  refine am_istore_n dX5_weighOn_1 (am_lb rfl) ?_
  change am_At _ _ _ 2 [_, _, _, _, _, _] [] _ _
  refine am_iload_n dX5_weighOn_2 rfl ?_
  refine am_aload_n dX5_weighOn_3 rfl ?_
  refine am_getR 5 0 3 dX5_weighOn_4 fg_X5_27 (sh_45 g) (by decide) rfl (rf_45_0 g) ?_
  refine am_getI 1 0 dX5_weighOn_7 fg_X5_57 (sh_3 g) (by decide) rfl ?_
  refine am_iconst 1 (v := 1) dX5_weighOn_10 (by decide) ?_
  refine am_isub dX5_weighOn_11 ?_
  refine am_icmp_ne (8) 20 dX5_weighOn_12 rfl ?_ ?_
  · intro hc1n
    have hc1n : ¬ (x1 = ((M 3 0 0) - (1 : Int32))) := hc1n
    replace hyp := it_neg hc1n hyp
    refine am_iconst 0 (v := 0) dX5_weighOn_20 (by decide) ?_
    refine am_istore dX5_weighOn_21 (am_lb rfl) ?_
    change am_At _ _ _ 23 [_, _, _, _, _, _] [] _ _
    obtain ⟨x3_6, hw6, hyp⟩ := bd_some hyp
    try dsimp only at hyp
    refine eL_X5_weighOn_23_46 (d := d) (h := h) g hN (M := M) FU ((0 : Int32), (0 : Int32)) x3_6 hw6 ?_
    change am_At _ _ _ 77 [_, _, _, _, _, _] [] _ _
    refine am_aload_n dX5_weighOn_77 rfl ?_
    refine am_getR 5 5 49 dX5_weighOn_78 fg_X5_21 (sh_45 g) (by decide) rfl (rf_45_5 g) ?_
    refine am_iload_n dX5_weighOn_81 rfl ?_
    refine am_bipush 32 (v := 32) dX5_weighOn_82 (by decide) ?_
    refine am_imul dX5_weighOn_84 ?_
    refine am_iload_n dX5_weighOn_85 rfl ?_
    refine am_iadd dX5_weighOn_86 ?_
    refine am_iload_n dX5_weighOn_87 rfl ?_
    obtain ⟨hg7, hyp⟩ := gd_some hyp
    refine am_iast dX5_weighOn_88 (am_ia.one (sh_49 g)) (am_lit hg7) ?_
    cases hyp
    exact am_vret dX5_weighOn_89 rfl
  · intro hc1
    have hc1 : x1 = ((M 3 0 0) - (1 : Int32)) := hc1
    replace hyp := it_pos hc1 hyp
    refine am_iconst 1 (v := 1) dX5_weighOn_15 (by decide) ?_
    refine am_istore_n dX5_weighOn_16 (am_lb rfl) ?_
    change am_At _ _ _ 17 [_, _, _, _, _, _] [] _ _
    refine am_goto (60) 77 dX5_weighOn_17 rfl ?_
    refine am_aload_n dX5_weighOn_77 rfl ?_
    refine am_getR 5 5 49 dX5_weighOn_78 fg_X5_21 (sh_45 g) (by decide) rfl (rf_45_5 g) ?_
    refine am_iload_n dX5_weighOn_81 rfl ?_
    refine am_bipush 32 (v := 32) dX5_weighOn_82 (by decide) ?_
    refine am_imul dX5_weighOn_84 ?_
    refine am_iload_n dX5_weighOn_85 rfl ?_
    refine am_iadd dX5_weighOn_86 ?_
    refine am_iload_n dX5_weighOn_87 rfl ?_
    obtain ⟨hg8, hyp⟩ := gd_some hyp
    refine am_iast dX5_weighOn_88 (am_ia.one (sh_49 g)) (am_lit hg8) ?_
    cases hyp
    exact am_vret dX5_weighOn_89 rfl
theorem eL_X5_weighOn_23_47 {d : Nat} {h : am_H} (g : lay h) (hN : h.2.2 45 1 = some 47 ∧ h.2.2 45 2 = some 46) {x1 x2 : Int32} {M : Mem} {r : am_R} (n : Nat) : ∀ (s : Int32 × Int32) (e : Int32), wh (L_X5_weighOn_23 47 46 x1 x2 M) n s = some e → ((fun (x3 : Int32) => am_At am_X0 (d + 3) mX5_weighOn 77 [some (.inr (45, 0)), some (am_I (x1)), some (am_I (x2)), some (am_I (x3)), none, none] [] (am_hM h M) r) e) → (match s with | (x3, x4) => am_At am_X0 (d + 3) mX5_weighOn 23 [some (.inr (45, 0)), some (am_I (x1)), some (am_I (x2)), some (am_I (x3)), some (am_I (x4)), none] [] (am_hM h M) r) := by
  refine am_wh (At := fun (s : Int32 × Int32) => match s with | (x3, x4) => am_At am_X0 (d + 3) mX5_weighOn 23 [some (.inr (45, 0)), some (am_I (x1)), some (am_I (x2)), some (am_I (x3)), some (am_I (x4)), none] [] (am_hM h M) r) (Ex := fun (e : Int32) => (fun (x3 : Int32) => am_At am_X0 (d + 3) mX5_weighOn 77 [some (.inr (45, 0)), some (am_I (x1)), some (am_I (x2)), some (am_I (x3)), none, none] [] (am_hM h M) r) e) ?_ n
  rintro ⟨x3, x4⟩ y hyp hx
  unfold L_X5_weighOn_23 at hyp
  try dsimp only at hyp
  change am_At _ _ _ 23 [_, _, _, _, _, _] [] _ _
  refine am_iload dX5_weighOn_23 rfl ?_
  refine am_iconst 1 (v := 1) dX5_weighOn_25 (by decide) ?_
  refine am_icmp_gt (51) 77 dX5_weighOn_26 rfl ?_ ?_
  · intro hc2
    have hc2 : (1 : Int32) < x4 := hc2
    replace hyp := it_pos hc2 hyp
    cases hyp
    refine am_At.drop 4 ?_
    exact hx
  · intro hc2n
    have hc2n : ¬ ((1 : Int32) < x4) := hc2n
    replace hyp := it_neg hc2n hyp
    refine am_aload_n dX5_weighOn_29 rfl ?_
    refine am_iload_n dX5_weighOn_30 rfl ?_
    refine am_iload dX5_weighOn_31 rfl ?_
    refine am_callV [_, _] dX5_weighOn_33 ml_X5_102 vm_X5_windowBehind (sh_45 g) rfl (fun _ => Nat.le_of_ble_eq_true rfl) (by omega) rfl (ef_X5_windowBehind (d := d + 2) (h := h) g (x1 := x2) (x2 := x4) (M := M) rfl) rfl ?_
    change am_At _ _ _ 36 [_, _, _, _, _, _] [_] _ _
    refine am_istore dX5_weighOn_36 (am_lb rfl) ?_
    change am_At _ _ _ 38 [_, _, _, _, _, _] [] _ _
    refine am_iload_n dX5_weighOn_38 rfl ?_
    refine am_aload_n dX5_weighOn_39 rfl ?_
    refine am_iload_n dX5_weighOn_40 rfl ?_
    refine am_iconst 1 (v := 1) dX5_weighOn_41 (by decide) ?_
    refine am_iadd dX5_weighOn_42 ?_
    refine am_iload dX5_weighOn_43 rfl ?_
    obtain ⟨v3, hk3, hyp⟩ := bd_some hyp
    try dsimp only at hyp
    refine am_callV [_, _] dX5_weighOn_45 ml_X5_105 vm_X5_isRight (sh_45 g) rfl (fun _ => Nat.le_of_ble_eq_true rfl) (by omega) rfl (ef_X5_isRight_47 (d := d + 0) (h := h) g hN hk3) rfl ?_
    change am_At _ _ _ 48 [_, _, _, _, _, _] [_, _] _ _
    refine am_if_eq (20) 68 dX5_weighOn_48 rfl ?_ ?_
    · intro hc4
      have hc4 : v3 = 0 := hc4
      replace hyp := it_pos hc4 hyp
      refine am_iconst 0 (v := 0) dX5_weighOn_68 (by decide) ?_
      refine am_iadd dX5_weighOn_69 ?_
      refine am_istore_n dX5_weighOn_70 (am_lb rfl) ?_
      change am_At _ _ _ 71 [_, _, _, _, _, _] [] _ _
      refine am_iinc dX5_weighOn_71 rfl (am_ix _) ?_
      change am_At _ _ _ 74 [_, _, _, _, _, _] [] _ _
      refine am_goto (-51) 23 dX5_weighOn_74 rfl ?_
      cases hyp
      refine am_At.drop 5 ?_
      exact hx
    · intro hc4n
      have hc4n : ¬ (v3 = 0) := hc4n
      replace hyp := it_neg hc4n hyp
      refine am_aload_n dX5_weighOn_51 rfl ?_
      refine am_getR 5 5 49 dX5_weighOn_52 fg_X5_21 (sh_45 g) (by decide) rfl (rf_45_5 g) ?_
      refine am_iload_n dX5_weighOn_55 rfl ?_
      refine am_iconst 1 (v := 1) dX5_weighOn_56 (by decide) ?_
      refine am_iadd dX5_weighOn_57 ?_
      refine am_bipush 32 (v := 32) dX5_weighOn_58 (by decide) ?_
      refine am_imul dX5_weighOn_60 ?_
      refine am_iload dX5_weighOn_61 rfl ?_
      refine am_iadd dX5_weighOn_63 ?_
      obtain ⟨hg5, hyp⟩ := gd_some hyp
      refine am_iald dX5_weighOn_64 (am_ia.one (sh_49 g)) (am_lit hg5) ?_
      refine am_goto (4) 69 dX5_weighOn_65 rfl ?_
      refine am_iadd dX5_weighOn_69 ?_
      refine am_istore_n dX5_weighOn_70 (am_lb rfl) ?_
      change am_At _ _ _ 71 [_, _, _, _, _, _] [] _ _
      refine am_iinc dX5_weighOn_71 rfl (am_ix _) ?_
      change am_At _ _ _ 74 [_, _, _, _, _, _] [] _ _
      refine am_goto (-51) 23 dX5_weighOn_74 rfl ?_
      cases hyp
      refine am_At.drop 5 ?_
      exact hx
theorem ef_X5_weighOn_47 {d : Nat} {h : am_H} (g : lay h) (hN : h.2.2 45 1 = some 47 ∧ h.2.2 45 2 = some 46) {x1 x2 : Int32} {M : Mem} {M' : Mem} (hyp : f_X5_weighOn 47 46 x1 x2 M = some M') : am_Ev (d + 3) mX5_weighOn [.inr (45, 0), am_I x1, am_I x2] (am_hM h M) (.inl (none, am_hM h M')) := by
  unfold f_X5_weighOn at hyp
  refine am_Ev.mk (by decide +kernel) rfl rfl (Nat.le_refl _) (Nat.le_refl _) ?_
  change am_At _ _ _ 0 [_, _, _, _, _, _] [] _ _
  refine am_iconst 0 (v := 0) dX5_weighOn_0 (by decide) ?_
  refine am_istore_n dX5_weighOn_1 (am_lb rfl) ?_
  change am_At _ _ _ 2 [_, _, _, _, _, _] [] _ _
  refine am_iload_n dX5_weighOn_2 rfl ?_
  refine am_aload_n dX5_weighOn_3 rfl ?_
  refine am_getR 5 0 3 dX5_weighOn_4 fg_X5_27 (sh_45 g) (by decide) rfl (rf_45_0 g) ?_
  refine am_getI 1 0 dX5_weighOn_7 fg_X5_57 (sh_3 g) (by decide) rfl ?_
  refine am_iconst 1 (v := 1) dX5_weighOn_10 (by decide) ?_
  refine am_isub dX5_weighOn_11 ?_
  refine am_icmp_ne (8) 20 dX5_weighOn_12 rfl ?_ ?_
  · intro hc1n
    have hc1n : ¬ (x1 = ((M 3 0 0) - (1 : Int32))) := hc1n
    replace hyp := it_neg hc1n hyp
    refine am_iconst 0 (v := 0) dX5_weighOn_20 (by decide) ?_
    refine am_istore dX5_weighOn_21 (am_lb rfl) ?_
    change am_At _ _ _ 23 [_, _, _, _, _, _] [] _ _
    obtain ⟨x3_6, hw6, hyp⟩ := bd_some hyp
    try dsimp only at hyp
    refine eL_X5_weighOn_23_47 (d := d) (h := h) g hN (M := M) FU ((0 : Int32), (0 : Int32)) x3_6 hw6 ?_
    change am_At _ _ _ 77 [_, _, _, _, _, _] [] _ _
    refine am_aload_n dX5_weighOn_77 rfl ?_
    refine am_getR 5 5 49 dX5_weighOn_78 fg_X5_21 (sh_45 g) (by decide) rfl (rf_45_5 g) ?_
    refine am_iload_n dX5_weighOn_81 rfl ?_
    refine am_bipush 32 (v := 32) dX5_weighOn_82 (by decide) ?_
    refine am_imul dX5_weighOn_84 ?_
    refine am_iload_n dX5_weighOn_85 rfl ?_
    refine am_iadd dX5_weighOn_86 ?_
    refine am_iload_n dX5_weighOn_87 rfl ?_
    obtain ⟨hg7, hyp⟩ := gd_some hyp
    refine am_iast dX5_weighOn_88 (am_ia.one (sh_49 g)) (am_lit hg7) ?_
    cases hyp
    exact am_vret dX5_weighOn_89 rfl
  · intro hc1
    have hc1 : x1 = ((M 3 0 0) - (1 : Int32)) := hc1
    replace hyp := it_pos hc1 hyp
    refine am_iconst 1 (v := 1) dX5_weighOn_15 (by decide) ?_
    refine am_istore_n dX5_weighOn_16 (am_lb rfl) ?_
    change am_At _ _ _ 17 [_, _, _, _, _, _] [] _ _
    refine am_goto (60) 77 dX5_weighOn_17 rfl ?_
    refine am_aload_n dX5_weighOn_77 rfl ?_
    refine am_getR 5 5 49 dX5_weighOn_78 fg_X5_21 (sh_45 g) (by decide) rfl (rf_45_5 g) ?_
    refine am_iload_n dX5_weighOn_81 rfl ?_
    refine am_bipush 32 (v := 32) dX5_weighOn_82 (by decide) ?_
    refine am_imul dX5_weighOn_84 ?_
    refine am_iload_n dX5_weighOn_85 rfl ?_
    refine am_iadd dX5_weighOn_86 ?_
    refine am_iload_n dX5_weighOn_87 rfl ?_
    obtain ⟨hg8, hyp⟩ := gd_some hyp
    refine am_iast dX5_weighOn_88 (am_ia.one (sh_49 g)) (am_lit hg8) ?_
    cases hyp
    exact am_vret dX5_weighOn_89 rfl
theorem eL_X5_weighTo_31_46 {d : Nat} {h : am_H} (g : lay h) (hN : h.2.2 45 1 = some 46 ∧ h.2.2 45 2 = some 47) {x1 x2 x3 : Int32} {r : am_R} (n : Nat) : ∀ (s : Int32 × Mem) (e : Mem), wh (L_X5_weighTo_31 46 47 x1 x2 x3) n s = some e → ((fun (M : Mem) => am_At am_X0 (d + 3) mX5_weighTo 78 [some (.inr (45, 0)), some (am_I (x1)), some (am_I (x2)), some (am_I (x3)), none, none] [] (am_hM h M) r) e) → (match s with | (x4, M) => am_At am_X0 (d + 3) mX5_weighTo 31 [some (.inr (45, 0)), some (am_I (x1)), some (am_I (x2)), some (am_I (x3)), some (am_I (x4)), none] [] (am_hM h M) r) := by
  refine am_wh (At := fun (s : Int32 × Mem) => match s with | (x4, M) => am_At am_X0 (d + 3) mX5_weighTo 31 [some (.inr (45, 0)), some (am_I (x1)), some (am_I (x2)), some (am_I (x3)), some (am_I (x4)), none] [] (am_hM h M) r) (Ex := fun (e : Mem) => (fun (M : Mem) => am_At am_X0 (d + 3) mX5_weighTo 78 [some (.inr (45, 0)), some (am_I (x1)), some (am_I (x2)), some (am_I (x3)), none, none] [] (am_hM h M) r) e) ?_ n
  rintro ⟨x4, M⟩ y hyp hx
  unfold L_X5_weighTo_31 at hyp
  try dsimp only at hyp
  change am_At _ _ _ 31 [_, _, _, _, _, _] [] _ _
  refine am_iload dX5_weighTo_31 rfl ?_
  refine am_iconst 1 (v := 1) dX5_weighTo_33 (by decide) ?_
  refine am_icmp_gt (44) 78 dX5_weighTo_34 rfl ?_ ?_
  · intro hc3
    have hc3 : (1 : Int32) < x4 := hc3
    replace hyp := it_pos hc3 hyp
    cases hyp
    refine am_At.drop 4 ?_
    exact hx
  · intro hc3n
    have hc3n : ¬ ((1 : Int32) < x4) := hc3n
    replace hyp := it_neg hc3n hyp
    refine am_aload_n dX5_weighTo_37 rfl ?_
    refine am_iload_n dX5_weighTo_38 rfl ?_
    refine am_iload dX5_weighTo_39 rfl ?_
    refine am_callV [_, _] dX5_weighTo_41 ml_X5_102 vm_X5_windowBehind (sh_45 g) rfl (fun _ => Nat.le_of_ble_eq_true rfl) (by omega) rfl (ef_X5_windowBehind (d := d + 2) (h := h) g (x1 := x2) (x2 := x4) (M := M) rfl) rfl ?_
    change am_At _ _ _ 44 [_, _, _, _, _, _] [_] _ _
    refine am_istore dX5_weighTo_44 (am_lb rfl) ?_
    change am_At _ _ _ 46 [_, _, _, _, _, _] [] _ _
    refine am_aload_n dX5_weighTo_46 rfl ?_
    refine am_iload_n dX5_weighTo_47 rfl ?_
    refine am_iload dX5_weighTo_48 rfl ?_
    obtain ⟨v4, hk4, hyp⟩ := bd_some hyp
    try dsimp only at hyp
    refine am_callV [_, _] dX5_weighTo_50 ml_X5_105 vm_X5_isRight (sh_45 g) rfl (fun _ => Nat.le_of_ble_eq_true rfl) (by omega) rfl (ef_X5_isRight_46 (d := d + 0) (h := h) g hN hk4) rfl ?_
    change am_At _ _ _ 53 [_, _, _, _, _, _] [_] _ _
    refine am_if_eq (19) 72 dX5_weighTo_53 rfl ?_ ?_
    · intro hc5
      have hc5 : v4 = 0 := hc5
      replace hyp := it_pos hc5 hyp
      refine am_iinc dX5_weighTo_72 rfl (am_ix _) ?_
      change am_At _ _ _ 75 [_, _, _, _, _, _] [] _ _
      refine am_goto (-44) 31 dX5_weighTo_75 rfl ?_
      cases hyp
      refine am_At.drop 5 ?_
      exact hx
    · intro hc5n
      have hc5n : ¬ (v4 = 0) := hc5n
      replace hyp := it_neg hc5n hyp
      refine am_aload_n dX5_weighTo_56 rfl ?_
      refine am_getR 5 4 48 dX5_weighTo_57 fg_X5_18 (sh_45 g) (by decide) rfl (rf_45_4 g) ?_
      refine am_iload_n dX5_weighTo_60 rfl ?_
      refine am_bipush 32 (v := 32) dX5_weighTo_61 (by decide) ?_
      refine am_imul dX5_weighTo_63 ?_
      refine am_iload dX5_weighTo_64 rfl ?_
      refine am_iadd dX5_weighTo_66 ?_
      refine am_dup2 dX5_weighTo_67 (fun _ => rfl) (fun _ => rfl) ?_
      obtain ⟨hg6, hyp⟩ := gd_some hyp
      refine am_iald dX5_weighTo_68 (am_ia.one (sh_48 g)) (am_lit hg6) ?_
      refine am_iload_n dX5_weighTo_69 rfl ?_
      refine am_iadd dX5_weighTo_70 ?_
      refine am_iast dX5_weighTo_71 (am_ia.one (sh_48 g)) (am_lit hg6) ?_
      refine am_iinc dX5_weighTo_72 rfl (am_ix _) ?_
      change am_At _ _ _ 75 [_, _, _, _, _, _] [] _ _
      refine am_goto (-44) 31 dX5_weighTo_75 rfl ?_
      cases hyp
      refine am_At.drop 5 ?_
      exact hx
theorem ef_X5_weighTo_46 {d : Nat} {h : am_H} (g : lay h) (hN : h.2.2 45 1 = some 46 ∧ h.2.2 45 2 = some 47) {x1 x2 : Int32} {M : Mem} {M' : Mem} (hyp : f_X5_weighTo 46 47 x1 x2 M = some M') : am_Ev (d + 3) mX5_weighTo [.inr (45, 0), am_I x1, am_I x2] (am_hM h M) (.inl (none, am_hM h M')) := by
  unfold f_X5_weighTo at hyp
  refine am_Ev.mk (by decide +kernel) rfl rfl (Nat.le_refl _) (Nat.le_refl _) ?_
  change am_At _ _ _ 0 [_, _, _, _, _, _] [] _ _
  refine am_iload_n dX5_weighTo_0 rfl ?_
  refine am_if_ne (7) 8 dX5_weighTo_1 rfl ?_ ?_
  · intro hc1n
    have hc1n : ¬ (x2 = 0) := hc1n
    replace hyp := it_neg hc1n hyp
    refine am_iconst 0 (v := 0) dX5_weighTo_8 (by decide) ?_
    refine am_istore_n dX5_weighTo_9 (am_lb rfl) ?_
    change am_At _ _ _ 10 [_, _, _, _, _, _] [] _ _
    refine am_iload_n dX5_weighTo_10 rfl ?_
    refine am_if_le (17) 28 dX5_weighTo_11 rfl ?_ ?_
    · intro hc2
      have hc2 : x1 ≤ 0 := hc2
      replace hyp := it_pos hc2 hyp
      refine am_iconst 0 (v := 0) dX5_weighTo_28 (by decide) ?_
      refine am_istore dX5_weighTo_29 (am_lb rfl) ?_
      change am_At _ _ _ 31 [_, _, _, _, _, _] [] _ _
      obtain ⟨M7, hw7, hyp⟩ := bd_some hyp
      try dsimp only at hyp
      refine eL_X5_weighTo_31_46 (d := d) (h := h) g hN  FU ((0 : Int32), M) M7 hw7 ?_
      change am_At _ _ _ 78 [_, _, _, _, _, _] [] _ _
      cases hyp
      exact am_vret dX5_weighTo_78 rfl
    · intro hc2n
      have hc2n : ¬ (x1 ≤ 0) := hc2n
      replace hyp := it_neg hc2n hyp
      refine am_aload_n dX5_weighTo_14 rfl ?_
      refine am_getR 5 4 48 dX5_weighTo_15 fg_X5_18 (sh_45 g) (by decide) rfl (rf_45_4 g) ?_
      refine am_iload_n dX5_weighTo_18 rfl ?_
      refine am_iconst 1 (v := 1) dX5_weighTo_19 (by decide) ?_
      refine am_isub dX5_weighTo_20 ?_
      refine am_bipush 32 (v := 32) dX5_weighTo_21 (by decide) ?_
      refine am_imul dX5_weighTo_23 ?_
      refine am_iload_n dX5_weighTo_24 rfl ?_
      refine am_iadd dX5_weighTo_25 ?_
      obtain ⟨hg8, hyp⟩ := gd_some hyp
      refine am_iald dX5_weighTo_26 (am_ia.one (sh_48 g)) (am_lit hg8) ?_
      refine am_istore_n dX5_weighTo_27 (am_lb rfl) ?_
      change am_At _ _ _ 28 [_, _, _, _, _, _] [] _ _
      refine am_iconst 0 (v := 0) dX5_weighTo_28 (by decide) ?_
      refine am_istore dX5_weighTo_29 (am_lb rfl) ?_
      change am_At _ _ _ 31 [_, _, _, _, _, _] [] _ _
      obtain ⟨M9, hw9, hyp⟩ := bd_some hyp
      try dsimp only at hyp
      refine eL_X5_weighTo_31_46 (d := d) (h := h) g hN  FU ((0 : Int32), M) M9 hw9 ?_
      change am_At _ _ _ 78 [_, _, _, _, _, _] [] _ _
      cases hyp
      exact am_vret dX5_weighTo_78 rfl
  · intro hc1
    have hc1 : x2 = 0 := hc1
    replace hyp := it_pos hc1 hyp
    refine am_iconst 1 (v := 1) dX5_weighTo_4 (by decide) ?_
    refine am_goto (4) 9 dX5_weighTo_5 rfl ?_
    refine am_istore_n dX5_weighTo_9 (am_lb rfl) ?_
    change am_At _ _ _ 10 [_, _, _, _, _, _] [] _ _
    refine am_iload_n dX5_weighTo_10 rfl ?_
    refine am_if_le (17) 28 dX5_weighTo_11 rfl ?_ ?_
    · intro hc10
      have hc10 : x1 ≤ 0 := hc10
      replace hyp := it_pos hc10 hyp
      refine am_iconst 0 (v := 0) dX5_weighTo_28 (by decide) ?_
      refine am_istore dX5_weighTo_29 (am_lb rfl) ?_
      change am_At _ _ _ 31 [_, _, _, _, _, _] [] _ _
      obtain ⟨M11, hw11, hyp⟩ := bd_some hyp
      try dsimp only at hyp
      refine eL_X5_weighTo_31_46 (d := d) (h := h) g hN  FU ((0 : Int32), M) M11 hw11 ?_
      change am_At _ _ _ 78 [_, _, _, _, _, _] [] _ _
      cases hyp
      exact am_vret dX5_weighTo_78 rfl
    · intro hc10n
      have hc10n : ¬ (x1 ≤ 0) := hc10n
      replace hyp := it_neg hc10n hyp
      refine am_aload_n dX5_weighTo_14 rfl ?_
      refine am_getR 5 4 48 dX5_weighTo_15 fg_X5_18 (sh_45 g) (by decide) rfl (rf_45_4 g) ?_
      refine am_iload_n dX5_weighTo_18 rfl ?_
      refine am_iconst 1 (v := 1) dX5_weighTo_19 (by decide) ?_
      refine am_isub dX5_weighTo_20 ?_
      refine am_bipush 32 (v := 32) dX5_weighTo_21 (by decide) ?_
      refine am_imul dX5_weighTo_23 ?_
      refine am_iload_n dX5_weighTo_24 rfl ?_
      refine am_iadd dX5_weighTo_25 ?_
      obtain ⟨hg12, hyp⟩ := gd_some hyp
      refine am_iald dX5_weighTo_26 (am_ia.one (sh_48 g)) (am_lit hg12) ?_
      refine am_istore_n dX5_weighTo_27 (am_lb rfl) ?_
      change am_At _ _ _ 28 [_, _, _, _, _, _] [] _ _
      refine am_iconst 0 (v := 0) dX5_weighTo_28 (by decide) ?_
      refine am_istore dX5_weighTo_29 (am_lb rfl) ?_
      change am_At _ _ _ 31 [_, _, _, _, _, _] [] _ _
      obtain ⟨M13, hw13, hyp⟩ := bd_some hyp
      try dsimp only at hyp
      refine eL_X5_weighTo_31_46 (d := d) (h := h) g hN  FU ((0 : Int32), M) M13 hw13 ?_
      change am_At _ _ _ 78 [_, _, _, _, _, _] [] _ _
      cases hyp
      exact am_vret dX5_weighTo_78 rfl
theorem eL_X5_weighTo_31_47 {d : Nat} {h : am_H} (g : lay h) (hN : h.2.2 45 1 = some 47 ∧ h.2.2 45 2 = some 46) {x1 x2 x3 : Int32} {r : am_R} (n : Nat) : ∀ (s : Int32 × Mem) (e : Mem), wh (L_X5_weighTo_31 47 46 x1 x2 x3) n s = some e → ((fun (M : Mem) => am_At am_X0 (d + 3) mX5_weighTo 78 [some (.inr (45, 0)), some (am_I (x1)), some (am_I (x2)), some (am_I (x3)), none, none] [] (am_hM h M) r) e) → (match s with | (x4, M) => am_At am_X0 (d + 3) mX5_weighTo 31 [some (.inr (45, 0)), some (am_I (x1)), some (am_I (x2)), some (am_I (x3)), some (am_I (x4)), none] [] (am_hM h M) r) := by
  refine am_wh (At := fun (s : Int32 × Mem) => match s with | (x4, M) => am_At am_X0 (d + 3) mX5_weighTo 31 [some (.inr (45, 0)), some (am_I (x1)), some (am_I (x2)), some (am_I (x3)), some (am_I (x4)), none] [] (am_hM h M) r) (Ex := fun (e : Mem) => (fun (M : Mem) => am_At am_X0 (d + 3) mX5_weighTo 78 [some (.inr (45, 0)), some (am_I (x1)), some (am_I (x2)), some (am_I (x3)), none, none] [] (am_hM h M) r) e) ?_ n
  rintro ⟨x4, M⟩ y hyp hx
  unfold L_X5_weighTo_31 at hyp
  try dsimp only at hyp
  change am_At _ _ _ 31 [_, _, _, _, _, _] [] _ _
  refine am_iload dX5_weighTo_31 rfl ?_
  refine am_iconst 1 (v := 1) dX5_weighTo_33 (by decide) ?_
  refine am_icmp_gt (44) 78 dX5_weighTo_34 rfl ?_ ?_
  · intro hc3
    have hc3 : (1 : Int32) < x4 := hc3
    replace hyp := it_pos hc3 hyp
    cases hyp
    refine am_At.drop 4 ?_
    exact hx
  · intro hc3n
    have hc3n : ¬ ((1 : Int32) < x4) := hc3n
    replace hyp := it_neg hc3n hyp
    refine am_aload_n dX5_weighTo_37 rfl ?_
    refine am_iload_n dX5_weighTo_38 rfl ?_
    refine am_iload dX5_weighTo_39 rfl ?_
    refine am_callV [_, _] dX5_weighTo_41 ml_X5_102 vm_X5_windowBehind (sh_45 g) rfl (fun _ => Nat.le_of_ble_eq_true rfl) (by omega) rfl (ef_X5_windowBehind (d := d + 2) (h := h) g (x1 := x2) (x2 := x4) (M := M) rfl) rfl ?_
    change am_At _ _ _ 44 [_, _, _, _, _, _] [_] _ _
    refine am_istore dX5_weighTo_44 (am_lb rfl) ?_
    change am_At _ _ _ 46 [_, _, _, _, _, _] [] _ _
    refine am_aload_n dX5_weighTo_46 rfl ?_
    refine am_iload_n dX5_weighTo_47 rfl ?_
    refine am_iload dX5_weighTo_48 rfl ?_
    obtain ⟨v4, hk4, hyp⟩ := bd_some hyp
    try dsimp only at hyp
    refine am_callV [_, _] dX5_weighTo_50 ml_X5_105 vm_X5_isRight (sh_45 g) rfl (fun _ => Nat.le_of_ble_eq_true rfl) (by omega) rfl (ef_X5_isRight_47 (d := d + 0) (h := h) g hN hk4) rfl ?_
    change am_At _ _ _ 53 [_, _, _, _, _, _] [_] _ _
    refine am_if_eq (19) 72 dX5_weighTo_53 rfl ?_ ?_
    · intro hc5
      have hc5 : v4 = 0 := hc5
      replace hyp := it_pos hc5 hyp
      refine am_iinc dX5_weighTo_72 rfl (am_ix _) ?_
      change am_At _ _ _ 75 [_, _, _, _, _, _] [] _ _
      refine am_goto (-44) 31 dX5_weighTo_75 rfl ?_
      cases hyp
      refine am_At.drop 5 ?_
      exact hx
    · intro hc5n
      have hc5n : ¬ (v4 = 0) := hc5n
      replace hyp := it_neg hc5n hyp
      refine am_aload_n dX5_weighTo_56 rfl ?_
      refine am_getR 5 4 48 dX5_weighTo_57 fg_X5_18 (sh_45 g) (by decide) rfl (rf_45_4 g) ?_
      refine am_iload_n dX5_weighTo_60 rfl ?_
      refine am_bipush 32 (v := 32) dX5_weighTo_61 (by decide) ?_
      refine am_imul dX5_weighTo_63 ?_
      refine am_iload dX5_weighTo_64 rfl ?_
      refine am_iadd dX5_weighTo_66 ?_
      refine am_dup2 dX5_weighTo_67 (fun _ => rfl) (fun _ => rfl) ?_
      obtain ⟨hg6, hyp⟩ := gd_some hyp
      refine am_iald dX5_weighTo_68 (am_ia.one (sh_48 g)) (am_lit hg6) ?_
      refine am_iload_n dX5_weighTo_69 rfl ?_
      refine am_iadd dX5_weighTo_70 ?_
      refine am_iast dX5_weighTo_71 (am_ia.one (sh_48 g)) (am_lit hg6) ?_
      refine am_iinc dX5_weighTo_72 rfl (am_ix _) ?_
      change am_At _ _ _ 75 [_, _, _, _, _, _] [] _ _
      refine am_goto (-44) 31 dX5_weighTo_75 rfl ?_
      cases hyp
      refine am_At.drop 5 ?_
      exact hx
theorem ef_X5_weighTo_47 {d : Nat} {h : am_H} (g : lay h) (hN : h.2.2 45 1 = some 47 ∧ h.2.2 45 2 = some 46) {x1 x2 : Int32} {M : Mem} {M' : Mem} (hyp : f_X5_weighTo 47 46 x1 x2 M = some M') : am_Ev (d + 3) mX5_weighTo [.inr (45, 0), am_I x1, am_I x2] (am_hM h M) (.inl (none, am_hM h M')) := by
  unfold f_X5_weighTo at hyp
  refine am_Ev.mk (by decide +kernel) rfl rfl (Nat.le_refl _) (Nat.le_refl _) ?_
  change am_At _ _ _ 0 [_, _, _, _, _, _] [] _ _
  refine am_iload_n dX5_weighTo_0 rfl ?_
  refine am_if_ne (7) 8 dX5_weighTo_1 rfl ?_ ?_
  · intro hc1n
    have hc1n : ¬ (x2 = 0) := hc1n
    replace hyp := it_neg hc1n hyp
    refine am_iconst 0 (v := 0) dX5_weighTo_8 (by decide) ?_
    refine am_istore_n dX5_weighTo_9 (am_lb rfl) ?_
    change am_At _ _ _ 10 [_, _, _, _, _, _] [] _ _
    refine am_iload_n dX5_weighTo_10 rfl ?_
    refine am_if_le (17) 28 dX5_weighTo_11 rfl ?_ ?_
    · intro hc2
      have hc2 : x1 ≤ 0 := hc2
      replace hyp := it_pos hc2 hyp
      refine am_iconst 0 (v := 0) dX5_weighTo_28 (by decide) ?_
      refine am_istore dX5_weighTo_29 (am_lb rfl) ?_
      change am_At _ _ _ 31 [_, _, _, _, _, _] [] _ _
      obtain ⟨M7, hw7, hyp⟩ := bd_some hyp
      try dsimp only at hyp
      refine eL_X5_weighTo_31_47 (d := d) (h := h) g hN  FU ((0 : Int32), M) M7 hw7 ?_
      change am_At _ _ _ 78 [_, _, _, _, _, _] [] _ _
      cases hyp
      exact am_vret dX5_weighTo_78 rfl
    · intro hc2n
      have hc2n : ¬ (x1 ≤ 0) := hc2n
      replace hyp := it_neg hc2n hyp
      refine am_aload_n dX5_weighTo_14 rfl ?_
      refine am_getR 5 4 48 dX5_weighTo_15 fg_X5_18 (sh_45 g) (by decide) rfl (rf_45_4 g) ?_
      refine am_iload_n dX5_weighTo_18 rfl ?_
      refine am_iconst 1 (v := 1) dX5_weighTo_19 (by decide) ?_
      refine am_isub dX5_weighTo_20 ?_
      refine am_bipush 32 (v := 32) dX5_weighTo_21 (by decide) ?_
      refine am_imul dX5_weighTo_23 ?_
      refine am_iload_n dX5_weighTo_24 rfl ?_
      refine am_iadd dX5_weighTo_25 ?_
      obtain ⟨hg8, hyp⟩ := gd_some hyp
      refine am_iald dX5_weighTo_26 (am_ia.one (sh_48 g)) (am_lit hg8) ?_
      refine am_istore_n dX5_weighTo_27 (am_lb rfl) ?_
      change am_At _ _ _ 28 [_, _, _, _, _, _] [] _ _
      refine am_iconst 0 (v := 0) dX5_weighTo_28 (by decide) ?_
      refine am_istore dX5_weighTo_29 (am_lb rfl) ?_
      change am_At _ _ _ 31 [_, _, _, _, _, _] [] _ _
      obtain ⟨M9, hw9, hyp⟩ := bd_some hyp
      try dsimp only at hyp
      refine eL_X5_weighTo_31_47 (d := d) (h := h) g hN  FU ((0 : Int32), M) M9 hw9 ?_
      change am_At _ _ _ 78 [_, _, _, _, _, _] [] _ _
      cases hyp
      exact am_vret dX5_weighTo_78 rfl
  · intro hc1
    have hc1 : x2 = 0 := hc1
    replace hyp := it_pos hc1 hyp
    refine am_iconst 1 (v := 1) dX5_weighTo_4 (by decide) ?_
    refine am_goto (4) 9 dX5_weighTo_5 rfl ?_
    refine am_istore_n dX5_weighTo_9 (am_lb rfl) ?_
    change am_At _ _ _ 10 [_, _, _, _, _, _] [] _ _
    refine am_iload_n dX5_weighTo_10 rfl ?_
    refine am_if_le (17) 28 dX5_weighTo_11 rfl ?_ ?_
    · intro hc10
      have hc10 : x1 ≤ 0 := hc10
      replace hyp := it_pos hc10 hyp
      refine am_iconst 0 (v := 0) dX5_weighTo_28 (by decide) ?_
      refine am_istore dX5_weighTo_29 (am_lb rfl) ?_
      change am_At _ _ _ 31 [_, _, _, _, _, _] [] _ _
      obtain ⟨M11, hw11, hyp⟩ := bd_some hyp
      try dsimp only at hyp
      refine eL_X5_weighTo_31_47 (d := d) (h := h) g hN  FU ((0 : Int32), M) M11 hw11 ?_
      change am_At _ _ _ 78 [_, _, _, _, _, _] [] _ _
      cases hyp
      exact am_vret dX5_weighTo_78 rfl
    · intro hc10n
      have hc10n : ¬ (x1 ≤ 0) := hc10n
      replace hyp := it_neg hc10n hyp
      refine am_aload_n dX5_weighTo_14 rfl ?_
      refine am_getR 5 4 48 dX5_weighTo_15 fg_X5_18 (sh_45 g) (by decide) rfl (rf_45_4 g) ?_
      refine am_iload_n dX5_weighTo_18 rfl ?_
      refine am_iconst 1 (v := 1) dX5_weighTo_19 (by decide) ?_
      refine am_isub dX5_weighTo_20 ?_
      refine am_bipush 32 (v := 32) dX5_weighTo_21 (by decide) ?_
      refine am_imul dX5_weighTo_23 ?_
      refine am_iload_n dX5_weighTo_24 rfl ?_
      refine am_iadd dX5_weighTo_25 ?_
      obtain ⟨hg12, hyp⟩ := gd_some hyp
      refine am_iald dX5_weighTo_26 (am_ia.one (sh_48 g)) (am_lit hg12) ?_
      refine am_istore_n dX5_weighTo_27 (am_lb rfl) ?_
      change am_At _ _ _ 28 [_, _, _, _, _, _] [] _ _
      refine am_iconst 0 (v := 0) dX5_weighTo_28 (by decide) ?_
      refine am_istore dX5_weighTo_29 (am_lb rfl) ?_
      change am_At _ _ _ 31 [_, _, _, _, _, _] [] _ _
      obtain ⟨M13, hw13, hyp⟩ := bd_some hyp
      try dsimp only at hyp
      refine eL_X5_weighTo_31_47 (d := d) (h := h) g hN  FU ((0 : Int32), M) M13 hw13 ?_
      change am_At _ _ _ 78 [_, _, _, _, _, _] [] _ _
      cases hyp
      exact am_vret dX5_weighTo_78 rfl
theorem eL_X6_dueIn_15_24 {d : Nat} {h : am_H} (g : lay h) (hW : h.2.2 23 0 = some 24 ∧ h.2.2 23 2 = some 25) {x1 : Int32} {r : am_R} (n : Nat) : ∀ (s : Mem) (e : Mem), wh (L_X6_dueIn_15 24 25 x1) n s = some e → ((fun (M : Mem) => am_At am_X0 (d + 3) mX6_dueIn 68 [some (.inr (38, 0)), some (am_I (x1))] [] (am_hM h M) r) e) → ((fun (M : Mem) => am_At am_X0 (d + 3) mX6_dueIn 15 [some (.inr (38, 0)), some (am_I (x1))] [] (am_hM h M) r) s) := by
  refine am_wh (At := fun (s : Mem) => (fun (M : Mem) => am_At am_X0 (d + 3) mX6_dueIn 15 [some (.inr (38, 0)), some (am_I (x1))] [] (am_hM h M) r) s) (Ex := fun (e : Mem) => (fun (M : Mem) => am_At am_X0 (d + 3) mX6_dueIn 68 [some (.inr (38, 0)), some (am_I (x1))] [] (am_hM h M) r) e) ?_ n
  rintro M y hyp hx
  unfold L_X6_dueIn_15 at hyp
  try dsimp only at hyp
  change am_At _ _ _ 15 [_, _] [] _ _
  refine am_aload_n dX6_dueIn_15 rfl ?_
  refine am_getI 6 5 dX6_dueIn_16 fg_X6_36 (sh_38 g) (by decide) rfl ?_
  refine am_iload_n dX6_dueIn_19 rfl ?_
  refine am_icmp_gt (48) 68 dX6_dueIn_20 rfl ?_ ?_
  · intro hc3
    have hc3 : x1 < (M 38 0 5) := hc3
    replace hyp := it_pos hc3 hyp
    cases hyp
    exact hx
  · intro hc3n
    have hc3n : ¬ (x1 < (M 38 0 5)) := hc3n
    replace hyp := it_neg hc3n hyp
    refine am_aload_n dX6_dueIn_23 rfl ?_
    refine am_getR 6 4 41 dX6_dueIn_24 fg_X6_18 (sh_38 g) (by decide) rfl (rf_38_4 g) ?_
    refine am_aload_n dX6_dueIn_27 rfl ?_
    refine am_getI 6 5 dX6_dueIn_28 fg_X6_36 (sh_38 g) (by decide) rfl ?_
    refine am_aload_n dX6_dueIn_31 rfl ?_
    refine am_getR 6 1 28 dX6_dueIn_32 fg_X6_29 (sh_38 g) (by decide) rfl (rf_38_1 g) ?_
    refine am_aload_n dX6_dueIn_35 rfl ?_
    refine am_getR 6 2 29 dX6_dueIn_36 fg_X6_33 (sh_38 g) (by decide) rfl (rf_38_2 g) ?_
    refine am_aload_n dX6_dueIn_39 rfl ?_
    refine am_getR 6 2 29 dX6_dueIn_40 fg_X6_33 (sh_38 g) (by decide) rfl (rf_38_2 g) ?_
    refine am_callV [] dX6_dueIn_43 ml_X6_40 vm_X8_hour (sh_29 g) rfl (fun _ => Nat.le_of_ble_eq_true rfl) (by omega) rfl (ef_X8_hour_30 (d := d + 2) (h := h) g  (M := M) rfl) rfl ?_
    change am_At _ _ _ 46 [_, _] [_, _, _, _, _] _ _
    refine am_aload_n dX6_dueIn_46 rfl ?_
    refine am_getI 6 5 dX6_dueIn_47 fg_X6_36 (sh_38 g) (by decide) rfl ?_
    refine am_iadd dX6_dueIn_50 ?_
    obtain ⟨⟨v4, M4⟩, hk4, hyp⟩ := bd_some hyp
    try dsimp only at hyp
    refine am_callV [_, _] dX6_dueIn_51 ml_X6_44 vm_X4_dueBits (sh_28 g) rfl (fun _ => Nat.le_of_ble_eq_true rfl) (by omega) rfl (ef_X4_dueBits_30_24 (d := d + 0) (h := h) g hW hk4) rfl ?_
    change am_At _ _ _ 54 [_, _] [_, _, _] _ _
    obtain ⟨hg5, hyp⟩ := gd_some hyp
    refine am_iast dX6_dueIn_54 (am_ia.one (sh_41 g)) (am_lit hg5) ?_
    refine am_aload_n dX6_dueIn_55 rfl ?_
    refine am_dup dX6_dueIn_56 (fun _ => rfl) ?_
    refine am_getI 6 5 dX6_dueIn_57 fg_X6_36 (sh_38 g) (by decide) rfl ?_
    refine am_iconst 1 (v := 1) dX6_dueIn_60 (by decide) ?_
    refine am_iadd dX6_dueIn_61 ?_
    refine am_putI 6 5 dX6_dueIn_62 (Or.inl fp_X6_36) (sh_38 g) (by decide) rfl rfl rfl ?_
    refine am_goto (-50) 15 dX6_dueIn_65 rfl ?_
    cases hyp
    exact hx
theorem ef_X6_dueIn_24 {d : Nat} {h : am_H} (g : lay h) (hW : h.2.2 23 0 = some 24 ∧ h.2.2 23 2 = some 25) {x1 : Int32} {M : Mem} {v : Int32} {M' : Mem} (hyp : f_X6_dueIn 24 25 x1 M = some (v, M')) : am_Ev (d + 3) mX6_dueIn [.inr (38, 0), am_I x1] (am_hM h M) (.inl (some (am_I v), am_hM h M')) := by
  unfold f_X6_dueIn at hyp
  refine am_Ev.mk (by decide +kernel) rfl rfl (Nat.le_refl _) (Nat.le_refl _) ?_
  change am_At _ _ _ 0 [_, _] [] _ _
  refine am_iload_n dX6_dueIn_0 rfl ?_
  refine am_if_lt (12) 13 dX6_dueIn_1 rfl ?_ ?_
  · intro hc1
    have hc1 : x1 < 0 := hc1
    replace hyp := it_pos hc1 hyp
    refine am_iconst 0 (v := 0) dX6_dueIn_13 (by decide) ?_
    cases hyp
    exact am_iret dX6_dueIn_14 rfl
  · intro hc1n
    have hc1n : ¬ (x1 < 0) := hc1n
    replace hyp := it_neg hc1n hyp
    refine am_iload_n dX6_dueIn_4 rfl ?_
    refine am_aload_n dX6_dueIn_5 rfl ?_
    refine am_getR 6 4 41 dX6_dueIn_6 fg_X6_18 (sh_38 g) (by decide) rfl (rf_38_4 g) ?_
    refine am_alen dX6_dueIn_9 (am_ia.one (sh_41 g)) rfl ?_
    refine am_icmp_lt (5) 15 dX6_dueIn_10 rfl ?_ ?_
    · intro hc2
      have hc2 : x1 < (241 : Int32) := hc2
      replace hyp := it_pos hc2 hyp
      obtain ⟨M6, hw6, hyp⟩ := bd_some hyp
      try dsimp only at hyp
      refine eL_X6_dueIn_15_24 (d := d) (h := h) g hW  FU M M6 hw6 ?_
      change am_At _ _ _ 68 [_, _] [] _ _
      refine am_aload_n dX6_dueIn_68 rfl ?_
      refine am_getR 6 4 41 dX6_dueIn_69 fg_X6_18 (sh_38 g) (by decide) rfl (rf_38_4 g) ?_
      refine am_iload_n dX6_dueIn_72 rfl ?_
      obtain ⟨hg7, hyp⟩ := gd_some hyp
      refine am_iald dX6_dueIn_73 (am_ia.one (sh_41 g)) (am_lit hg7) ?_
      cases hyp
      exact am_iret dX6_dueIn_74 rfl
    · intro hc2n
      have hc2n : ¬ (x1 < (241 : Int32)) := hc2n
      replace hyp := it_neg hc2n hyp
      refine am_iconst 0 (v := 0) dX6_dueIn_13 (by decide) ?_
      cases hyp
      exact am_iret dX6_dueIn_14 rfl
theorem eL_X6_dueIn_15_25 {d : Nat} {h : am_H} (g : lay h) (hW : h.2.2 23 0 = some 25 ∧ h.2.2 23 2 = some 24) {x1 : Int32} {r : am_R} (n : Nat) : ∀ (s : Mem) (e : Mem), wh (L_X6_dueIn_15 25 24 x1) n s = some e → ((fun (M : Mem) => am_At am_X0 (d + 3) mX6_dueIn 68 [some (.inr (38, 0)), some (am_I (x1))] [] (am_hM h M) r) e) → ((fun (M : Mem) => am_At am_X0 (d + 3) mX6_dueIn 15 [some (.inr (38, 0)), some (am_I (x1))] [] (am_hM h M) r) s) := by
  refine am_wh (At := fun (s : Mem) => (fun (M : Mem) => am_At am_X0 (d + 3) mX6_dueIn 15 [some (.inr (38, 0)), some (am_I (x1))] [] (am_hM h M) r) s) (Ex := fun (e : Mem) => (fun (M : Mem) => am_At am_X0 (d + 3) mX6_dueIn 68 [some (.inr (38, 0)), some (am_I (x1))] [] (am_hM h M) r) e) ?_ n
  rintro M y hyp hx
  unfold L_X6_dueIn_15 at hyp
  try dsimp only at hyp
  change am_At _ _ _ 15 [_, _] [] _ _
  refine am_aload_n dX6_dueIn_15 rfl ?_
  refine am_getI 6 5 dX6_dueIn_16 fg_X6_36 (sh_38 g) (by decide) rfl ?_
  refine am_iload_n dX6_dueIn_19 rfl ?_
  refine am_icmp_gt (48) 68 dX6_dueIn_20 rfl ?_ ?_
  · intro hc3
    have hc3 : x1 < (M 38 0 5) := hc3
    replace hyp := it_pos hc3 hyp
    cases hyp
    exact hx
  · intro hc3n
    have hc3n : ¬ (x1 < (M 38 0 5)) := hc3n
    replace hyp := it_neg hc3n hyp
    refine am_aload_n dX6_dueIn_23 rfl ?_
    refine am_getR 6 4 41 dX6_dueIn_24 fg_X6_18 (sh_38 g) (by decide) rfl (rf_38_4 g) ?_
    refine am_aload_n dX6_dueIn_27 rfl ?_
    refine am_getI 6 5 dX6_dueIn_28 fg_X6_36 (sh_38 g) (by decide) rfl ?_
    refine am_aload_n dX6_dueIn_31 rfl ?_
    refine am_getR 6 1 28 dX6_dueIn_32 fg_X6_29 (sh_38 g) (by decide) rfl (rf_38_1 g) ?_
    refine am_aload_n dX6_dueIn_35 rfl ?_
    refine am_getR 6 2 29 dX6_dueIn_36 fg_X6_33 (sh_38 g) (by decide) rfl (rf_38_2 g) ?_
    refine am_aload_n dX6_dueIn_39 rfl ?_
    refine am_getR 6 2 29 dX6_dueIn_40 fg_X6_33 (sh_38 g) (by decide) rfl (rf_38_2 g) ?_
    refine am_callV [] dX6_dueIn_43 ml_X6_40 vm_X8_hour (sh_29 g) rfl (fun _ => Nat.le_of_ble_eq_true rfl) (by omega) rfl (ef_X8_hour_30 (d := d + 2) (h := h) g  (M := M) rfl) rfl ?_
    change am_At _ _ _ 46 [_, _] [_, _, _, _, _] _ _
    refine am_aload_n dX6_dueIn_46 rfl ?_
    refine am_getI 6 5 dX6_dueIn_47 fg_X6_36 (sh_38 g) (by decide) rfl ?_
    refine am_iadd dX6_dueIn_50 ?_
    obtain ⟨⟨v4, M4⟩, hk4, hyp⟩ := bd_some hyp
    try dsimp only at hyp
    refine am_callV [_, _] dX6_dueIn_51 ml_X6_44 vm_X4_dueBits (sh_28 g) rfl (fun _ => Nat.le_of_ble_eq_true rfl) (by omega) rfl (ef_X4_dueBits_30_25 (d := d + 0) (h := h) g hW hk4) rfl ?_
    change am_At _ _ _ 54 [_, _] [_, _, _] _ _
    obtain ⟨hg5, hyp⟩ := gd_some hyp
    refine am_iast dX6_dueIn_54 (am_ia.one (sh_41 g)) (am_lit hg5) ?_
    refine am_aload_n dX6_dueIn_55 rfl ?_
    refine am_dup dX6_dueIn_56 (fun _ => rfl) ?_
    refine am_getI 6 5 dX6_dueIn_57 fg_X6_36 (sh_38 g) (by decide) rfl ?_
    refine am_iconst 1 (v := 1) dX6_dueIn_60 (by decide) ?_
    refine am_iadd dX6_dueIn_61 ?_
    refine am_putI 6 5 dX6_dueIn_62 (Or.inl fp_X6_36) (sh_38 g) (by decide) rfl rfl rfl ?_
    refine am_goto (-50) 15 dX6_dueIn_65 rfl ?_
    cases hyp
    exact hx
theorem ef_X6_dueIn_25 {d : Nat} {h : am_H} (g : lay h) (hW : h.2.2 23 0 = some 25 ∧ h.2.2 23 2 = some 24) {x1 : Int32} {M : Mem} {v : Int32} {M' : Mem} (hyp : f_X6_dueIn 25 24 x1 M = some (v, M')) : am_Ev (d + 3) mX6_dueIn [.inr (38, 0), am_I x1] (am_hM h M) (.inl (some (am_I v), am_hM h M')) := by
  unfold f_X6_dueIn at hyp
  refine am_Ev.mk (by decide +kernel) rfl rfl (Nat.le_refl _) (Nat.le_refl _) ?_
  change am_At _ _ _ 0 [_, _] [] _ _
  refine am_iload_n dX6_dueIn_0 rfl ?_
  refine am_if_lt (12) 13 dX6_dueIn_1 rfl ?_ ?_
  · intro hc1
    have hc1 : x1 < 0 := hc1
    replace hyp := it_pos hc1 hyp
    refine am_iconst 0 (v := 0) dX6_dueIn_13 (by decide) ?_
    cases hyp
    exact am_iret dX6_dueIn_14 rfl
  · intro hc1n
    have hc1n : ¬ (x1 < 0) := hc1n
    replace hyp := it_neg hc1n hyp
    refine am_iload_n dX6_dueIn_4 rfl ?_
    refine am_aload_n dX6_dueIn_5 rfl ?_
    refine am_getR 6 4 41 dX6_dueIn_6 fg_X6_18 (sh_38 g) (by decide) rfl (rf_38_4 g) ?_
    refine am_alen dX6_dueIn_9 (am_ia.one (sh_41 g)) rfl ?_
    refine am_icmp_lt (5) 15 dX6_dueIn_10 rfl ?_ ?_
    · intro hc2
      have hc2 : x1 < (241 : Int32) := hc2
      replace hyp := it_pos hc2 hyp
      obtain ⟨M6, hw6, hyp⟩ := bd_some hyp
      try dsimp only at hyp
      refine eL_X6_dueIn_15_25 (d := d) (h := h) g hW  FU M M6 hw6 ?_
      change am_At _ _ _ 68 [_, _] [] _ _
      refine am_aload_n dX6_dueIn_68 rfl ?_
      refine am_getR 6 4 41 dX6_dueIn_69 fg_X6_18 (sh_38 g) (by decide) rfl (rf_38_4 g) ?_
      refine am_iload_n dX6_dueIn_72 rfl ?_
      obtain ⟨hg7, hyp⟩ := gd_some hyp
      refine am_iald dX6_dueIn_73 (am_ia.one (sh_41 g)) (am_lit hg7) ?_
      cases hyp
      exact am_iret dX6_dueIn_74 rfl
    · intro hc2n
      have hc2n : ¬ (x1 < (241 : Int32)) := hc2n
      replace hyp := it_neg hc2n hyp
      refine am_iconst 0 (v := 0) dX6_dueIn_13 (by decide) ?_
      cases hyp
      exact am_iret dX6_dueIn_14 rfl
theorem eL_X6_dueThen_23_24 {d : Nat} {h : am_H} (g : lay h) (hW : h.2.2 23 0 = some 24 ∧ h.2.2 23 2 = some 25) {r : am_R} (n : Nat) : ∀ (s : Int32 × Int32 × Mem) (e : Int32 × Mem), wh (L_X6_dueThen_23 24 25) n s = some e → (match e with | (x2, M) => am_At am_X0 (d + 4) mX6_dueThen 102 [some (.inr (38, 0)), none, some (am_I (x2)), none, none, none] [] (am_hM h M) r) → (match s with | (x2, x3, M) => am_At am_X0 (d + 4) mX6_dueThen 23 [some (.inr (38, 0)), none, some (am_I (x2)), some (am_I (x3)), none, none] [] (am_hM h M) r) := by
  refine am_wh (At := fun (s : Int32 × Int32 × Mem) => match s with | (x2, x3, M) => am_At am_X0 (d + 4) mX6_dueThen 23 [some (.inr (38, 0)), none, some (am_I (x2)), some (am_I (x3)), none, none] [] (am_hM h M) r) (Ex := fun (e : Int32 × Mem) => match e with | (x2, M) => am_At am_X0 (d + 4) mX6_dueThen 102 [some (.inr (38, 0)), none, some (am_I (x2)), none, none, none] [] (am_hM h M) r) ?_ n
  rintro ⟨x2, x3, M⟩ y hyp hx
  unfold L_X6_dueThen_23 at hyp
  try dsimp only at hyp
  change am_At _ _ _ 23 [_, _, _, _, _, _] [] _ _
  refine am_iload_n dX6_dueThen_23 rfl ?_
  refine am_aload_n dX6_dueThen_24 rfl ?_
  refine am_getR 6 0 3 dX6_dueThen_25 fg_X6_25 (sh_38 g) (by decide) rfl (rf_38_0 g) ?_
  refine am_getI 1 0 dX6_dueThen_28 fg_X6_80 (sh_3 g) (by decide) rfl ?_
  refine am_icmp_ge (71) 102 dX6_dueThen_31 rfl ?_ ?_
  · intro hc4
    have hc4 : (M 3 0 0) ≤ x3 := hc4
    replace hyp := it_pos hc4 hyp
    cases hyp
    refine am_At.drop 3 ?_
    exact hx
  · intro hc4n
    have hc4n : ¬ ((M 3 0 0) ≤ x3) := hc4n
    replace hyp := it_neg hc4n hyp
    refine am_aload_n dX6_dueThen_34 rfl ?_
    refine am_getR 6 3 39 dX6_dueThen_35 fg_X6_12 (sh_38 g) (by decide) rfl (rf_38_3 g) ?_
    refine am_iload_n dX6_dueThen_38 rfl ?_
    obtain ⟨v5, hk5, hyp⟩ := bd_some hyp
    try dsimp only at hyp
    refine am_callV [_] dX6_dueThen_39 ml_X6_127 vm_X8_finesOf (sh_39 g) rfl (fun _ => Nat.le_of_ble_eq_true rfl) (by omega) rfl (ef_X8_finesOf_40 (d := d + 3) (h := h) g hk5) rfl ?_
    change am_At _ _ _ 42 [_, _, _, _, _, _] [_] _ _
    refine am_istore dX6_dueThen_42 (am_lb rfl) ?_
    change am_At _ _ _ 44 [_, _, _, _, _, _] [] _ _
    refine am_iload dX6_dueThen_44 rfl ?_
    refine am_aload_n dX6_dueThen_46 rfl ?_
    refine am_getR 6 2 29 dX6_dueThen_47 fg_X6_33 (sh_38 g) (by decide) rfl (rf_38_2 g) ?_
    refine am_iload_n dX6_dueThen_50 rfl ?_
    obtain ⟨v6, hk6, hyp⟩ := bd_some hyp
    try dsimp only at hyp
    refine am_callV [_] dX6_dueThen_51 ml_X6_127 vm_X8_finesOf (sh_29 g) rfl (fun _ => Nat.le_of_ble_eq_true rfl) (by omega) rfl (ef_X8_finesOf_30 (d := d + 3) (h := h) g hk6) rfl ?_
    change am_At _ _ _ 54 [_, _, _, _, _, _] [_, _] _ _
    refine am_icmp_eq (42) 96 dX6_dueThen_54 rfl ?_ ?_
    · intro hc7
      have hc7 : v5 = v6 := hc7
      replace hyp := it_pos hc7 hyp
      refine am_iinc dX6_dueThen_96 rfl (am_ix _) ?_
      change am_At _ _ _ 99 [_, _, _, _, _, _] [] _ _
      refine am_goto (-76) 23 dX6_dueThen_99 rfl ?_
      cases hyp
      refine am_At.drop 4 ?_
      exact hx
    · intro hc7n
      have hc7n : ¬ (v5 = v6) := hc7n
      replace hyp := it_neg hc7n hyp
      refine am_iconst 1 (v := 1) dX6_dueThen_57 (by decide) ?_
      refine am_iload_n dX6_dueThen_58 rfl ?_
      refine am_ishl dX6_dueThen_59 ?_
      refine am_istore dX6_dueThen_60 (am_lb rfl) ?_
      change am_At _ _ _ 62 [_, _, _, _, _, _] [] _ _
      refine am_aload_n dX6_dueThen_62 rfl ?_
      refine am_getR 6 1 28 dX6_dueThen_63 fg_X6_29 (sh_38 g) (by decide) rfl (rf_38_1 g) ?_
      refine am_iload_n dX6_dueThen_66 rfl ?_
      refine am_aload_n dX6_dueThen_67 rfl ?_
      refine am_getR 6 3 39 dX6_dueThen_68 fg_X6_12 (sh_38 g) (by decide) rfl (rf_38_3 g) ?_
      refine am_callV [] dX6_dueThen_71 ml_X6_40 vm_X8_hour (sh_39 g) rfl (fun _ => Nat.le_of_ble_eq_true rfl) (by omega) rfl (ef_X8_hour_40 (d := d + 3) (h := h) g  (M := M) rfl) rfl ?_
      change am_At _ _ _ 74 [_, _, _, _, _, _] [_, _, _] _ _
      refine am_iload dX6_dueThen_74 rfl ?_
      obtain ⟨⟨v8, M8⟩, hk8, hyp⟩ := bd_some hyp
      try dsimp only at hyp
      refine am_callV [_, _, _] dX6_dueThen_76 ml_X6_130 vm_X4_isDue (sh_28 g) rfl (fun _ => Nat.le_of_ble_eq_true rfl) (by omega) rfl (ef_X4_isDue_24 (d := d + 1) (h := h) g hW hk8) rfl ?_
      change am_At _ _ _ 79 [_, _, _, _, _, _] [_] _ _
      refine am_if_eq (10) 89 dX6_dueThen_79 rfl ?_ ?_
      · intro hc9
        have hc9 : v8 = 0 := hc9
        replace hyp := it_pos hc9 hyp
        refine am_iload_n dX6_dueThen_89 rfl ?_
        refine am_iload dX6_dueThen_90 rfl ?_
        refine am_iconst (-1) (v := (-1)) dX6_dueThen_92 (by decide) ?_
        refine am_ixor dX6_dueThen_93 ?_
        refine am_iand dX6_dueThen_94 ?_
        refine am_istore_n dX6_dueThen_95 (am_lb rfl) ?_
        change am_At _ _ _ 96 [_, _, _, _, _, _] [] _ _
        refine am_iinc dX6_dueThen_96 rfl (am_ix _) ?_
        change am_At _ _ _ 99 [_, _, _, _, _, _] [] _ _
        refine am_goto (-76) 23 dX6_dueThen_99 rfl ?_
        cases hyp
        refine am_At.drop 4 ?_
        refine am_At.drop 5 ?_
        exact hx
      · intro hc9n
        have hc9n : ¬ (v8 = 0) := hc9n
        replace hyp := it_neg hc9n hyp
        refine am_iload_n dX6_dueThen_82 rfl ?_
        refine am_iload dX6_dueThen_83 rfl ?_
        refine am_ior dX6_dueThen_85 ?_
        refine am_goto (9) 95 dX6_dueThen_86 rfl ?_
        refine am_istore_n dX6_dueThen_95 (am_lb rfl) ?_
        change am_At _ _ _ 96 [_, _, _, _, _, _] [] _ _
        refine am_iinc dX6_dueThen_96 rfl (am_ix _) ?_
        change am_At _ _ _ 99 [_, _, _, _, _, _] [] _ _
        refine am_goto (-76) 23 dX6_dueThen_99 rfl ?_
        cases hyp
        refine am_At.drop 4 ?_
        refine am_At.drop 5 ?_
        exact hx
theorem ef_X6_dueThen_24 {d : Nat} {h : am_H} (g : lay h) (hW : h.2.2 23 0 = some 24 ∧ h.2.2 23 2 = some 25) {x1 : Int32} {M : Mem} {v : Int32} {M' : Mem} (hyp : f_X6_dueThen 24 25 x1 M = some (v, M')) : am_Ev (d + 4) mX6_dueThen [.inr (38, 0), am_I x1] (am_hM h M) (.inl (some (am_I v), am_hM h M')) := by
  unfold f_X6_dueThen at hyp
  refine am_Ev.mk (by decide +kernel) rfl rfl (Nat.le_refl _) (Nat.le_refl _) ?_
  change am_At _ _ _ 0 [_, _, _, _, _, _] [] _ _
  refine am_aload_n dX6_dueThen_0 rfl ?_
  refine am_iload_n dX6_dueThen_1 rfl ?_
  obtain ⟨⟨v1, M1⟩, hk1, hyp⟩ := bd_some hyp
  try dsimp only at hyp
  refine am_callV [_] dX6_dueThen_2 ml_X6_50 vm_X6_dueIn (sh_38 g) rfl (fun _ => Nat.le_of_ble_eq_true rfl) (by omega) rfl (ef_X6_dueIn_24 (d := d + 0) (h := h) g hW hk1) rfl ?_
  change am_At _ _ _ 5 [_, _, _, _, _, _] [_] _ _
  refine am_istore_n dX6_dueThen_5 (am_lb rfl) ?_
  change am_At _ _ _ 6 [_, _, _, _, _, _] [] _ _
  refine am_aload_n dX6_dueThen_6 rfl ?_
  refine am_getR 6 1 28 dX6_dueThen_7 fg_X6_29 (sh_38 g) (by decide) rfl (rf_38_1 g) ?_
  refine am_getR 4 1 23 dX6_dueThen_10 fg_X6_117 (sh_28 g) (by decide) rfl (rf_28_1 g) ?_
  obtain ⟨v2, hk2, hyp⟩ := bd_some hyp
  try dsimp only at hyp
  refine am_callV [] dX6_dueThen_13 ml_X6_121 vm_X3_mindsFines (sh_23 g) rfl (fun _ => Nat.le_of_ble_eq_true rfl) (by omega) rfl (ef_X3_mindsFines (d := d + 3) (h := h) g hk2) rfl ?_
  change am_At _ _ _ 16 [_, _, _, _, _, _] [_] _ _
  refine am_if_ne (5) 21 dX6_dueThen_16 rfl ?_ ?_
  · intro hc3n
    have hc3n : ¬ (v2 = 0) := hc3n
    replace hyp := it_neg hc3n hyp
    refine am_iconst 0 (v := 0) dX6_dueThen_21 (by decide) ?_
    refine am_istore_n dX6_dueThen_22 (am_lb rfl) ?_
    change am_At _ _ _ 23 [_, _, _, _, _, _] [] _ _
    obtain ⟨⟨x2_10, M10⟩, hw10, hyp⟩ := bd_some hyp
    refine am_At.drop 1 ?_
    try dsimp only at hyp
    refine eL_X6_dueThen_23_24 (d := d) (h := h) g hW  FU (v1, (0 : Int32), M1) (x2_10, M10) hw10 ?_
    change am_At _ _ _ 102 [_, _, _, _, _, _] [] _ _
    refine am_iload_n dX6_dueThen_102 rfl ?_
    cases hyp
    exact am_iret dX6_dueThen_103 rfl
  · intro hc3
    have hc3 : v2 = 0 := hc3
    replace hyp := it_pos hc3 hyp
    refine am_iload_n dX6_dueThen_19 rfl ?_
    cases hyp
    exact am_iret dX6_dueThen_20 rfl
theorem eL_X6_dueThen_23_25 {d : Nat} {h : am_H} (g : lay h) (hW : h.2.2 23 0 = some 25 ∧ h.2.2 23 2 = some 24) {r : am_R} (n : Nat) : ∀ (s : Int32 × Int32 × Mem) (e : Int32 × Mem), wh (L_X6_dueThen_23 25 24) n s = some e → (match e with | (x2, M) => am_At am_X0 (d + 4) mX6_dueThen 102 [some (.inr (38, 0)), none, some (am_I (x2)), none, none, none] [] (am_hM h M) r) → (match s with | (x2, x3, M) => am_At am_X0 (d + 4) mX6_dueThen 23 [some (.inr (38, 0)), none, some (am_I (x2)), some (am_I (x3)), none, none] [] (am_hM h M) r) := by
  refine am_wh (At := fun (s : Int32 × Int32 × Mem) => match s with | (x2, x3, M) => am_At am_X0 (d + 4) mX6_dueThen 23 [some (.inr (38, 0)), none, some (am_I (x2)), some (am_I (x3)), none, none] [] (am_hM h M) r) (Ex := fun (e : Int32 × Mem) => match e with | (x2, M) => am_At am_X0 (d + 4) mX6_dueThen 102 [some (.inr (38, 0)), none, some (am_I (x2)), none, none, none] [] (am_hM h M) r) ?_ n
  rintro ⟨x2, x3, M⟩ y hyp hx
  unfold L_X6_dueThen_23 at hyp
  try dsimp only at hyp
  change am_At _ _ _ 23 [_, _, _, _, _, _] [] _ _
  refine am_iload_n dX6_dueThen_23 rfl ?_
  refine am_aload_n dX6_dueThen_24 rfl ?_
  refine am_getR 6 0 3 dX6_dueThen_25 fg_X6_25 (sh_38 g) (by decide) rfl (rf_38_0 g) ?_
  refine am_getI 1 0 dX6_dueThen_28 fg_X6_80 (sh_3 g) (by decide) rfl ?_
  refine am_icmp_ge (71) 102 dX6_dueThen_31 rfl ?_ ?_
  · intro hc4
    have hc4 : (M 3 0 0) ≤ x3 := hc4
    replace hyp := it_pos hc4 hyp
    cases hyp
    refine am_At.drop 3 ?_
    exact hx
  · intro hc4n
    have hc4n : ¬ ((M 3 0 0) ≤ x3) := hc4n
    replace hyp := it_neg hc4n hyp
    refine am_aload_n dX6_dueThen_34 rfl ?_
    refine am_getR 6 3 39 dX6_dueThen_35 fg_X6_12 (sh_38 g) (by decide) rfl (rf_38_3 g) ?_
    refine am_iload_n dX6_dueThen_38 rfl ?_
    obtain ⟨v5, hk5, hyp⟩ := bd_some hyp
    try dsimp only at hyp
    refine am_callV [_] dX6_dueThen_39 ml_X6_127 vm_X8_finesOf (sh_39 g) rfl (fun _ => Nat.le_of_ble_eq_true rfl) (by omega) rfl (ef_X8_finesOf_40 (d := d + 3) (h := h) g hk5) rfl ?_
    change am_At _ _ _ 42 [_, _, _, _, _, _] [_] _ _
    refine am_istore dX6_dueThen_42 (am_lb rfl) ?_
    change am_At _ _ _ 44 [_, _, _, _, _, _] [] _ _
    refine am_iload dX6_dueThen_44 rfl ?_
    refine am_aload_n dX6_dueThen_46 rfl ?_
    refine am_getR 6 2 29 dX6_dueThen_47 fg_X6_33 (sh_38 g) (by decide) rfl (rf_38_2 g) ?_
    refine am_iload_n dX6_dueThen_50 rfl ?_
    obtain ⟨v6, hk6, hyp⟩ := bd_some hyp
    try dsimp only at hyp
    refine am_callV [_] dX6_dueThen_51 ml_X6_127 vm_X8_finesOf (sh_29 g) rfl (fun _ => Nat.le_of_ble_eq_true rfl) (by omega) rfl (ef_X8_finesOf_30 (d := d + 3) (h := h) g hk6) rfl ?_
    change am_At _ _ _ 54 [_, _, _, _, _, _] [_, _] _ _
    refine am_icmp_eq (42) 96 dX6_dueThen_54 rfl ?_ ?_
    · intro hc7
      have hc7 : v5 = v6 := hc7
      replace hyp := it_pos hc7 hyp
      refine am_iinc dX6_dueThen_96 rfl (am_ix _) ?_
      change am_At _ _ _ 99 [_, _, _, _, _, _] [] _ _
      refine am_goto (-76) 23 dX6_dueThen_99 rfl ?_
      cases hyp
      refine am_At.drop 4 ?_
      exact hx
    · intro hc7n
      have hc7n : ¬ (v5 = v6) := hc7n
      replace hyp := it_neg hc7n hyp
      refine am_iconst 1 (v := 1) dX6_dueThen_57 (by decide) ?_
      refine am_iload_n dX6_dueThen_58 rfl ?_
      refine am_ishl dX6_dueThen_59 ?_
      refine am_istore dX6_dueThen_60 (am_lb rfl) ?_
      change am_At _ _ _ 62 [_, _, _, _, _, _] [] _ _
      refine am_aload_n dX6_dueThen_62 rfl ?_
      refine am_getR 6 1 28 dX6_dueThen_63 fg_X6_29 (sh_38 g) (by decide) rfl (rf_38_1 g) ?_
      refine am_iload_n dX6_dueThen_66 rfl ?_
      refine am_aload_n dX6_dueThen_67 rfl ?_
      refine am_getR 6 3 39 dX6_dueThen_68 fg_X6_12 (sh_38 g) (by decide) rfl (rf_38_3 g) ?_
      refine am_callV [] dX6_dueThen_71 ml_X6_40 vm_X8_hour (sh_39 g) rfl (fun _ => Nat.le_of_ble_eq_true rfl) (by omega) rfl (ef_X8_hour_40 (d := d + 3) (h := h) g  (M := M) rfl) rfl ?_
      change am_At _ _ _ 74 [_, _, _, _, _, _] [_, _, _] _ _
      refine am_iload dX6_dueThen_74 rfl ?_
      obtain ⟨⟨v8, M8⟩, hk8, hyp⟩ := bd_some hyp
      try dsimp only at hyp
      refine am_callV [_, _, _] dX6_dueThen_76 ml_X6_130 vm_X4_isDue (sh_28 g) rfl (fun _ => Nat.le_of_ble_eq_true rfl) (by omega) rfl (ef_X4_isDue_25 (d := d + 1) (h := h) g hW hk8) rfl ?_
      change am_At _ _ _ 79 [_, _, _, _, _, _] [_] _ _
      refine am_if_eq (10) 89 dX6_dueThen_79 rfl ?_ ?_
      · intro hc9
        have hc9 : v8 = 0 := hc9
        replace hyp := it_pos hc9 hyp
        refine am_iload_n dX6_dueThen_89 rfl ?_
        refine am_iload dX6_dueThen_90 rfl ?_
        refine am_iconst (-1) (v := (-1)) dX6_dueThen_92 (by decide) ?_
        refine am_ixor dX6_dueThen_93 ?_
        refine am_iand dX6_dueThen_94 ?_
        refine am_istore_n dX6_dueThen_95 (am_lb rfl) ?_
        change am_At _ _ _ 96 [_, _, _, _, _, _] [] _ _
        refine am_iinc dX6_dueThen_96 rfl (am_ix _) ?_
        change am_At _ _ _ 99 [_, _, _, _, _, _] [] _ _
        refine am_goto (-76) 23 dX6_dueThen_99 rfl ?_
        cases hyp
        refine am_At.drop 4 ?_
        refine am_At.drop 5 ?_
        exact hx
      · intro hc9n
        have hc9n : ¬ (v8 = 0) := hc9n
        replace hyp := it_neg hc9n hyp
        refine am_iload_n dX6_dueThen_82 rfl ?_
        refine am_iload dX6_dueThen_83 rfl ?_
        refine am_ior dX6_dueThen_85 ?_
        refine am_goto (9) 95 dX6_dueThen_86 rfl ?_
        refine am_istore_n dX6_dueThen_95 (am_lb rfl) ?_
        change am_At _ _ _ 96 [_, _, _, _, _, _] [] _ _
        refine am_iinc dX6_dueThen_96 rfl (am_ix _) ?_
        change am_At _ _ _ 99 [_, _, _, _, _, _] [] _ _
        refine am_goto (-76) 23 dX6_dueThen_99 rfl ?_
        cases hyp
        refine am_At.drop 4 ?_
        refine am_At.drop 5 ?_
        exact hx
theorem ef_X6_dueThen_25 {d : Nat} {h : am_H} (g : lay h) (hW : h.2.2 23 0 = some 25 ∧ h.2.2 23 2 = some 24) {x1 : Int32} {M : Mem} {v : Int32} {M' : Mem} (hyp : f_X6_dueThen 25 24 x1 M = some (v, M')) : am_Ev (d + 4) mX6_dueThen [.inr (38, 0), am_I x1] (am_hM h M) (.inl (some (am_I v), am_hM h M')) := by
  unfold f_X6_dueThen at hyp
  refine am_Ev.mk (by decide +kernel) rfl rfl (Nat.le_refl _) (Nat.le_refl _) ?_
  change am_At _ _ _ 0 [_, _, _, _, _, _] [] _ _
  refine am_aload_n dX6_dueThen_0 rfl ?_
  refine am_iload_n dX6_dueThen_1 rfl ?_
  obtain ⟨⟨v1, M1⟩, hk1, hyp⟩ := bd_some hyp
  try dsimp only at hyp
  refine am_callV [_] dX6_dueThen_2 ml_X6_50 vm_X6_dueIn (sh_38 g) rfl (fun _ => Nat.le_of_ble_eq_true rfl) (by omega) rfl (ef_X6_dueIn_25 (d := d + 0) (h := h) g hW hk1) rfl ?_
  change am_At _ _ _ 5 [_, _, _, _, _, _] [_] _ _
  refine am_istore_n dX6_dueThen_5 (am_lb rfl) ?_
  change am_At _ _ _ 6 [_, _, _, _, _, _] [] _ _
  refine am_aload_n dX6_dueThen_6 rfl ?_
  refine am_getR 6 1 28 dX6_dueThen_7 fg_X6_29 (sh_38 g) (by decide) rfl (rf_38_1 g) ?_
  refine am_getR 4 1 23 dX6_dueThen_10 fg_X6_117 (sh_28 g) (by decide) rfl (rf_28_1 g) ?_
  obtain ⟨v2, hk2, hyp⟩ := bd_some hyp
  try dsimp only at hyp
  refine am_callV [] dX6_dueThen_13 ml_X6_121 vm_X3_mindsFines (sh_23 g) rfl (fun _ => Nat.le_of_ble_eq_true rfl) (by omega) rfl (ef_X3_mindsFines (d := d + 3) (h := h) g hk2) rfl ?_
  change am_At _ _ _ 16 [_, _, _, _, _, _] [_] _ _
  refine am_if_ne (5) 21 dX6_dueThen_16 rfl ?_ ?_
  · intro hc3n
    have hc3n : ¬ (v2 = 0) := hc3n
    replace hyp := it_neg hc3n hyp
    refine am_iconst 0 (v := 0) dX6_dueThen_21 (by decide) ?_
    refine am_istore_n dX6_dueThen_22 (am_lb rfl) ?_
    change am_At _ _ _ 23 [_, _, _, _, _, _] [] _ _
    obtain ⟨⟨x2_10, M10⟩, hw10, hyp⟩ := bd_some hyp
    refine am_At.drop 1 ?_
    try dsimp only at hyp
    refine eL_X6_dueThen_23_25 (d := d) (h := h) g hW  FU (v1, (0 : Int32), M1) (x2_10, M10) hw10 ?_
    change am_At _ _ _ 102 [_, _, _, _, _, _] [] _ _
    refine am_iload_n dX6_dueThen_102 rfl ?_
    cases hyp
    exact am_iret dX6_dueThen_103 rfl
  · intro hc3
    have hc3 : v2 = 0 := hc3
    replace hyp := it_pos hc3 hyp
    refine am_iload_n dX6_dueThen_19 rfl ?_
    cases hyp
    exact am_iret dX6_dueThen_20 rfl
theorem eL_X6_freeze_28_24 {d : Nat} {h : am_H} (g : lay h) (hW : h.2.2 23 0 = some 24 ∧ h.2.2 23 2 = some 25) {x2 x3 : Int32} {r : am_R} (n : Nat) : ∀ (s : Int32 × Mem) (e : Mem), wh (L_X6_freeze_28 24 25 x2 x3) n s = some e → ((fun (M : Mem) => am_At am_X0 (d + 5) mX6_freeze 98 [some (.inr (38, 0)), none, some (am_I (x2)), some (am_I (x3)), none, none, none] [] (am_hM h M) r) e) → (match s with | (x4, M) => am_At am_X0 (d + 5) mX6_freeze 28 [some (.inr (38, 0)), none, some (am_I (x2)), some (am_I (x3)), some (am_I (x4)), none, none] [] (am_hM h M) r) := by
  refine am_wh (At := fun (s : Int32 × Mem) => match s with | (x4, M) => am_At am_X0 (d + 5) mX6_freeze 28 [some (.inr (38, 0)), none, some (am_I (x2)), some (am_I (x3)), some (am_I (x4)), none, none] [] (am_hM h M) r) (Ex := fun (e : Mem) => (fun (M : Mem) => am_At am_X0 (d + 5) mX6_freeze 98 [some (.inr (38, 0)), none, some (am_I (x2)), some (am_I (x3)), none, none, none] [] (am_hM h M) r) e) ?_ n
  rintro ⟨x4, M⟩ y hyp hx
  unfold L_X6_freeze_28 at hyp
  try dsimp only at hyp
  change am_At _ _ _ 28 [_, _, _, _, _, _, _] [] _ _
  refine am_iload dX6_freeze_28 rfl ?_
  refine am_iload_n dX6_freeze_30 rfl ?_
  refine am_icmp_ge (67) 98 dX6_freeze_31 rfl ?_ ?_
  · intro hc2
    have hc2 : x3 ≤ x4 := hc2
    replace hyp := it_pos hc2 hyp
    cases hyp
    refine am_At.drop 4 ?_
    exact hx
  · intro hc2n
    have hc2n : ¬ (x3 ≤ x4) := hc2n
    replace hyp := it_neg hc2n hyp
    refine am_aload_n dX6_freeze_34 rfl ?_
    refine am_iload_n dX6_freeze_35 rfl ?_
    obtain ⟨⟨v3, M3⟩, hk3, hyp⟩ := bd_some hyp
    try dsimp only at hyp
    refine am_callV [_] dX6_freeze_36 ml_X6_101 vm_X6_drawFrozen (sh_38 g) rfl (fun _ => Nat.le_of_ble_eq_true rfl) (by omega) rfl (ef_X6_drawFrozen (d := d + 4) (h := h) g hk3) rfl ?_
    change am_At _ _ _ 39 [_, _, _, _, _, _, _] [_] _ _
    refine am_istore dX6_freeze_39 (am_lb rfl) ?_
    change am_At _ _ _ 41 [_, _, _, _, _, _, _] [] _ _
    refine am_aload_n dX6_freeze_41 rfl ?_
    refine am_iload dX6_freeze_42 rfl ?_
    obtain ⟨⟨v4, M4⟩, hk4, hyp⟩ := bd_some hyp
    try dsimp only at hyp
    refine am_callV [_] dX6_freeze_44 ml_X6_104 vm_X6_dueThen (sh_38 g) rfl (fun _ => Nat.le_of_ble_eq_true rfl) (by omega) rfl (ef_X6_dueThen_24 (d := d + 0) (h := h) g hW hk4) rfl ?_
    change am_At _ _ _ 47 [_, _, _, _, _, _, _] [_] _ _
    refine am_istore dX6_freeze_47 (am_lb rfl) ?_
    change am_At _ _ _ 49 [_, _, _, _, _, _, _] [] _ _
    refine am_aload_n dX6_freeze_49 rfl ?_
    refine am_dup dX6_freeze_50 (fun _ => rfl) ?_
    refine am_getI 6 10 dX6_freeze_51 fg_X6_98 (sh_38 g) (by decide) rfl ?_
    refine am_aload_n dX6_freeze_54 rfl ?_
    refine am_getR 6 1 28 dX6_freeze_55 fg_X6_29 (sh_38 g) (by decide) rfl (rf_38_1 g) ?_
    refine am_aload_n dX6_freeze_58 rfl ?_
    refine am_getR 6 3 39 dX6_freeze_59 fg_X6_12 (sh_38 g) (by decide) rfl (rf_38_3 g) ?_
    refine am_iload dX6_freeze_62 rfl ?_
    refine am_callV [_, _] dX6_freeze_64 ml_X6_54 vm_X4_openBits (sh_28 g) rfl (fun _ => Nat.le_of_ble_eq_true rfl) (by omega) rfl (ef_X4_openBits_40 (d := d + 3) (h := h) g (x2 := v4) (M := M4) rfl) rfl ?_
    change am_At _ _ _ 67 [_, _, _, _, _, _, _] [_, _, _] _ _
    refine am_iload dX6_freeze_67 rfl ?_
    refine am_iand dX6_freeze_69 ?_
    refine am_callS (c := 0) (k := 0) (n := 0) (w := 0) [_] dX6_freeze_70 ml_X6_107 sm_J6_bitCount_0f7a4 rfl (fun _ => Nat.le_of_ble_eq_true rfl) (by omega) rfl (ev_bc (d := d + 4) (x := (((M4 40 0 1) ||| (v4 &&& ((M4 40 0 2) ^^^ (-1 : Int32)))) &&& v3))) rfl ?_
    change am_At _ _ _ 73 [_, _, _, _, _, _, _] [_, _, _] _ _
    refine am_iadd dX6_freeze_73 ?_
    refine am_putI 6 10 dX6_freeze_74 (Or.inl fp_X6_98) (sh_38 g) (by decide) rfl rfl rfl ?_
    refine am_aload_n dX6_freeze_77 rfl ?_
    refine am_getR 6 1 28 dX6_freeze_78 fg_X6_29 (sh_38 g) (by decide) rfl (rf_38_1 g) ?_
    refine am_aload_n dX6_freeze_81 rfl ?_
    refine am_getR 6 3 39 dX6_freeze_82 fg_X6_12 (sh_38 g) (by decide) rfl (rf_38_3 g) ?_
    refine am_iload dX6_freeze_85 rfl ?_
    refine am_iload dX6_freeze_87 rfl ?_
    obtain ⟨M5, hk5, hyp⟩ := bd_some hyp
    try dsimp only at hyp
    refine am_callV [_, _, _] dX6_freeze_89 ml_X6_112 vm_X4_passHour (sh_28 g) rfl (fun _ => Nat.le_of_ble_eq_true rfl) (by omega) rfl (ef_X4_passHour_40 (d := d + 1) (h := h) g hk5) rfl ?_
    change am_At _ _ _ 92 [_, _, _, _, _, _, _] [] _ _
    refine am_iinc dX6_freeze_92 rfl (am_ix _) ?_
    change am_At _ _ _ 95 [_, _, _, _, _, _, _] [] _ _
    refine am_goto (-67) 28 dX6_freeze_95 rfl ?_
    cases hyp
    refine am_At.drop 5 ?_
    refine am_At.drop 6 ?_
    exact hx
theorem ef_X6_freeze_24 {d : Nat} {h : am_H} (g : lay h) (hW : h.2.2 23 0 = some 24 ∧ h.2.2 23 2 = some 25) {x1 x2 x3 : Int32} {M : Mem} {M' : Mem} (hyp : f_X6_freeze 24 25 x1 x2 x3 M = some M') : am_Ev (d + 5) mX6_freeze [.inr (38, 0), am_I x1, am_I x2, am_I x3] (am_hM h M) (.inl (none, am_hM h M')) := by
  unfold f_X6_freeze at hyp
  refine am_Ev.mk (by decide +kernel) rfl rfl (Nat.le_refl _) (Nat.le_refl _) ?_
  change am_At _ _ _ 0 [_, _, _, _, _, _, _] [] _ _
  refine am_aload_n dX6_freeze_0 rfl ?_
  refine am_getR 6 2 29 dX6_freeze_1 fg_X6_33 (sh_38 g) (by decide) rfl (rf_38_2 g) ?_
  refine am_aload_n dX6_freeze_4 rfl ?_
  refine am_getR 6 3 39 dX6_freeze_5 fg_X6_12 (sh_38 g) (by decide) rfl (rf_38_3 g) ?_
  refine am_getR 8 0 40 dX6_freeze_8 fg_X6_89 (sh_39 g) (by decide) rfl (rf_39_0 g) ?_
  refine am_iconst 0 (v := 0) dX6_freeze_11 (by decide) ?_
  obtain ⟨M1, hk1, hyp⟩ := bd_some hyp
  try dsimp only at hyp
  refine am_callV [_, _] dX6_freeze_12 ml_X6_92 vm_X8_writeTo (sh_29 g) rfl (fun _ => Nat.le_of_ble_eq_true rfl) (by omega) rfl (ef_X8_writeTo_t (d := d + 4) (h := h) g hk1) rfl ?_
  change am_At _ _ _ 15 [_, _, _, _, _, _, _] [] _ _
  refine am_aload_n dX6_freeze_15 rfl ?_
  refine am_iload_n dX6_freeze_16 rfl ?_
  refine am_putI 6 9 dX6_freeze_17 (Or.inl fp_X6_95) (sh_38 g) (by decide) rfl rfl rfl ?_
  refine am_aload_n dX6_freeze_20 rfl ?_
  refine am_iconst 0 (v := 0) dX6_freeze_21 (by decide) ?_
  refine am_putI 6 10 dX6_freeze_22 (Or.inl fp_X6_98) (sh_38 g) (by decide) rfl rfl rfl ?_
  refine am_iconst 0 (v := 0) dX6_freeze_25 (by decide) ?_
  refine am_istore dX6_freeze_26 (am_lb rfl) ?_
  change am_At _ _ _ 28 [_, _, _, _, _, _, _] [] _ _
  obtain ⟨M6, hw6, hyp⟩ := bd_some hyp
  refine am_At.drop 1 ?_
  try dsimp only at hyp
  refine eL_X6_freeze_28_24 (d := d) (h := h) g hW  FU ((0 : Int32), (am_u3 (am_u3 M1 38 0 9 x1) 38 0 10 (0 : Int32))) M6 hw6 ?_
  change am_At _ _ _ 98 [_, _, _, _, _, _, _] [] _ _
  cases hyp
  exact am_vret dX6_freeze_98 rfl
theorem eL_X6_freeze_28_25 {d : Nat} {h : am_H} (g : lay h) (hW : h.2.2 23 0 = some 25 ∧ h.2.2 23 2 = some 24) {x2 x3 : Int32} {r : am_R} (n : Nat) : ∀ (s : Int32 × Mem) (e : Mem), wh (L_X6_freeze_28 25 24 x2 x3) n s = some e → ((fun (M : Mem) => am_At am_X0 (d + 5) mX6_freeze 98 [some (.inr (38, 0)), none, some (am_I (x2)), some (am_I (x3)), none, none, none] [] (am_hM h M) r) e) → (match s with | (x4, M) => am_At am_X0 (d + 5) mX6_freeze 28 [some (.inr (38, 0)), none, some (am_I (x2)), some (am_I (x3)), some (am_I (x4)), none, none] [] (am_hM h M) r) := by
  refine am_wh (At := fun (s : Int32 × Mem) => match s with | (x4, M) => am_At am_X0 (d + 5) mX6_freeze 28 [some (.inr (38, 0)), none, some (am_I (x2)), some (am_I (x3)), some (am_I (x4)), none, none] [] (am_hM h M) r) (Ex := fun (e : Mem) => (fun (M : Mem) => am_At am_X0 (d + 5) mX6_freeze 98 [some (.inr (38, 0)), none, some (am_I (x2)), some (am_I (x3)), none, none, none] [] (am_hM h M) r) e) ?_ n
  rintro ⟨x4, M⟩ y hyp hx
  unfold L_X6_freeze_28 at hyp
  try dsimp only at hyp
  change am_At _ _ _ 28 [_, _, _, _, _, _, _] [] _ _
  refine am_iload dX6_freeze_28 rfl ?_
  refine am_iload_n dX6_freeze_30 rfl ?_
  refine am_icmp_ge (67) 98 dX6_freeze_31 rfl ?_ ?_
  · intro hc2
    have hc2 : x3 ≤ x4 := hc2
    replace hyp := it_pos hc2 hyp
    cases hyp
    refine am_At.drop 4 ?_
    exact hx
  · intro hc2n
    have hc2n : ¬ (x3 ≤ x4) := hc2n
    replace hyp := it_neg hc2n hyp
    refine am_aload_n dX6_freeze_34 rfl ?_
    refine am_iload_n dX6_freeze_35 rfl ?_
    obtain ⟨⟨v3, M3⟩, hk3, hyp⟩ := bd_some hyp
    try dsimp only at hyp
    refine am_callV [_] dX6_freeze_36 ml_X6_101 vm_X6_drawFrozen (sh_38 g) rfl (fun _ => Nat.le_of_ble_eq_true rfl) (by omega) rfl (ef_X6_drawFrozen (d := d + 4) (h := h) g hk3) rfl ?_
    change am_At _ _ _ 39 [_, _, _, _, _, _, _] [_] _ _
    refine am_istore dX6_freeze_39 (am_lb rfl) ?_
    change am_At _ _ _ 41 [_, _, _, _, _, _, _] [] _ _
    refine am_aload_n dX6_freeze_41 rfl ?_
    refine am_iload dX6_freeze_42 rfl ?_
    obtain ⟨⟨v4, M4⟩, hk4, hyp⟩ := bd_some hyp
    try dsimp only at hyp
    refine am_callV [_] dX6_freeze_44 ml_X6_104 vm_X6_dueThen (sh_38 g) rfl (fun _ => Nat.le_of_ble_eq_true rfl) (by omega) rfl (ef_X6_dueThen_25 (d := d + 0) (h := h) g hW hk4) rfl ?_
    change am_At _ _ _ 47 [_, _, _, _, _, _, _] [_] _ _
    refine am_istore dX6_freeze_47 (am_lb rfl) ?_
    change am_At _ _ _ 49 [_, _, _, _, _, _, _] [] _ _
    refine am_aload_n dX6_freeze_49 rfl ?_
    refine am_dup dX6_freeze_50 (fun _ => rfl) ?_
    refine am_getI 6 10 dX6_freeze_51 fg_X6_98 (sh_38 g) (by decide) rfl ?_
    refine am_aload_n dX6_freeze_54 rfl ?_
    refine am_getR 6 1 28 dX6_freeze_55 fg_X6_29 (sh_38 g) (by decide) rfl (rf_38_1 g) ?_
    refine am_aload_n dX6_freeze_58 rfl ?_
    refine am_getR 6 3 39 dX6_freeze_59 fg_X6_12 (sh_38 g) (by decide) rfl (rf_38_3 g) ?_
    refine am_iload dX6_freeze_62 rfl ?_
    refine am_callV [_, _] dX6_freeze_64 ml_X6_54 vm_X4_openBits (sh_28 g) rfl (fun _ => Nat.le_of_ble_eq_true rfl) (by omega) rfl (ef_X4_openBits_40 (d := d + 3) (h := h) g (x2 := v4) (M := M4) rfl) rfl ?_
    change am_At _ _ _ 67 [_, _, _, _, _, _, _] [_, _, _] _ _
    refine am_iload dX6_freeze_67 rfl ?_
    refine am_iand dX6_freeze_69 ?_
    refine am_callS (c := 0) (k := 0) (n := 0) (w := 0) [_] dX6_freeze_70 ml_X6_107 sm_J6_bitCount_0f7a4 rfl (fun _ => Nat.le_of_ble_eq_true rfl) (by omega) rfl (ev_bc (d := d + 4) (x := (((M4 40 0 1) ||| (v4 &&& ((M4 40 0 2) ^^^ (-1 : Int32)))) &&& v3))) rfl ?_
    change am_At _ _ _ 73 [_, _, _, _, _, _, _] [_, _, _] _ _
    refine am_iadd dX6_freeze_73 ?_
    refine am_putI 6 10 dX6_freeze_74 (Or.inl fp_X6_98) (sh_38 g) (by decide) rfl rfl rfl ?_
    refine am_aload_n dX6_freeze_77 rfl ?_
    refine am_getR 6 1 28 dX6_freeze_78 fg_X6_29 (sh_38 g) (by decide) rfl (rf_38_1 g) ?_
    refine am_aload_n dX6_freeze_81 rfl ?_
    refine am_getR 6 3 39 dX6_freeze_82 fg_X6_12 (sh_38 g) (by decide) rfl (rf_38_3 g) ?_
    refine am_iload dX6_freeze_85 rfl ?_
    refine am_iload dX6_freeze_87 rfl ?_
    obtain ⟨M5, hk5, hyp⟩ := bd_some hyp
    try dsimp only at hyp
    refine am_callV [_, _, _] dX6_freeze_89 ml_X6_112 vm_X4_passHour (sh_28 g) rfl (fun _ => Nat.le_of_ble_eq_true rfl) (by omega) rfl (ef_X4_passHour_40 (d := d + 1) (h := h) g hk5) rfl ?_
    change am_At _ _ _ 92 [_, _, _, _, _, _, _] [] _ _
    refine am_iinc dX6_freeze_92 rfl (am_ix _) ?_
    change am_At _ _ _ 95 [_, _, _, _, _, _, _] [] _ _
    refine am_goto (-67) 28 dX6_freeze_95 rfl ?_
    cases hyp
    refine am_At.drop 5 ?_
    refine am_At.drop 6 ?_
    exact hx
theorem ef_X6_freeze_25 {d : Nat} {h : am_H} (g : lay h) (hW : h.2.2 23 0 = some 25 ∧ h.2.2 23 2 = some 24) {x1 x2 x3 : Int32} {M : Mem} {M' : Mem} (hyp : f_X6_freeze 25 24 x1 x2 x3 M = some M') : am_Ev (d + 5) mX6_freeze [.inr (38, 0), am_I x1, am_I x2, am_I x3] (am_hM h M) (.inl (none, am_hM h M')) := by
  unfold f_X6_freeze at hyp
  refine am_Ev.mk (by decide +kernel) rfl rfl (Nat.le_refl _) (Nat.le_refl _) ?_
  change am_At _ _ _ 0 [_, _, _, _, _, _, _] [] _ _
  refine am_aload_n dX6_freeze_0 rfl ?_
  refine am_getR 6 2 29 dX6_freeze_1 fg_X6_33 (sh_38 g) (by decide) rfl (rf_38_2 g) ?_
  refine am_aload_n dX6_freeze_4 rfl ?_
  refine am_getR 6 3 39 dX6_freeze_5 fg_X6_12 (sh_38 g) (by decide) rfl (rf_38_3 g) ?_
  refine am_getR 8 0 40 dX6_freeze_8 fg_X6_89 (sh_39 g) (by decide) rfl (rf_39_0 g) ?_
  refine am_iconst 0 (v := 0) dX6_freeze_11 (by decide) ?_
  obtain ⟨M1, hk1, hyp⟩ := bd_some hyp
  try dsimp only at hyp
  refine am_callV [_, _] dX6_freeze_12 ml_X6_92 vm_X8_writeTo (sh_29 g) rfl (fun _ => Nat.le_of_ble_eq_true rfl) (by omega) rfl (ef_X8_writeTo_t (d := d + 4) (h := h) g hk1) rfl ?_
  change am_At _ _ _ 15 [_, _, _, _, _, _, _] [] _ _
  refine am_aload_n dX6_freeze_15 rfl ?_
  refine am_iload_n dX6_freeze_16 rfl ?_
  refine am_putI 6 9 dX6_freeze_17 (Or.inl fp_X6_95) (sh_38 g) (by decide) rfl rfl rfl ?_
  refine am_aload_n dX6_freeze_20 rfl ?_
  refine am_iconst 0 (v := 0) dX6_freeze_21 (by decide) ?_
  refine am_putI 6 10 dX6_freeze_22 (Or.inl fp_X6_98) (sh_38 g) (by decide) rfl rfl rfl ?_
  refine am_iconst 0 (v := 0) dX6_freeze_25 (by decide) ?_
  refine am_istore dX6_freeze_26 (am_lb rfl) ?_
  change am_At _ _ _ 28 [_, _, _, _, _, _, _] [] _ _
  obtain ⟨M6, hw6, hyp⟩ := bd_some hyp
  refine am_At.drop 1 ?_
  try dsimp only at hyp
  refine eL_X6_freeze_28_25 (d := d) (h := h) g hW  FU ((0 : Int32), (am_u3 (am_u3 M1 38 0 9 x1) 38 0 10 (0 : Int32))) M6 hw6 ?_
  change am_At _ _ _ 98 [_, _, _, _, _, _, _] [] _ _
  cases hyp
  exact am_vret dX6_freeze_98 rfl
theorem ef_X6_letPass_24 {d : Nat} {h : am_H} (g : lay h) (hW : h.2.2 23 0 = some 24 ∧ h.2.2 23 2 = some 25) {x1 : Int32} {M : Mem} {M' : Mem} (hyp : f_X6_letPass 24 25 x1 M = some M') : am_Ev (d + 6) mX6_letPass [.inr (38, 0), am_I x1] (am_hM h M) (.inl (none, am_hM h M')) := by
  unfold f_X6_letPass at hyp
  refine am_Ev.mk (by decide +kernel) rfl rfl (Nat.le_refl _) (Nat.le_refl _) ?_
  change am_At _ _ _ 0 [_, _] [] _ _
  refine am_aload_n dX6_letPass_0 rfl ?_
  refine am_iconst 0 (v := 0) dX6_letPass_1 (by decide) ?_
  refine am_iconst 0 (v := 0) dX6_letPass_2 (by decide) ?_
  refine am_iload_n dX6_letPass_3 rfl ?_
  obtain ⟨M1, hk1, hyp⟩ := bd_some hyp
  try dsimp only at hyp
  refine am_callV [_, _, _] dX6_letPass_4 ml_X6_85 vm_X6_freeze (sh_38 g) rfl (fun _ => Nat.le_of_ble_eq_true rfl) (by omega) rfl (ef_X6_freeze_24 (d := d + 0) (h := h) g hW hk1) rfl ?_
  change am_At _ _ _ 7 [_, _] [] _ _
  cases hyp
  exact am_vret dX6_letPass_7 rfl
theorem ef_X6_letPass_25 {d : Nat} {h : am_H} (g : lay h) (hW : h.2.2 23 0 = some 25 ∧ h.2.2 23 2 = some 24) {x1 : Int32} {M : Mem} {M' : Mem} (hyp : f_X6_letPass 25 24 x1 M = some M') : am_Ev (d + 6) mX6_letPass [.inr (38, 0), am_I x1] (am_hM h M) (.inl (none, am_hM h M')) := by
  unfold f_X6_letPass at hyp
  refine am_Ev.mk (by decide +kernel) rfl rfl (Nat.le_refl _) (Nat.le_refl _) ?_
  change am_At _ _ _ 0 [_, _] [] _ _
  refine am_aload_n dX6_letPass_0 rfl ?_
  refine am_iconst 0 (v := 0) dX6_letPass_1 (by decide) ?_
  refine am_iconst 0 (v := 0) dX6_letPass_2 (by decide) ?_
  refine am_iload_n dX6_letPass_3 rfl ?_
  obtain ⟨M1, hk1, hyp⟩ := bd_some hyp
  try dsimp only at hyp
  refine am_callV [_, _, _] dX6_letPass_4 ml_X6_85 vm_X6_freeze (sh_38 g) rfl (fun _ => Nat.le_of_ble_eq_true rfl) (by omega) rfl (ef_X6_freeze_25 (d := d + 0) (h := h) g hW hk1) rfl ?_
  change am_At _ _ _ 7 [_, _] [] _ _
  cases hyp
  exact am_vret dX6_letPass_7 rfl
theorem ef_X6_openIn_24 {d : Nat} {h : am_H} (g : lay h) (hW : h.2.2 23 0 = some 24 ∧ h.2.2 23 2 = some 25) {x1 : Int32} {M : Mem} {v : Int32} {M' : Mem} (hyp : f_X6_openIn 24 25 x1 M = some (v, M')) : am_Ev (d + 4) mX6_openIn [.inr (38, 0), am_I x1] (am_hM h M) (.inl (some (am_I v), am_hM h M')) := by
  unfold f_X6_openIn at hyp
  refine am_Ev.mk (by decide +kernel) rfl rfl (Nat.le_refl _) (Nat.le_refl _) ?_
  change am_At _ _ _ 0 [_, _] [] _ _
  refine am_aload_n dX6_openIn_0 rfl ?_
  refine am_getR 6 1 28 dX6_openIn_1 fg_X6_29 (sh_38 g) (by decide) rfl (rf_38_1 g) ?_
  refine am_aload_n dX6_openIn_4 rfl ?_
  refine am_getR 6 2 29 dX6_openIn_5 fg_X6_33 (sh_38 g) (by decide) rfl (rf_38_2 g) ?_
  refine am_aload_n dX6_openIn_8 rfl ?_
  refine am_iload_n dX6_openIn_9 rfl ?_
  obtain ⟨⟨v1, M1⟩, hk1, hyp⟩ := bd_some hyp
  try dsimp only at hyp
  refine am_callV [_] dX6_openIn_10 ml_X6_50 vm_X6_dueIn (sh_38 g) rfl (fun _ => Nat.le_of_ble_eq_true rfl) (by omega) rfl (ef_X6_dueIn_24 (d := d + 0) (h := h) g hW hk1) rfl ?_
  change am_At _ _ _ 13 [_, _] [_, _, _] _ _
  refine am_callV [_, _] dX6_openIn_13 ml_X6_54 vm_X4_openBits (sh_28 g) rfl (fun _ => Nat.le_of_ble_eq_true rfl) (by omega) rfl (ef_X4_openBits_30 (d := d + 2) (h := h) g (x2 := v1) (M := M1) rfl) rfl ?_
  change am_At _ _ _ 16 [_, _] [_] _ _
  cases hyp
  exact am_iret dX6_openIn_16 rfl
theorem ef_X6_openIn_25 {d : Nat} {h : am_H} (g : lay h) (hW : h.2.2 23 0 = some 25 ∧ h.2.2 23 2 = some 24) {x1 : Int32} {M : Mem} {v : Int32} {M' : Mem} (hyp : f_X6_openIn 25 24 x1 M = some (v, M')) : am_Ev (d + 4) mX6_openIn [.inr (38, 0), am_I x1] (am_hM h M) (.inl (some (am_I v), am_hM h M')) := by
  unfold f_X6_openIn at hyp
  refine am_Ev.mk (by decide +kernel) rfl rfl (Nat.le_refl _) (Nat.le_refl _) ?_
  change am_At _ _ _ 0 [_, _] [] _ _
  refine am_aload_n dX6_openIn_0 rfl ?_
  refine am_getR 6 1 28 dX6_openIn_1 fg_X6_29 (sh_38 g) (by decide) rfl (rf_38_1 g) ?_
  refine am_aload_n dX6_openIn_4 rfl ?_
  refine am_getR 6 2 29 dX6_openIn_5 fg_X6_33 (sh_38 g) (by decide) rfl (rf_38_2 g) ?_
  refine am_aload_n dX6_openIn_8 rfl ?_
  refine am_iload_n dX6_openIn_9 rfl ?_
  obtain ⟨⟨v1, M1⟩, hk1, hyp⟩ := bd_some hyp
  try dsimp only at hyp
  refine am_callV [_] dX6_openIn_10 ml_X6_50 vm_X6_dueIn (sh_38 g) rfl (fun _ => Nat.le_of_ble_eq_true rfl) (by omega) rfl (ef_X6_dueIn_25 (d := d + 0) (h := h) g hW hk1) rfl ?_
  change am_At _ _ _ 13 [_, _] [_, _, _] _ _
  refine am_callV [_, _] dX6_openIn_13 ml_X6_54 vm_X4_openBits (sh_28 g) rfl (fun _ => Nat.le_of_ble_eq_true rfl) (by omega) rfl (ef_X4_openBits_30 (d := d + 2) (h := h) g (x2 := v1) (M := M1) rfl) rfl ?_
  change am_At _ _ _ 16 [_, _] [_] _ _
  cases hyp
  exact am_iret dX6_openIn_16 rfl
theorem eL_X6_sail_23_24 {d : Nat} {h : am_H} (g : lay h) (hW : h.2.2 23 0 = some 24 ∧ h.2.2 23 2 = some 25) {x1 : Int32} {r : am_R} (n : Nat) : ∀ (s : Int32 × Int32 × Mem) (e : Mem), wh (L_X6_sail_23 24 25 x1) n s = some e → ((fun (M : Mem) => am_At am_X0 (d + 5) mX6_sail 117 [some (.inr (38, 0)), some (am_I (x1)), none, none, none, none] [] (am_hM h M) r) e) → (match s with | (x3, x4, M) => am_At am_X0 (d + 5) mX6_sail 23 [some (.inr (38, 0)), some (am_I (x1)), none, some (am_I (x3)), some (am_I (x4)), none] [] (am_hM h M) r) := by
  refine am_wh (At := fun (s : Int32 × Int32 × Mem) => match s with | (x3, x4, M) => am_At am_X0 (d + 5) mX6_sail 23 [some (.inr (38, 0)), some (am_I (x1)), none, some (am_I (x3)), some (am_I (x4)), none] [] (am_hM h M) r) (Ex := fun (e : Mem) => (fun (M : Mem) => am_At am_X0 (d + 5) mX6_sail 117 [some (.inr (38, 0)), some (am_I (x1)), none, none, none, none] [] (am_hM h M) r) e) ?_ n
  rintro ⟨x3, x4, M⟩ y hyp hx
  unfold L_X6_sail_23 at hyp
  try dsimp only at hyp
  change am_At _ _ _ 23 [_, _, _, _, _, _] [] _ _
  refine am_iload dX6_sail_23 rfl ?_
  refine am_sipush 240 (v := 240) dX6_sail_25 (by decide) ?_
  refine am_icmp_ge (89) 117 dX6_sail_28 rfl ?_ ?_
  · intro hc1
    have hc1 : (240 : Int32) ≤ x4 := hc1
    replace hyp := it_pos hc1 hyp
    cases hyp
    refine am_At.drop 3 ?_
    refine am_At.drop 4 ?_
    exact hx
  · intro hc1n
    have hc1n : ¬ ((240 : Int32) ≤ x4) := hc1n
    replace hyp := it_neg hc1n hyp
    refine am_aload_n dX6_sail_31 rfl ?_
    refine am_getI 6 7 dX6_sail_32 fg_X6_57 (sh_38 g) (by decide) rfl ?_
    refine am_iconst (-1) (v := (-1)) dX6_sail_35 (by decide) ?_
    refine am_icmp_ne (81) 117 dX6_sail_36 rfl ?_ ?_
    · intro hc2n
      have hc2n : ¬ ((M 38 0 7) = (-1 : Int32)) := hc2n
      replace hyp := it_neg hc2n hyp
      cases hyp
      refine am_At.drop 3 ?_
      refine am_At.drop 4 ?_
      exact hx
    · intro hc2
      have hc2 : (M 38 0 7) = (-1 : Int32) := hc2
      replace hyp := it_pos hc2 hyp
      refine am_aload_n dX6_sail_39 rfl ?_
      refine am_getR 6 1 28 dX6_sail_40 fg_X6_29 (sh_38 g) (by decide) rfl (rf_38_1 g) ?_
      refine am_iload_n dX6_sail_43 rfl ?_
      refine am_iload_n dX6_sail_44 rfl ?_
      refine am_aload_n dX6_sail_45 rfl ?_
      refine am_iload dX6_sail_46 rfl ?_
      obtain ⟨⟨v3, M3⟩, hk3, hyp⟩ := bd_some hyp
      try dsimp only at hyp
      refine am_callV [_] dX6_sail_48 ml_X6_69 vm_X6_openIn (sh_38 g) rfl (fun _ => Nat.le_of_ble_eq_true rfl) (by omega) rfl (ef_X6_openIn_24 (d := d + 0) (h := h) g hW hk3) rfl ?_
      change am_At _ _ _ 51 [_, _, _, _, _, _] [_, _, _, _] _ _
      obtain ⟨v4, hk4, hyp⟩ := bd_some hyp
      try dsimp only at hyp
      refine am_callV [_, _, _] dX6_sail_51 ml_X6_72 vm_X4_passedOn (sh_28 g) rfl (fun _ => Nat.le_of_ble_eq_true rfl) (by omega) rfl (ef_X4_passedOn (d := d + 2) (h := h) g hk4) rfl ?_
      change am_At _ _ _ 54 [_, _, _, _, _, _] [_] _ _
      refine am_istore dX6_sail_54 (am_lb rfl) ?_
      change am_At _ _ _ 56 [_, _, _, _, _, _] [] _ _
      refine am_aload_n dX6_sail_56 rfl ?_
      refine am_getR 6 1 28 dX6_sail_57 fg_X6_29 (sh_38 g) (by decide) rfl (rf_38_1 g) ?_
      refine am_iload_n dX6_sail_60 rfl ?_
      refine am_iload dX6_sail_61 rfl ?_
      refine am_callV [_, _] dX6_sail_63 ml_X6_76 vm_X4_hasKnocked (sh_28 g) rfl (fun _ => Nat.le_of_ble_eq_true rfl) (by omega) rfl (ef_X4_hasKnocked (d := d + 4) (h := h) g (x1 := x3) (x2 := v4) (M := M3) rfl) rfl ?_
      change am_At _ _ _ 66 [_, _, _, _, _, _] [_] _ _
      refine am_if_eq (24) 90 dX6_sail_66 rfl ?_ ?_
      · intro hc5
        have hc5 : (f_X4_hasKnocked x3 v4 M3) = 0 := hc5
        replace hyp := it_pos hc5 hyp
        refine am_iload dX6_sail_90 rfl ?_
        refine am_aload_n dX6_sail_92 rfl ?_
        refine am_getR 6 0 3 dX6_sail_93 fg_X6_25 (sh_38 g) (by decide) rfl (rf_38_0 g) ?_
        refine am_getI 1 0 dX6_sail_96 fg_X6_80 (sh_3 g) (by decide) rfl ?_
        refine am_icmp_ne (9) 108 dX6_sail_99 rfl ?_ ?_
        · intro hc6n
          have hc6n : ¬ (v4 = (M3 3 0 0)) := hc6n
          replace hyp := it_neg hc6n hyp
          refine am_iload dX6_sail_108 rfl ?_
          refine am_istore_n dX6_sail_110 (am_lb rfl) ?_
          change am_At _ _ _ 111 [_, _, _, _, _, _] [] _ _
          refine am_iinc dX6_sail_111 rfl (am_ix _) ?_
          change am_At _ _ _ 114 [_, _, _, _, _, _] [] _ _
          refine am_goto (-91) 23 dX6_sail_114 rfl ?_
          cases hyp
          refine am_At.drop 5 ?_
          exact hx
        · intro hc6
          have hc6 : v4 = (M3 3 0 0) := hc6
          replace hyp := it_pos hc6 hyp
          refine am_aload_n dX6_sail_102 rfl ?_
          refine am_iload dX6_sail_103 rfl ?_
          refine am_putI 6 7 dX6_sail_105 (Or.inl fp_X6_57) (sh_38 g) (by decide) rfl rfl rfl ?_
          refine am_iload dX6_sail_108 rfl ?_
          refine am_istore_n dX6_sail_110 (am_lb rfl) ?_
          change am_At _ _ _ 111 [_, _, _, _, _, _] [] _ _
          refine am_iinc dX6_sail_111 rfl (am_ix _) ?_
          change am_At _ _ _ 114 [_, _, _, _, _, _] [] _ _
          refine am_goto (-91) 23 dX6_sail_114 rfl ?_
          cases hyp
          refine am_At.drop 5 ?_
          exact hx
      · intro hc5n
        have hc5n : ¬ ((f_X4_hasKnocked x3 v4 M3) = 0) := hc5n
        replace hyp := it_neg hc5n hyp
        refine am_aload_n dX6_sail_69 rfl ?_
        refine am_dup dX6_sail_70 (fun _ => rfl) ?_
        refine am_getI 6 8 dX6_sail_71 fg_X6_60 (sh_38 g) (by decide) rfl ?_
        refine am_iconst 1 (v := 1) dX6_sail_74 (by decide) ?_
        refine am_iadd dX6_sail_75 ?_
        refine am_putI 6 8 dX6_sail_76 (Or.inl fp_X6_60) (sh_38 g) (by decide) rfl rfl rfl ?_
        refine am_aload_n dX6_sail_79 rfl ?_
        refine am_getR 6 6 42 dX6_sail_80 fg_X6_22 (sh_38 g) (by decide) rfl (rf_38_6 g) ?_
        refine am_iload dX6_sail_83 rfl ?_
        refine am_dup2 dX6_sail_85 (fun _ => rfl) (fun _ => rfl) ?_
        obtain ⟨hg7, hyp⟩ := gd_some hyp
        refine am_iald dX6_sail_86 (am_ia.one (sh_42 g)) (am_lit hg7) ?_
        refine am_iconst 1 (v := 1) dX6_sail_87 (by decide) ?_
        refine am_iadd dX6_sail_88 ?_
        refine am_iast dX6_sail_89 (am_ia.one (sh_42 g)) (am_lit hg7) ?_
        refine am_iload dX6_sail_90 rfl ?_
        refine am_aload_n dX6_sail_92 rfl ?_
        refine am_getR 6 0 3 dX6_sail_93 fg_X6_25 (sh_38 g) (by decide) rfl (rf_38_0 g) ?_
        refine am_getI 1 0 dX6_sail_96 fg_X6_80 (sh_3 g) (by decide) rfl ?_
        refine am_icmp_ne (9) 108 dX6_sail_99 rfl ?_ ?_
        · intro hc8n
          have hc8n : ¬ (v4 = (M3 3 0 0)) := hc8n
          replace hyp := it_neg hc8n hyp
          refine am_iload dX6_sail_108 rfl ?_
          refine am_istore_n dX6_sail_110 (am_lb rfl) ?_
          change am_At _ _ _ 111 [_, _, _, _, _, _] [] _ _
          refine am_iinc dX6_sail_111 rfl (am_ix _) ?_
          change am_At _ _ _ 114 [_, _, _, _, _, _] [] _ _
          refine am_goto (-91) 23 dX6_sail_114 rfl ?_
          cases hyp
          refine am_At.drop 5 ?_
          exact hx
        · intro hc8
          have hc8 : v4 = (M3 3 0 0) := hc8
          replace hyp := it_pos hc8 hyp
          refine am_aload_n dX6_sail_102 rfl ?_
          refine am_iload dX6_sail_103 rfl ?_
          refine am_putI 6 7 dX6_sail_105 (Or.inl fp_X6_57) (sh_38 g) (by decide) rfl rfl rfl ?_
          refine am_iload dX6_sail_108 rfl ?_
          refine am_istore_n dX6_sail_110 (am_lb rfl) ?_
          change am_At _ _ _ 111 [_, _, _, _, _, _] [] _ _
          refine am_iinc dX6_sail_111 rfl (am_ix _) ?_
          change am_At _ _ _ 114 [_, _, _, _, _, _] [] _ _
          refine am_goto (-91) 23 dX6_sail_114 rfl ?_
          cases hyp
          refine am_At.drop 5 ?_
          exact hx
theorem ef_X6_sail_24 {d : Nat} {h : am_H} (g : lay h) (hW : h.2.2 23 0 = some 24 ∧ h.2.2 23 2 = some 25) {x1 x2 : Int32} {M : Mem} {M' : Mem} (hyp : f_X6_sail 24 25 x1 x2 M = some M') : am_Ev (d + 5) mX6_sail [.inr (38, 0), am_I x1, am_I x2] (am_hM h M) (.inl (none, am_hM h M')) := by
  unfold f_X6_sail at hyp
  refine am_Ev.mk (by decide +kernel) rfl rfl (Nat.le_refl _) (Nat.le_refl _) ?_
  change am_At _ _ _ 0 [_, _, _, _, _, _] [] _ _
  refine am_aload_n dX6_sail_0 rfl ?_
  refine am_iconst (-1) (v := (-1)) dX6_sail_1 (by decide) ?_
  refine am_putI 6 7 dX6_sail_2 (Or.inl fp_X6_57) (sh_38 g) (by decide) rfl rfl rfl ?_
  refine am_aload_n dX6_sail_5 rfl ?_
  refine am_iconst 0 (v := 0) dX6_sail_6 (by decide) ?_
  refine am_putI 6 8 dX6_sail_7 (Or.inl fp_X6_60) (sh_38 g) (by decide) rfl rfl rfl ?_
  refine am_aload_n dX6_sail_10 rfl ?_
  refine am_getR 6 6 42 dX6_sail_11 fg_X6_22 (sh_38 g) (by decide) rfl (rf_38_6 g) ?_
  refine am_iconst 0 (v := 0) dX6_sail_14 (by decide) ?_
  refine am_callS (c := 0) (k := 0) (n := 0) (w := 0) [_, _] dX6_sail_15 ml_X6_63 sm_J7_fill_53178 rfl (fun _ => Nat.le_of_ble_eq_true rfl) (by omega) rfl (ev_fill (d := d + 4) (h := am_hM h (am_u3 (am_u3 M 38 0 7 (-1 : Int32)) 38 0 8 (0 : Int32))) (v := (0 : Int32)) (sh_42 g) (by decide)) rfl ?_
  change am_At _ _ _ 18 [_, _, _, _, _, _] [] _ _
  refine am_iconst 0 (v := 0) dX6_sail_18 (by decide) ?_
  refine am_istore_n dX6_sail_19 (am_lb rfl) ?_
  change am_At _ _ _ 20 [_, _, _, _, _, _] [] _ _
  refine am_iload_n dX6_sail_20 rfl ?_
  refine am_istore dX6_sail_21 (am_lb rfl) ?_
  change am_At _ _ _ 23 [_, _, _, _, _, _] [] _ _
  obtain ⟨M9, hw9, hyp⟩ := bd_some hyp
  refine am_At.drop 2 ?_
  try dsimp only at hyp
  refine eL_X6_sail_23_24 (d := d) (h := h) g hW  FU ((0 : Int32), x2, (fillM (am_u3 (am_u3 M 38 0 7 (-1 : Int32)) 38 0 8 (0 : Int32)) 42 16 (0 : Int32))) M9 hw9 ?_
  change am_At _ _ _ 117 [_, _, _, _, _, _] [] _ _
  cases hyp
  exact am_vret dX6_sail_117 rfl
theorem eL_X6_sail_23_25 {d : Nat} {h : am_H} (g : lay h) (hW : h.2.2 23 0 = some 25 ∧ h.2.2 23 2 = some 24) {x1 : Int32} {r : am_R} (n : Nat) : ∀ (s : Int32 × Int32 × Mem) (e : Mem), wh (L_X6_sail_23 25 24 x1) n s = some e → ((fun (M : Mem) => am_At am_X0 (d + 5) mX6_sail 117 [some (.inr (38, 0)), some (am_I (x1)), none, none, none, none] [] (am_hM h M) r) e) → (match s with | (x3, x4, M) => am_At am_X0 (d + 5) mX6_sail 23 [some (.inr (38, 0)), some (am_I (x1)), none, some (am_I (x3)), some (am_I (x4)), none] [] (am_hM h M) r) := by
  refine am_wh (At := fun (s : Int32 × Int32 × Mem) => match s with | (x3, x4, M) => am_At am_X0 (d + 5) mX6_sail 23 [some (.inr (38, 0)), some (am_I (x1)), none, some (am_I (x3)), some (am_I (x4)), none] [] (am_hM h M) r) (Ex := fun (e : Mem) => (fun (M : Mem) => am_At am_X0 (d + 5) mX6_sail 117 [some (.inr (38, 0)), some (am_I (x1)), none, none, none, none] [] (am_hM h M) r) e) ?_ n
  rintro ⟨x3, x4, M⟩ y hyp hx
  unfold L_X6_sail_23 at hyp
  try dsimp only at hyp
  change am_At _ _ _ 23 [_, _, _, _, _, _] [] _ _
  refine am_iload dX6_sail_23 rfl ?_
  refine am_sipush 240 (v := 240) dX6_sail_25 (by decide) ?_
  refine am_icmp_ge (89) 117 dX6_sail_28 rfl ?_ ?_
  · intro hc1
    have hc1 : (240 : Int32) ≤ x4 := hc1
    replace hyp := it_pos hc1 hyp
    cases hyp
    refine am_At.drop 3 ?_
    refine am_At.drop 4 ?_
    exact hx
  · intro hc1n
    have hc1n : ¬ ((240 : Int32) ≤ x4) := hc1n
    replace hyp := it_neg hc1n hyp
    refine am_aload_n dX6_sail_31 rfl ?_
    refine am_getI 6 7 dX6_sail_32 fg_X6_57 (sh_38 g) (by decide) rfl ?_
    refine am_iconst (-1) (v := (-1)) dX6_sail_35 (by decide) ?_
    refine am_icmp_ne (81) 117 dX6_sail_36 rfl ?_ ?_
    · intro hc2n
      have hc2n : ¬ ((M 38 0 7) = (-1 : Int32)) := hc2n
      replace hyp := it_neg hc2n hyp
      cases hyp
      refine am_At.drop 3 ?_
      refine am_At.drop 4 ?_
      exact hx
    · intro hc2
      have hc2 : (M 38 0 7) = (-1 : Int32) := hc2
      replace hyp := it_pos hc2 hyp
      refine am_aload_n dX6_sail_39 rfl ?_
      refine am_getR 6 1 28 dX6_sail_40 fg_X6_29 (sh_38 g) (by decide) rfl (rf_38_1 g) ?_
      refine am_iload_n dX6_sail_43 rfl ?_
      refine am_iload_n dX6_sail_44 rfl ?_
      refine am_aload_n dX6_sail_45 rfl ?_
      refine am_iload dX6_sail_46 rfl ?_
      obtain ⟨⟨v3, M3⟩, hk3, hyp⟩ := bd_some hyp
      try dsimp only at hyp
      refine am_callV [_] dX6_sail_48 ml_X6_69 vm_X6_openIn (sh_38 g) rfl (fun _ => Nat.le_of_ble_eq_true rfl) (by omega) rfl (ef_X6_openIn_25 (d := d + 0) (h := h) g hW hk3) rfl ?_
      change am_At _ _ _ 51 [_, _, _, _, _, _] [_, _, _, _] _ _
      obtain ⟨v4, hk4, hyp⟩ := bd_some hyp
      try dsimp only at hyp
      refine am_callV [_, _, _] dX6_sail_51 ml_X6_72 vm_X4_passedOn (sh_28 g) rfl (fun _ => Nat.le_of_ble_eq_true rfl) (by omega) rfl (ef_X4_passedOn (d := d + 2) (h := h) g hk4) rfl ?_
      change am_At _ _ _ 54 [_, _, _, _, _, _] [_] _ _
      refine am_istore dX6_sail_54 (am_lb rfl) ?_
      change am_At _ _ _ 56 [_, _, _, _, _, _] [] _ _
      refine am_aload_n dX6_sail_56 rfl ?_
      refine am_getR 6 1 28 dX6_sail_57 fg_X6_29 (sh_38 g) (by decide) rfl (rf_38_1 g) ?_
      refine am_iload_n dX6_sail_60 rfl ?_
      refine am_iload dX6_sail_61 rfl ?_
      refine am_callV [_, _] dX6_sail_63 ml_X6_76 vm_X4_hasKnocked (sh_28 g) rfl (fun _ => Nat.le_of_ble_eq_true rfl) (by omega) rfl (ef_X4_hasKnocked (d := d + 4) (h := h) g (x1 := x3) (x2 := v4) (M := M3) rfl) rfl ?_
      change am_At _ _ _ 66 [_, _, _, _, _, _] [_] _ _
      refine am_if_eq (24) 90 dX6_sail_66 rfl ?_ ?_
      · intro hc5
        have hc5 : (f_X4_hasKnocked x3 v4 M3) = 0 := hc5
        replace hyp := it_pos hc5 hyp
        refine am_iload dX6_sail_90 rfl ?_
        refine am_aload_n dX6_sail_92 rfl ?_
        refine am_getR 6 0 3 dX6_sail_93 fg_X6_25 (sh_38 g) (by decide) rfl (rf_38_0 g) ?_
        refine am_getI 1 0 dX6_sail_96 fg_X6_80 (sh_3 g) (by decide) rfl ?_
        refine am_icmp_ne (9) 108 dX6_sail_99 rfl ?_ ?_
        · intro hc6n
          have hc6n : ¬ (v4 = (M3 3 0 0)) := hc6n
          replace hyp := it_neg hc6n hyp
          refine am_iload dX6_sail_108 rfl ?_
          refine am_istore_n dX6_sail_110 (am_lb rfl) ?_
          change am_At _ _ _ 111 [_, _, _, _, _, _] [] _ _
          refine am_iinc dX6_sail_111 rfl (am_ix _) ?_
          change am_At _ _ _ 114 [_, _, _, _, _, _] [] _ _
          refine am_goto (-91) 23 dX6_sail_114 rfl ?_
          cases hyp
          refine am_At.drop 5 ?_
          exact hx
        · intro hc6
          have hc6 : v4 = (M3 3 0 0) := hc6
          replace hyp := it_pos hc6 hyp
          refine am_aload_n dX6_sail_102 rfl ?_
          refine am_iload dX6_sail_103 rfl ?_
          refine am_putI 6 7 dX6_sail_105 (Or.inl fp_X6_57) (sh_38 g) (by decide) rfl rfl rfl ?_
          refine am_iload dX6_sail_108 rfl ?_
          refine am_istore_n dX6_sail_110 (am_lb rfl) ?_
          change am_At _ _ _ 111 [_, _, _, _, _, _] [] _ _
          refine am_iinc dX6_sail_111 rfl (am_ix _) ?_
          change am_At _ _ _ 114 [_, _, _, _, _, _] [] _ _
          refine am_goto (-91) 23 dX6_sail_114 rfl ?_
          cases hyp
          refine am_At.drop 5 ?_
          exact hx
      · intro hc5n
        have hc5n : ¬ ((f_X4_hasKnocked x3 v4 M3) = 0) := hc5n
        replace hyp := it_neg hc5n hyp
        refine am_aload_n dX6_sail_69 rfl ?_
        refine am_dup dX6_sail_70 (fun _ => rfl) ?_
        refine am_getI 6 8 dX6_sail_71 fg_X6_60 (sh_38 g) (by decide) rfl ?_
        refine am_iconst 1 (v := 1) dX6_sail_74 (by decide) ?_
        refine am_iadd dX6_sail_75 ?_
        refine am_putI 6 8 dX6_sail_76 (Or.inl fp_X6_60) (sh_38 g) (by decide) rfl rfl rfl ?_
        refine am_aload_n dX6_sail_79 rfl ?_
        refine am_getR 6 6 42 dX6_sail_80 fg_X6_22 (sh_38 g) (by decide) rfl (rf_38_6 g) ?_
        refine am_iload dX6_sail_83 rfl ?_
        refine am_dup2 dX6_sail_85 (fun _ => rfl) (fun _ => rfl) ?_
        obtain ⟨hg7, hyp⟩ := gd_some hyp
        refine am_iald dX6_sail_86 (am_ia.one (sh_42 g)) (am_lit hg7) ?_
        refine am_iconst 1 (v := 1) dX6_sail_87 (by decide) ?_
        refine am_iadd dX6_sail_88 ?_
        refine am_iast dX6_sail_89 (am_ia.one (sh_42 g)) (am_lit hg7) ?_
        refine am_iload dX6_sail_90 rfl ?_
        refine am_aload_n dX6_sail_92 rfl ?_
        refine am_getR 6 0 3 dX6_sail_93 fg_X6_25 (sh_38 g) (by decide) rfl (rf_38_0 g) ?_
        refine am_getI 1 0 dX6_sail_96 fg_X6_80 (sh_3 g) (by decide) rfl ?_
        refine am_icmp_ne (9) 108 dX6_sail_99 rfl ?_ ?_
        · intro hc8n
          have hc8n : ¬ (v4 = (M3 3 0 0)) := hc8n
          replace hyp := it_neg hc8n hyp
          refine am_iload dX6_sail_108 rfl ?_
          refine am_istore_n dX6_sail_110 (am_lb rfl) ?_
          change am_At _ _ _ 111 [_, _, _, _, _, _] [] _ _
          refine am_iinc dX6_sail_111 rfl (am_ix _) ?_
          change am_At _ _ _ 114 [_, _, _, _, _, _] [] _ _
          refine am_goto (-91) 23 dX6_sail_114 rfl ?_
          cases hyp
          refine am_At.drop 5 ?_
          exact hx
        · intro hc8
          have hc8 : v4 = (M3 3 0 0) := hc8
          replace hyp := it_pos hc8 hyp
          refine am_aload_n dX6_sail_102 rfl ?_
          refine am_iload dX6_sail_103 rfl ?_
          refine am_putI 6 7 dX6_sail_105 (Or.inl fp_X6_57) (sh_38 g) (by decide) rfl rfl rfl ?_
          refine am_iload dX6_sail_108 rfl ?_
          refine am_istore_n dX6_sail_110 (am_lb rfl) ?_
          change am_At _ _ _ 111 [_, _, _, _, _, _] [] _ _
          refine am_iinc dX6_sail_111 rfl (am_ix _) ?_
          change am_At _ _ _ 114 [_, _, _, _, _, _] [] _ _
          refine am_goto (-91) 23 dX6_sail_114 rfl ?_
          cases hyp
          refine am_At.drop 5 ?_
          exact hx
theorem ef_X6_sail_25 {d : Nat} {h : am_H} (g : lay h) (hW : h.2.2 23 0 = some 25 ∧ h.2.2 23 2 = some 24) {x1 x2 : Int32} {M : Mem} {M' : Mem} (hyp : f_X6_sail 25 24 x1 x2 M = some M') : am_Ev (d + 5) mX6_sail [.inr (38, 0), am_I x1, am_I x2] (am_hM h M) (.inl (none, am_hM h M')) := by
  unfold f_X6_sail at hyp
  refine am_Ev.mk (by decide +kernel) rfl rfl (Nat.le_refl _) (Nat.le_refl _) ?_
  change am_At _ _ _ 0 [_, _, _, _, _, _] [] _ _
  refine am_aload_n dX6_sail_0 rfl ?_
  refine am_iconst (-1) (v := (-1)) dX6_sail_1 (by decide) ?_
  refine am_putI 6 7 dX6_sail_2 (Or.inl fp_X6_57) (sh_38 g) (by decide) rfl rfl rfl ?_
  refine am_aload_n dX6_sail_5 rfl ?_
  refine am_iconst 0 (v := 0) dX6_sail_6 (by decide) ?_
  refine am_putI 6 8 dX6_sail_7 (Or.inl fp_X6_60) (sh_38 g) (by decide) rfl rfl rfl ?_
  refine am_aload_n dX6_sail_10 rfl ?_
  refine am_getR 6 6 42 dX6_sail_11 fg_X6_22 (sh_38 g) (by decide) rfl (rf_38_6 g) ?_
  refine am_iconst 0 (v := 0) dX6_sail_14 (by decide) ?_
  refine am_callS (c := 0) (k := 0) (n := 0) (w := 0) [_, _] dX6_sail_15 ml_X6_63 sm_J7_fill_53178 rfl (fun _ => Nat.le_of_ble_eq_true rfl) (by omega) rfl (ev_fill (d := d + 4) (h := am_hM h (am_u3 (am_u3 M 38 0 7 (-1 : Int32)) 38 0 8 (0 : Int32))) (v := (0 : Int32)) (sh_42 g) (by decide)) rfl ?_
  change am_At _ _ _ 18 [_, _, _, _, _, _] [] _ _
  refine am_iconst 0 (v := 0) dX6_sail_18 (by decide) ?_
  refine am_istore_n dX6_sail_19 (am_lb rfl) ?_
  change am_At _ _ _ 20 [_, _, _, _, _, _] [] _ _
  refine am_iload_n dX6_sail_20 rfl ?_
  refine am_istore dX6_sail_21 (am_lb rfl) ?_
  change am_At _ _ _ 23 [_, _, _, _, _, _] [] _ _
  obtain ⟨M9, hw9, hyp⟩ := bd_some hyp
  refine am_At.drop 2 ?_
  try dsimp only at hyp
  refine eL_X6_sail_23_25 (d := d) (h := h) g hW  FU ((0 : Int32), x2, (fillM (am_u3 (am_u3 M 38 0 7 (-1 : Int32)) 38 0 8 (0 : Int32)) 42 16 (0 : Int32))) M9 hw9 ?_
  change am_At _ _ _ 117 [_, _, _, _, _, _] [] _ _
  cases hyp
  exact am_vret dX6_sail_117 rfl
