theorem ef_X4_isDue_24 {d : Nat} {h : am_H} (g : lay h) (hW : h.2.2 23 0 = some 24 ∧ h.2.2 23 2 = some 25) {x1 x2 x3 : Int32} {M : Mem} {v : Int32} {M' : Mem} (hyp : f_X4_isDue 24 25 x1 x2 x3 M = some (v, M')) : am_Ev (d + 2) mX4_isDue [.inr (28, 0), am_I x1, am_I x2, am_I x3] (am_hM h M) (.inl (some (am_I v), am_hM h M')) := by
  unfold f_X4_isDue at hyp
  refine am_Ev.mk (by decide +kernel) rfl rfl (Nat.le_refl _) (Nat.le_refl _) ?_
  change am_At _ _ _ 0 [_, _, _, _] [] _ _
  refine am_aload_n dX4_isDue_0 rfl ?_
  refine am_getR 4 1 23 dX4_isDue_1 fg_X4_15 (sh_28 g) (by decide) rfl (rf_28_1 g) ?_
  refine am_aload_n dX4_isDue_4 rfl ?_
  refine am_getR 4 0 3 dX4_isDue_5 fg_X4_9 (sh_28 g) (by decide) rfl (rf_28_0 g) ?_
  refine am_iload_n dX4_isDue_8 rfl ?_
  refine am_iload_n dX4_isDue_9 rfl ?_
  refine am_iload_n dX4_isDue_10 rfl ?_
  obtain ⟨⟨v1, M1⟩, hk1, hyp⟩ := bd_some hyp
  try dsimp only at hyp
  refine am_callV [_, _, _, _] dX4_isDue_11 ml_X4_19 vm_X3_value (sh_23 g) rfl (fun _ => Nat.le_of_ble_eq_true rfl) (by omega) rfl (ef_X3_value_24 (d := d + 0) (h := h) g hW hk1) rfl ?_
  change am_At _ _ _ 14 [_, _, _, _] [_] _ _
  refine am_if_le (7) 21 dX4_isDue_14 rfl ?_ ?_
  · intro hc2
    have hc2 : v1 ≤ 0 := hc2
    replace hyp := it_pos hc2 hyp
    refine am_iconst 0 (v := 0) dX4_isDue_21 (by decide) ?_
    cases hyp
    exact am_zret dX4_isDue_22 rfl rfl
  · intro hc2n
    have hc2n : ¬ (v1 ≤ 0) := hc2n
    replace hyp := it_neg hc2n hyp
    refine am_iconst 1 (v := 1) dX4_isDue_17 (by decide) ?_
    refine am_goto (4) 22 dX4_isDue_18 rfl ?_
    cases hyp
    exact am_zret dX4_isDue_22 rfl rfl
theorem ef_X4_isDue_25 {d : Nat} {h : am_H} (g : lay h) (hW : h.2.2 23 0 = some 25 ∧ h.2.2 23 2 = some 24) {x1 x2 x3 : Int32} {M : Mem} {v : Int32} {M' : Mem} (hyp : f_X4_isDue 25 24 x1 x2 x3 M = some (v, M')) : am_Ev (d + 2) mX4_isDue [.inr (28, 0), am_I x1, am_I x2, am_I x3] (am_hM h M) (.inl (some (am_I v), am_hM h M')) := by
  unfold f_X4_isDue at hyp
  refine am_Ev.mk (by decide +kernel) rfl rfl (Nat.le_refl _) (Nat.le_refl _) ?_
  change am_At _ _ _ 0 [_, _, _, _] [] _ _
  refine am_aload_n dX4_isDue_0 rfl ?_
  refine am_getR 4 1 23 dX4_isDue_1 fg_X4_15 (sh_28 g) (by decide) rfl (rf_28_1 g) ?_
  refine am_aload_n dX4_isDue_4 rfl ?_
  refine am_getR 4 0 3 dX4_isDue_5 fg_X4_9 (sh_28 g) (by decide) rfl (rf_28_0 g) ?_
  refine am_iload_n dX4_isDue_8 rfl ?_
  refine am_iload_n dX4_isDue_9 rfl ?_
  refine am_iload_n dX4_isDue_10 rfl ?_
  obtain ⟨⟨v1, M1⟩, hk1, hyp⟩ := bd_some hyp
  try dsimp only at hyp
  refine am_callV [_, _, _, _] dX4_isDue_11 ml_X4_19 vm_X3_value (sh_23 g) rfl (fun _ => Nat.le_of_ble_eq_true rfl) (by omega) rfl (ef_X3_value_25 (d := d + 0) (h := h) g hW hk1) rfl ?_
  change am_At _ _ _ 14 [_, _, _, _] [_] _ _
  refine am_if_le (7) 21 dX4_isDue_14 rfl ?_ ?_
  · intro hc2
    have hc2 : v1 ≤ 0 := hc2
    replace hyp := it_pos hc2 hyp
    refine am_iconst 0 (v := 0) dX4_isDue_21 (by decide) ?_
    cases hyp
    exact am_zret dX4_isDue_22 rfl rfl
  · intro hc2n
    have hc2n : ¬ (v1 ≤ 0) := hc2n
    replace hyp := it_neg hc2n hyp
    refine am_iconst 1 (v := 1) dX4_isDue_17 (by decide) ?_
    refine am_goto (4) 22 dX4_isDue_18 rfl ?_
    cases hyp
    exact am_zret dX4_isDue_22 rfl rfl
theorem ef_X4_lets {d : Nat} {h : am_H} (g : lay h) {x1 x2 x3 : Int32} {M : Mem} {v : Int32} (hyp : f_X4_lets x1 x2 x3 M = some v) : am_Ev (d + 1) mX4_lets [.inr (28, 0), am_I x1, am_I x2, am_I x3] (am_hM h M) (.inl (some (am_I v), am_hM h M)) := by
  unfold f_X4_lets at hyp
  refine am_Ev.mk (by decide +kernel) rfl rfl (Nat.le_refl _) (Nat.le_refl _) ?_
  change am_At _ _ _ 0 [_, _, _, _] [] _ _
  refine am_iload_n dX4_lets_0 rfl ?_
  refine am_aload_n dX4_lets_1 rfl ?_
  refine am_getR 4 0 3 dX4_lets_2 fg_X4_9 (sh_28 g) (by decide) rfl (rf_28_0 g) ?_
  refine am_getR 1 1 4 dX4_lets_5 fg_X4_44 (sh_3 g) (by decide) rfl (rf_3_1 g) ?_
  refine am_iload_n dX4_lets_8 rfl ?_
  obtain ⟨hg1, hyp⟩ := gd_some hyp
  refine am_iald dX4_lets_9 (am_ia.one (sh_4 g)) (am_lit hg1) ?_
  refine am_icmp_le (11) 21 dX4_lets_10 rfl ?_ ?_
  · intro hc2
    have hc2 : x1 ≤ (M 4 0 x2.toNatClampNeg) := hc2
    replace hyp := it_pos hc2 hyp
    refine am_iconst 1 (v := 1) dX4_lets_21 (by decide) ?_
    refine am_goto (4) 26 dX4_lets_22 rfl ?_
    cases hyp
    exact am_zret dX4_lets_26 rfl rfl
  · intro hc2n
    have hc2n : ¬ (x1 ≤ (M 4 0 x2.toNatClampNeg)) := hc2n
    replace hyp := it_neg hc2n hyp
    refine am_iload_n dX4_lets_13 rfl ?_
    refine am_iload_n dX4_lets_14 rfl ?_
    refine am_callSN (c := 0) (k := 0) (n := 0) (w := 0) [_, _] dX4_lets_15 ml_X4_48 sm_X11_isBitOf rfl (fun _ => Nat.le_of_ble_eq_true rfl) (by omega) rfl (ef_X11_isBitOf (d := d + 0) (h := am_hM h M) (x0 := x3) (x1 := x2)  rfl) rfl ?_
    change am_At _ _ _ 18 [_, _, _, _] [_] _ _
    refine am_if_eq (7) 25 dX4_lets_18 rfl ?_ ?_
    · intro hc3
      have hc3 : (f_X11_isBitOf x3 x2) = 0 := hc3
      replace hyp := it_pos hc3 hyp
      refine am_iconst 0 (v := 0) dX4_lets_25 (by decide) ?_
      cases hyp
      exact am_zret dX4_lets_26 rfl rfl
    · intro hc3n
      have hc3n : ¬ ((f_X11_isBitOf x3 x2) = 0) := hc3n
      replace hyp := it_neg hc3n hyp
      refine am_iconst 1 (v := 1) dX4_lets_21 (by decide) ?_
      refine am_goto (4) 26 dX4_lets_22 rfl ?_
      cases hyp
      exact am_zret dX4_lets_26 rfl rfl
theorem eL_X4_passedOn_24 {d : Nat} {h : am_H} (g : lay h) {x1 x3 x5 : Int32} {M : Mem} {r : am_R} (n : Nat) : ∀ (s : Int32) (e : Int32), wh (L_X4_passedOn_24 x1 x3 x5 M) n s = some e → ((fun (x4 : Int32) => am_At am_X0 (d + 2) mX4_passedOn 48 [some (.inr (28, 0)), some (am_I (x1)), none, some (am_I (x3)), some (am_I (x4)), some (am_I (x5))] [] (am_hM h M) r) e) → ((fun (x4 : Int32) => am_At am_X0 (d + 2) mX4_passedOn 24 [some (.inr (28, 0)), some (am_I (x1)), none, some (am_I (x3)), some (am_I (x4)), some (am_I (x5))] [] (am_hM h M) r) s) := by
  refine am_wh (At := fun (s : Int32) => (fun (x4 : Int32) => am_At am_X0 (d + 2) mX4_passedOn 24 [some (.inr (28, 0)), some (am_I (x1)), none, some (am_I (x3)), some (am_I (x4)), some (am_I (x5))] [] (am_hM h M) r) s) (Ex := fun (e : Int32) => (fun (x4 : Int32) => am_At am_X0 (d + 2) mX4_passedOn 48 [some (.inr (28, 0)), some (am_I (x1)), none, some (am_I (x3)), some (am_I (x4)), some (am_I (x5))] [] (am_hM h M) r) e) ?_ n
  rintro x4 y hyp hx
  unfold L_X4_passedOn_24 at hyp
  try dsimp only at hyp
  change am_At _ _ _ 24 [_, _, _, _, _, _] [] _ _
  refine am_iload dX4_passedOn_24 rfl ?_
  refine am_iload dX4_passedOn_26 rfl ?_
  refine am_icmp_ge (20) 48 dX4_passedOn_28 rfl ?_ ?_
  · intro hc1
    have hc1 : x5 ≤ x4 := hc1
    replace hyp := it_pos hc1 hyp
    cases hyp
    exact hx
  · intro hc1n
    have hc1n : ¬ (x5 ≤ x4) := hc1n
    replace hyp := it_neg hc1n hyp
    refine am_aload_n dX4_passedOn_31 rfl ?_
    refine am_iload_n dX4_passedOn_32 rfl ?_
    refine am_iload dX4_passedOn_33 rfl ?_
    refine am_iload_n dX4_passedOn_35 rfl ?_
    obtain ⟨v2, hk2, hyp⟩ := bd_some hyp
    try dsimp only at hyp
    refine am_callV [_, _, _] dX4_passedOn_36 ml_X4_61 vm_X4_lets (sh_28 g) rfl (fun _ => Nat.le_of_ble_eq_true rfl) (by omega) rfl (ef_X4_lets (d := d + 0) (h := h) g hk2) rfl ?_
    change am_At _ _ _ 39 [_, _, _, _, _, _] [_] _ _
    refine am_if_eq (9) 48 dX4_passedOn_39 rfl ?_ ?_
    · intro hc3
      have hc3 : v2 = 0 := hc3
      replace hyp := it_pos hc3 hyp
      cases hyp
      exact hx
    · intro hc3n
      have hc3n : ¬ (v2 = 0) := hc3n
      replace hyp := it_neg hc3n hyp
      refine am_iinc dX4_passedOn_42 rfl (am_ix _) ?_
      change am_At _ _ _ 45 [_, _, _, _, _, _] [] _ _
      refine am_goto (-21) 24 dX4_passedOn_45 rfl ?_
      cases hyp
      exact hx
theorem ef_X4_passedOn {d : Nat} {h : am_H} (g : lay h) {x1 x2 x3 : Int32} {M : Mem} {v : Int32} (hyp : f_X4_passedOn x1 x2 x3 M = some v) : am_Ev (d + 2) mX4_passedOn [.inr (28, 0), am_I x1, am_I x2, am_I x3] (am_hM h M) (.inl (some (am_I v), am_hM h M)) := by
  unfold f_X4_passedOn at hyp
  refine am_Ev.mk (by decide +kernel) rfl rfl (Nat.le_refl _) (Nat.le_refl _) ?_
  change am_At _ _ _ 0 [_, _, _, _, _, _] [] _ _
  refine am_iload_n dX4_passedOn_0 rfl ?_
  refine am_istore dX4_passedOn_1 (am_lb rfl) ?_
  change am_At _ _ _ 3 [_, _, _, _, _, _] [] _ _
  refine am_iload_n dX4_passedOn_3 rfl ?_
  refine am_aload_n dX4_passedOn_4 rfl ?_
  refine am_getR 4 0 3 dX4_passedOn_5 fg_X4_9 (sh_28 g) (by decide) rfl (rf_28_0 g) ?_
  refine am_getI 1 12 dX4_passedOn_8 fg_X4_52 (sh_3 g) (by decide) rfl ?_
  refine am_iadd dX4_passedOn_11 ?_
  refine am_aload_n dX4_passedOn_12 rfl ?_
  refine am_getR 4 0 3 dX4_passedOn_13 fg_X4_9 (sh_28 g) (by decide) rfl (rf_28_0 g) ?_
  refine am_getI 1 0 dX4_passedOn_16 fg_X4_25 (sh_3 g) (by decide) rfl ?_
  refine am_min dX4_passedOn_19 ml_X4_55 (fun _ => Nat.le_of_ble_eq_true rfl) ?_
  refine am_istore dX4_passedOn_22 (am_lb rfl) ?_
  change am_At _ _ _ 24 [_, _, _, _, _, _] [] _ _
  obtain ⟨x4_4, hw4, hyp⟩ := bd_some hyp
  refine am_At.drop 2 ?_
  try dsimp only at hyp
  refine eL_X4_passedOn_24 (d := d) (h := h) g (M := M) FU x2 x4_4 hw4 ?_
  change am_At _ _ _ 48 [_, _, _, _, _, _] [] _ _
  refine am_iload dX4_passedOn_48 rfl ?_
  cases hyp
  exact am_iret dX4_passedOn_50 rfl
theorem ef_X5_clearBook_46 {d : Nat} {h : am_H} (g : lay h) (hN : h.2.2 45 1 = some 46 ∧ h.2.2 45 2 = some 47) {M : Mem} {M' : Mem} (hyp : f_X5_clearBook 46 47 M = M') : am_Ev (d + 1) mX5_clearBook [.inr (45, 0)] (am_hM h M) (.inl (none, am_hM h M')) := by
  unfold f_X5_clearBook at hyp
  refine am_Ev.mk (by decide +kernel) rfl rfl (Nat.le_refl _) (Nat.le_refl _) ?_
  change am_At _ _ _ 0 [_] [] _ _
  refine am_aload_n dX5_clearBook_0 rfl ?_
  refine am_getR 5 1 46 dX5_clearBook_1 fg_X5_9 (sh_45 g) (by decide) rfl hN.1 ?_
  refine am_iconst (-1) (v := (-1)) dX5_clearBook_4 (by decide) ?_
  refine am_callS (c := 0) (k := 0) (n := 0) (w := 0) [_, _] dX5_clearBook_5 ml_X5_34 sm_J7_fill_53178 rfl (fun _ => Nat.le_of_ble_eq_true rfl) (by omega) rfl (ev_fill (d := d + 0) (h := am_hM h M) (v := (-1 : Int32)) (sh_46 g) (by decide)) rfl ?_
  change am_At _ _ _ 8 [_] [] _ _
  refine am_aload_n dX5_clearBook_8 rfl ?_
  refine am_iconst 0 (v := 0) dX5_clearBook_9 (by decide) ?_
  refine am_putI 5 3 dX5_clearBook_10 (Or.inl fp_X5_40) (sh_45 g) (by decide) rfl rfl rfl ?_
  cases hyp
  exact am_vret dX5_clearBook_13 rfl
theorem ef_X5_clearBook_47 {d : Nat} {h : am_H} (g : lay h) (hN : h.2.2 45 1 = some 47 ∧ h.2.2 45 2 = some 46) {M : Mem} {M' : Mem} (hyp : f_X5_clearBook 47 46 M = M') : am_Ev (d + 1) mX5_clearBook [.inr (45, 0)] (am_hM h M) (.inl (none, am_hM h M')) := by
  unfold f_X5_clearBook at hyp
  refine am_Ev.mk (by decide +kernel) rfl rfl (Nat.le_refl _) (Nat.le_refl _) ?_
  change am_At _ _ _ 0 [_] [] _ _
  refine am_aload_n dX5_clearBook_0 rfl ?_
  refine am_getR 5 1 47 dX5_clearBook_1 fg_X5_9 (sh_45 g) (by decide) rfl hN.1 ?_
  refine am_iconst (-1) (v := (-1)) dX5_clearBook_4 (by decide) ?_
  refine am_callS (c := 0) (k := 0) (n := 0) (w := 0) [_, _] dX5_clearBook_5 ml_X5_34 sm_J7_fill_53178 rfl (fun _ => Nat.le_of_ble_eq_true rfl) (by omega) rfl (ev_fill (d := d + 0) (h := am_hM h M) (v := (-1 : Int32)) (sh_47 g) (by decide)) rfl ?_
  change am_At _ _ _ 8 [_] [] _ _
  refine am_aload_n dX5_clearBook_8 rfl ?_
  refine am_iconst 0 (v := 0) dX5_clearBook_9 (by decide) ?_
  refine am_putI 5 3 dX5_clearBook_10 (Or.inl fp_X5_40) (sh_45 g) (by decide) rfl rfl rfl ?_
  cases hyp
  exact am_vret dX5_clearBook_13 rfl
theorem ef_X5_isInBook_46 {d : Nat} {h : am_H} (g : lay h) (hN : h.2.2 45 1 = some 46 ∧ h.2.2 45 2 = some 47) {x1 : Int32} {M : Mem} {v : Int32} (hyp : f_X5_isInBook 46 47 x1 M = some v) : am_Ev (d + 0) mX5_isInBook [.inr (45, 0), am_I x1] (am_hM h M) (.inl (some (am_I v), am_hM h M)) := by
  unfold f_X5_isInBook at hyp
  refine am_Ev.mk (by decide +kernel) rfl rfl (Nat.le_refl _) (Nat.le_refl _) ?_
  change am_At _ _ _ 0 [_, _] [] _ _
  refine am_aload_n dX5_isInBook_0 rfl ?_
  refine am_getR 5 1 46 dX5_isInBook_1 fg_X5_9 (sh_45 g) (by decide) rfl hN.1 ?_
  refine am_iload_n dX5_isInBook_4 rfl ?_
  obtain ⟨hg1, hyp⟩ := gd_some hyp
  refine am_iald dX5_isInBook_5 (am_ia.one (sh_46 g)) (am_lit hg1) ?_
  refine am_iconst (-1) (v := (-1)) dX5_isInBook_6 (by decide) ?_
  refine am_icmp_eq (7) 14 dX5_isInBook_7 rfl ?_ ?_
  · intro hc2
    have hc2 : (M 46 0 x1.toNatClampNeg) = (-1 : Int32) := hc2
    replace hyp := it_pos hc2 hyp
    refine am_iconst 0 (v := 0) dX5_isInBook_14 (by decide) ?_
    cases hyp
    exact am_zret dX5_isInBook_15 rfl rfl
  · intro hc2n
    have hc2n : ¬ ((M 46 0 x1.toNatClampNeg) = (-1 : Int32)) := hc2n
    replace hyp := it_neg hc2n hyp
    refine am_iconst 1 (v := 1) dX5_isInBook_10 (by decide) ?_
    refine am_goto (4) 15 dX5_isInBook_11 rfl ?_
    cases hyp
    exact am_zret dX5_isInBook_15 rfl rfl
theorem ef_X5_isInBook_47 {d : Nat} {h : am_H} (g : lay h) (hN : h.2.2 45 1 = some 47 ∧ h.2.2 45 2 = some 46) {x1 : Int32} {M : Mem} {v : Int32} (hyp : f_X5_isInBook 47 46 x1 M = some v) : am_Ev (d + 0) mX5_isInBook [.inr (45, 0), am_I x1] (am_hM h M) (.inl (some (am_I v), am_hM h M)) := by
  unfold f_X5_isInBook at hyp
  refine am_Ev.mk (by decide +kernel) rfl rfl (Nat.le_refl _) (Nat.le_refl _) ?_
  change am_At _ _ _ 0 [_, _] [] _ _
  refine am_aload_n dX5_isInBook_0 rfl ?_
  refine am_getR 5 1 47 dX5_isInBook_1 fg_X5_9 (sh_45 g) (by decide) rfl hN.1 ?_
  refine am_iload_n dX5_isInBook_4 rfl ?_
  obtain ⟨hg1, hyp⟩ := gd_some hyp
  refine am_iald dX5_isInBook_5 (am_ia.one (sh_47 g)) (am_lit hg1) ?_
  refine am_iconst (-1) (v := (-1)) dX5_isInBook_6 (by decide) ?_
  refine am_icmp_eq (7) 14 dX5_isInBook_7 rfl ?_ ?_
  · intro hc2
    have hc2 : (M 47 0 x1.toNatClampNeg) = (-1 : Int32) := hc2
    replace hyp := it_pos hc2 hyp
    refine am_iconst 0 (v := 0) dX5_isInBook_14 (by decide) ?_
    cases hyp
    exact am_zret dX5_isInBook_15 rfl rfl
  · intro hc2n
    have hc2n : ¬ ((M 47 0 x1.toNatClampNeg) = (-1 : Int32)) := hc2n
    replace hyp := it_neg hc2n hyp
    refine am_iconst 1 (v := 1) dX5_isInBook_10 (by decide) ?_
    refine am_goto (4) 15 dX5_isInBook_11 rfl ?_
    cases hyp
    exact am_zret dX5_isInBook_15 rfl rfl
theorem eL_X5_scentOf_4 {d : Nat} {h : am_H} {x0 : Int32} {r : am_R} (n : Nat) : ∀ (s : Int32 × Int32) (e : Int32), wh (L_X5_scentOf_4 x0) n s = some e → ((fun (x1 : Int32) => am_At am_X0 (d + 1) mX5_scentOf 33 [some (am_I (x0)), some (am_I (x1)), none] [] h r) e) → (match s with | (x1, x2) => am_At am_X0 (d + 1) mX5_scentOf 4 [some (am_I (x0)), some (am_I (x1)), some (am_I (x2))] [] h r) := by
  refine am_wh (At := fun (s : Int32 × Int32) => match s with | (x1, x2) => am_At am_X0 (d + 1) mX5_scentOf 4 [some (am_I (x0)), some (am_I (x1)), some (am_I (x2))] [] h r) (Ex := fun (e : Int32) => (fun (x1 : Int32) => am_At am_X0 (d + 1) mX5_scentOf 33 [some (am_I (x0)), some (am_I (x1)), none] [] h r) e) ?_ n
  rintro ⟨x1, x2⟩ y hyp hx
  unfold L_X5_scentOf_4 at hyp
  try dsimp only at hyp
  change am_At _ _ _ 4 [_, _, _] [] _ _
  refine am_iload_n dX5_scentOf_4 rfl ?_
  refine am_iconst 4 (v := 4) dX5_scentOf_5 (by decide) ?_
  refine am_icmp_gt (27) 33 dX5_scentOf_6 rfl ?_ ?_
  · intro hc1
    have hc1 : (4 : Int32) < x2 := hc1
    replace hyp := it_pos hc1 hyp
    cases hyp
    refine am_At.drop 2 ?_
    exact hx
  · intro hc1n
    have hc1n : ¬ ((4 : Int32) < x2) := hc1n
    replace hyp := it_neg hc1n hyp
    refine am_iload_n dX5_scentOf_9 rfl ?_
    refine am_iload_n dX5_scentOf_10 rfl ?_
    refine am_iload_n dX5_scentOf_11 rfl ?_
    refine am_callSN (c := 0) (k := 0) (n := 0) (w := 0) [_, _] dX5_scentOf_12 ml_X5_85 sm_X11_isBitOf rfl (fun _ => Nat.le_of_ble_eq_true rfl) (by omega) rfl (ef_X11_isBitOf (d := d + 0) (h := h) (x0 := x0) (x1 := x2)  rfl) rfl ?_
    change am_At _ _ _ 15 [_, _, _] [_, _] _ _
    refine am_if_eq (9) 24 dX5_scentOf_15 rfl ?_ ?_
    · intro hc2
      have hc2 : (f_X11_isBitOf x0 x2) = 0 := hc2
      replace hyp := it_pos hc2 hyp
      refine am_iconst 0 (v := 0) dX5_scentOf_24 (by decide) ?_
      refine am_iadd dX5_scentOf_25 ?_
      refine am_istore_n dX5_scentOf_26 (am_lb rfl) ?_
      change am_At _ _ _ 27 [_, _, _] [] _ _
      refine am_iinc dX5_scentOf_27 rfl (am_ix _) ?_
      change am_At _ _ _ 30 [_, _, _] [] _ _
      refine am_goto (-26) 4 dX5_scentOf_30 rfl ?_
      cases hyp
      exact hx
    · intro hc2n
      have hc2n : ¬ ((f_X11_isBitOf x0 x2) = 0) := hc2n
      replace hyp := it_neg hc2n hyp
      refine am_iload_n dX5_scentOf_18 rfl ?_
      refine am_iconst 1 (v := 1) dX5_scentOf_19 (by decide) ?_
      refine am_iadd dX5_scentOf_20 ?_
      refine am_goto (4) 25 dX5_scentOf_21 rfl ?_
      refine am_iadd dX5_scentOf_25 ?_
      refine am_istore_n dX5_scentOf_26 (am_lb rfl) ?_
      change am_At _ _ _ 27 [_, _, _] [] _ _
      refine am_iinc dX5_scentOf_27 rfl (am_ix _) ?_
      change am_At _ _ _ 30 [_, _, _] [] _ _
      refine am_goto (-26) 4 dX5_scentOf_30 rfl ?_
      cases hyp
      exact hx
theorem ef_X5_scentOf {d : Nat} {h : am_H} {x0 : Int32} {v : Int32} (hyp : f_X5_scentOf x0 = some v) : am_Ev (d + 1) mX5_scentOf [am_I x0] h (.inl (some (am_I v), h)) := by
  unfold f_X5_scentOf at hyp
  refine am_Ev.mk (by decide +kernel) rfl rfl (Nat.le_refl _) (Nat.le_refl _) ?_
  change am_At _ _ _ 0 [_, _, _] [] _ _
  refine am_iconst 0 (v := 0) dX5_scentOf_0 (by decide) ?_
  refine am_istore_n dX5_scentOf_1 (am_lb rfl) ?_
  change am_At _ _ _ 2 [_, _, _] [] _ _
  refine am_iconst 0 (v := 0) dX5_scentOf_2 (by decide) ?_
  refine am_istore_n dX5_scentOf_3 (am_lb rfl) ?_
  change am_At _ _ _ 4 [_, _, _] [] _ _
  obtain ⟨x1_3, hw3, hyp⟩ := bd_some hyp
  try dsimp only at hyp
  refine eL_X5_scentOf_4 (d := d) (h := h)  FU ((0 : Int32), (0 : Int32)) x1_3 hw3 ?_
  change am_At _ _ _ 33 [_, _, _] [] _ _
  refine am_iload_n dX5_scentOf_33 rfl ?_
  cases hyp
  exact am_iret dX5_scentOf_34 rfl
theorem ef_X5_waysBy {d : Nat} {h : am_H} (g : lay h) {x1 x2 : Int32} {M : Mem} {v : Int32} (hyp : f_X5_waysBy x1 x2 M = some v) : am_Ev (d + 0) mX5_waysBy [.inr (45, 0), am_I x1, am_I x2] (am_hM h M) (.inl (some (am_I v), am_hM h M)) := by
  unfold f_X5_waysBy at hyp
  refine am_Ev.mk (by decide +kernel) rfl rfl (Nat.le_refl _) (Nat.le_refl _) ?_
  change am_At _ _ _ 0 [_, _, _] [] _ _
  refine am_aload_n dX5_waysBy_0 rfl ?_
  refine am_getR 5 4 48 dX5_waysBy_1 fg_X5_18 (sh_45 g) (by decide) rfl (rf_45_4 g) ?_
  refine am_iload_n dX5_waysBy_4 rfl ?_
  refine am_bipush 32 (v := 32) dX5_waysBy_5 (by decide) ?_
  refine am_imul dX5_waysBy_7 ?_
  refine am_iload_n dX5_waysBy_8 rfl ?_
  refine am_iadd dX5_waysBy_9 ?_
  obtain ⟨hg1, hyp⟩ := gd_some hyp
  refine am_iald dX5_waysBy_10 (am_ia.one (sh_48 g)) (am_lit hg1) ?_
  refine am_aload_n dX5_waysBy_11 rfl ?_
  refine am_getR 5 5 49 dX5_waysBy_12 fg_X5_21 (sh_45 g) (by decide) rfl (rf_45_5 g) ?_
  refine am_iload_n dX5_waysBy_15 rfl ?_
  refine am_bipush 32 (v := 32) dX5_waysBy_16 (by decide) ?_
  refine am_imul dX5_waysBy_18 ?_
  refine am_iload_n dX5_waysBy_19 rfl ?_
  refine am_iadd dX5_waysBy_20 ?_
  refine am_iald dX5_waysBy_21 (am_ia.one (sh_49 g)) (am_lit hg1) ?_
  refine am_imul dX5_waysBy_22 ?_
  cases hyp
  exact am_iret dX5_waysBy_23 rfl
theorem ef_X5_windowBehind {d : Nat} {h : am_H} (g : lay h) {x1 x2 : Int32} {M : Mem} {v : Int32} (hyp : f_X5_windowBehind x1 x2 M = v) : am_Ev (d + 0) mX5_windowBehind [.inr (45, 0), am_I x1, am_I x2] (am_hM h M) (.inl (some (am_I v), am_hM h M)) := by
  unfold f_X5_windowBehind at hyp
  refine am_Ev.mk (by decide +kernel) rfl rfl (Nat.le_refl _) (Nat.le_refl _) ?_
  change am_At _ _ _ 0 [_, _, _] [] _ _
  refine am_iload_n dX5_windowBehind_0 rfl ?_
  refine am_iconst 1 (v := 1) dX5_windowBehind_1 (by decide) ?_
  refine am_ishr dX5_windowBehind_2 ?_
  refine am_iload_n dX5_windowBehind_3 rfl ?_
  refine am_aload_n dX5_windowBehind_4 rfl ?_
  refine am_getR 5 0 3 dX5_windowBehind_5 fg_X5_27 (sh_45 g) (by decide) rfl (rf_45_0 g) ?_
  refine am_getI 1 13 dX5_windowBehind_8 fg_X5_74 (sh_3 g) (by decide) rfl ?_
  refine am_ishl dX5_windowBehind_11 ?_
  refine am_ior dX5_windowBehind_12 ?_
  cases hyp
  exact am_iret dX5_windowBehind_13 rfl
theorem ef_X5_windows {d : Nat} {h : am_H} (g : lay h) {M : Mem} {v : Int32} (hyp : f_X5_windows M = v) : am_Ev (d + 0) mX5_windows [.inr (45, 0)] (am_hM h M) (.inl (some (am_I v), am_hM h M)) := by
  unfold f_X5_windows at hyp
  refine am_Ev.mk (by decide +kernel) rfl rfl (Nat.le_refl _) (Nat.le_refl _) ?_
  change am_At _ _ _ 0 [_] [] _ _
  refine am_iconst 2 (v := 2) dX5_windows_0 (by decide) ?_
  refine am_aload_n dX5_windows_1 rfl ?_
  refine am_getR 5 0 3 dX5_windows_2 fg_X5_27 (sh_45 g) (by decide) rfl (rf_45_0 g) ?_
  refine am_getI 1 13 dX5_windows_5 fg_X5_74 (sh_3 g) (by decide) rfl ?_
  refine am_ishl dX5_windows_8 ?_
  cases hyp
  exact am_iret dX5_windows_9 rfl
theorem eL_X6_drawFrozen_4 {d : Nat} {h : am_H} (g : lay h) {x1 : Int32} {r : am_R} (n : Nat) : ∀ (s : Int32 × Int32 × Mem) (e : Int32 × Mem), wh (L_X6_drawFrozen_4 x1) n s = some e → (match e with | (x2, M) => am_At am_X0 (d + 0) mX6_drawFrozen 68 [some (.inr (38, 0)), some (am_I (x1)), some (am_I (x2)), none, none] [] (am_hM h M) r) → (match s with | (x2, x3, M) => am_At am_X0 (d + 0) mX6_drawFrozen 4 [some (.inr (38, 0)), some (am_I (x1)), some (am_I (x2)), some (am_I (x3)), none] [] (am_hM h M) r) := by
  refine am_wh (At := fun (s : Int32 × Int32 × Mem) => match s with | (x2, x3, M) => am_At am_X0 (d + 0) mX6_drawFrozen 4 [some (.inr (38, 0)), some (am_I (x1)), some (am_I (x2)), some (am_I (x3)), none] [] (am_hM h M) r) (Ex := fun (e : Int32 × Mem) => match e with | (x2, M) => am_At am_X0 (d + 0) mX6_drawFrozen 68 [some (.inr (38, 0)), some (am_I (x1)), some (am_I (x2)), none, none] [] (am_hM h M) r) ?_ n
  rintro ⟨x2, x3, M⟩ y hyp hx
  unfold L_X6_drawFrozen_4 at hyp
  try dsimp only at hyp
  change am_At _ _ _ 4 [_, _, _, _, _] [] _ _
  refine am_iload_n dX6_drawFrozen_4 rfl ?_
  refine am_aload_n dX6_drawFrozen_5 rfl ?_
  refine am_getR 6 0 3 dX6_drawFrozen_6 fg_X6_25 (sh_38 g) (by decide) rfl (rf_38_0 g) ?_
  refine am_getI 1 0 dX6_drawFrozen_9 fg_X6_80 (sh_3 g) (by decide) rfl ?_
  refine am_icmp_ge (56) 68 dX6_drawFrozen_12 rfl ?_ ?_
  · intro hc1
    have hc1 : (M 3 0 0) ≤ x3 := hc1
    replace hyp := it_pos hc1 hyp
    cases hyp
    refine am_At.drop 3 ?_
    exact hx
  · intro hc1n
    have hc1n : ¬ ((M 3 0 0) ≤ x3) := hc1n
    replace hyp := it_neg hc1n hyp
    refine am_aload_n dX6_drawFrozen_15 rfl ?_
    refine am_aload_n dX6_drawFrozen_16 rfl ?_
    refine am_getI 6 9 dX6_drawFrozen_17 fg_X6_95 (sh_38 g) (by decide) rfl ?_
    refine am_ldcI dX6_drawFrozen_20 kc_X6_116 ?_
    refine am_imul dX6_drawFrozen_22 ?_
    refine am_sipush 12345 (v := 12345) dX6_drawFrozen_23 (by decide) ?_
    refine am_iadd dX6_drawFrozen_26 ?_
    refine am_putI 6 9 dX6_drawFrozen_27 (Or.inl fp_X6_95) (sh_38 g) (by decide) rfl rfl rfl ?_
    refine am_aload_n dX6_drawFrozen_30 rfl ?_
    refine am_getI 6 9 dX6_drawFrozen_31 fg_X6_95 (sh_38 g) (by decide) rfl ?_
    refine am_bipush 16 (v := 16) dX6_drawFrozen_34 (by decide) ?_
    refine am_iushr dX6_drawFrozen_36 ?_
    refine am_sipush 32767 (v := 32767) dX6_drawFrozen_37 (by decide) ?_
    refine am_iand dX6_drawFrozen_40 ?_
    refine am_bipush 16 (v := 16) dX6_drawFrozen_41 (by decide) ?_
    refine am_irem dX6_drawFrozen_43 (by decide) ?_
    refine am_istore dX6_drawFrozen_44 (am_lb rfl) ?_
    change am_At _ _ _ 46 [_, _, _, _, _] [] _ _
    refine am_iload_n dX6_drawFrozen_46 rfl ?_
    refine am_iload dX6_drawFrozen_47 rfl ?_
    refine am_iload_n dX6_drawFrozen_49 rfl ?_
    refine am_icmp_ge (9) 59 dX6_drawFrozen_50 rfl ?_ ?_
    · intro hc2
      have hc2 : x1 ≤ (((((((M 38 0 9) * (1103515245 : Int32)) + (12345 : Int32)).toUInt32 >>> ((16 : Int32).toUInt32 &&& Int32.toUInt32 31)).toInt32) &&& (32767 : Int32)) - ((((((M 38 0 9) * (1103515245 : Int32)) + (12345 : Int32)).toUInt32 >>> ((16 : Int32).toUInt32 &&& Int32.toUInt32 31)).toInt32) &&& (32767 : Int32)) / (16 : Int32) * (16 : Int32)) := hc2
      replace hyp := it_pos hc2 hyp
      refine am_iconst 0 (v := 0) dX6_drawFrozen_59 (by decide) ?_
      refine am_ior dX6_drawFrozen_60 ?_
      refine am_istore_n dX6_drawFrozen_61 (am_lb rfl) ?_
      change am_At _ _ _ 62 [_, _, _, _, _] [] _ _
      refine am_iinc dX6_drawFrozen_62 rfl (am_ix _) ?_
      change am_At _ _ _ 65 [_, _, _, _, _] [] _ _
      refine am_goto (-61) 4 dX6_drawFrozen_65 rfl ?_
      cases hyp
      refine am_At.drop 4 ?_
      exact hx
    · intro hc2n
      have hc2n : ¬ (x1 ≤ (((((((M 38 0 9) * (1103515245 : Int32)) + (12345 : Int32)).toUInt32 >>> ((16 : Int32).toUInt32 &&& Int32.toUInt32 31)).toInt32) &&& (32767 : Int32)) - ((((((M 38 0 9) * (1103515245 : Int32)) + (12345 : Int32)).toUInt32 >>> ((16 : Int32).toUInt32 &&& Int32.toUInt32 31)).toInt32) &&& (32767 : Int32)) / (16 : Int32) * (16 : Int32))) := hc2n
      replace hyp := it_neg hc2n hyp
      refine am_iconst 1 (v := 1) dX6_drawFrozen_53 (by decide) ?_
      refine am_iload_n dX6_drawFrozen_54 rfl ?_
      refine am_ishl dX6_drawFrozen_55 ?_
      refine am_goto (4) 60 dX6_drawFrozen_56 rfl ?_
      refine am_ior dX6_drawFrozen_60 ?_
      refine am_istore_n dX6_drawFrozen_61 (am_lb rfl) ?_
      change am_At _ _ _ 62 [_, _, _, _, _] [] _ _
      refine am_iinc dX6_drawFrozen_62 rfl (am_ix _) ?_
      change am_At _ _ _ 65 [_, _, _, _, _] [] _ _
      refine am_goto (-61) 4 dX6_drawFrozen_65 rfl ?_
      cases hyp
      refine am_At.drop 4 ?_
      exact hx
theorem ef_X6_drawFrozen {d : Nat} {h : am_H} (g : lay h) {x1 : Int32} {M : Mem} {v : Int32} {M' : Mem} (hyp : f_X6_drawFrozen x1 M = some (v, M')) : am_Ev (d + 0) mX6_drawFrozen [.inr (38, 0), am_I x1] (am_hM h M) (.inl (some (am_I v), am_hM h M')) := by
  unfold f_X6_drawFrozen at hyp
  refine am_Ev.mk (by decide +kernel) rfl rfl (Nat.le_refl _) (Nat.le_refl _) ?_
  change am_At _ _ _ 0 [_, _, _, _, _] [] _ _
  refine am_iconst 0 (v := 0) dX6_drawFrozen_0 (by decide) ?_
  refine am_istore_n dX6_drawFrozen_1 (am_lb rfl) ?_
  change am_At _ _ _ 2 [_, _, _, _, _] [] _ _
  refine am_iconst 0 (v := 0) dX6_drawFrozen_2 (by decide) ?_
  refine am_istore_n dX6_drawFrozen_3 (am_lb rfl) ?_
  change am_At _ _ _ 4 [_, _, _, _, _] [] _ _
  obtain ⟨⟨x2_3, M3⟩, hw3, hyp⟩ := bd_some hyp
  try dsimp only at hyp
  refine eL_X6_drawFrozen_4 (d := d) (h := h) g  FU ((0 : Int32), (0 : Int32), M) (x2_3, M3) hw3 ?_
  change am_At _ _ _ 68 [_, _, _, _, _] [] _ _
  refine am_iload_n dX6_drawFrozen_68 rfl ?_
  cases hyp
  exact am_iret dX6_drawFrozen_69 rfl
theorem ef_X6_forget {d : Nat} {h : am_H} (g : lay h) {M : Mem} {M' : Mem} (hyp : f_X6_forget M = M') : am_Ev (d + 0) mX6_forget [.inr (38, 0)] (am_hM h M) (.inl (none, am_hM h M')) := by
  unfold f_X6_forget at hyp
  refine am_Ev.mk (by decide +kernel) rfl rfl (Nat.le_refl _) (Nat.le_refl _) ?_
  change am_At _ _ _ 0 [_] [] _ _
  refine am_aload_n dX6_forget_0 rfl ?_
  refine am_iconst 0 (v := 0) dX6_forget_1 (by decide) ?_
  refine am_putI 6 5 dX6_forget_2 (Or.inl fp_X6_36) (sh_38 g) (by decide) rfl rfl rfl ?_
  cases hyp
  exact am_vret dX6_forget_5 rfl
theorem eL_X6_mostKnockedAt_4 {d : Nat} {h : am_H} (g : lay h) {M : Mem} {r : am_R} (n : Nat) : ∀ (s : Int32 × Int32) (e : Int32), wh (L_X6_mostKnockedAt_4 M) n s = some e → ((fun (x1 : Int32) => am_At am_X0 (d + 0) mX6_mostKnockedAt 47 [some (.inr (38, 0)), some (am_I (x1)), none] [] (am_hM h M) r) e) → (match s with | (x1, x2) => am_At am_X0 (d + 0) mX6_mostKnockedAt 4 [some (.inr (38, 0)), some (am_I (x1)), some (am_I (x2))] [] (am_hM h M) r) := by
  refine am_wh (At := fun (s : Int32 × Int32) => match s with | (x1, x2) => am_At am_X0 (d + 0) mX6_mostKnockedAt 4 [some (.inr (38, 0)), some (am_I (x1)), some (am_I (x2))] [] (am_hM h M) r) (Ex := fun (e : Int32) => (fun (x1 : Int32) => am_At am_X0 (d + 0) mX6_mostKnockedAt 47 [some (.inr (38, 0)), some (am_I (x1)), none] [] (am_hM h M) r) e) ?_ n
  rintro ⟨x1, x2⟩ y hyp hx
  unfold L_X6_mostKnockedAt_4 at hyp
  try dsimp only at hyp
  change am_At _ _ _ 4 [_, _, _] [] _ _
  refine am_iload_n dX6_mostKnockedAt_4 rfl ?_
  refine am_aload_n dX6_mostKnockedAt_5 rfl ?_
  refine am_getR 6 0 3 dX6_mostKnockedAt_6 fg_X6_25 (sh_38 g) (by decide) rfl (rf_38_0 g) ?_
  refine am_getI 1 0 dX6_mostKnockedAt_9 fg_X6_80 (sh_3 g) (by decide) rfl ?_
  refine am_icmp_ge (35) 47 dX6_mostKnockedAt_12 rfl ?_ ?_
  · intro hc1
    have hc1 : (M 3 0 0) ≤ x2 := hc1
    replace hyp := it_pos hc1 hyp
    cases hyp
    refine am_At.drop 2 ?_
    exact hx
  · intro hc1n
    have hc1n : ¬ ((M 3 0 0) ≤ x2) := hc1n
    replace hyp := it_neg hc1n hyp
    refine am_aload_n dX6_mostKnockedAt_15 rfl ?_
    refine am_getR 6 6 42 dX6_mostKnockedAt_16 fg_X6_22 (sh_38 g) (by decide) rfl (rf_38_6 g) ?_
    refine am_iload_n dX6_mostKnockedAt_19 rfl ?_
    obtain ⟨hg2, hyp⟩ := gd_some hyp
    refine am_iald dX6_mostKnockedAt_20 (am_ia.one (sh_42 g)) (am_lit hg2) ?_
    refine am_iload_n dX6_mostKnockedAt_21 rfl ?_
    refine am_iconst (-1) (v := (-1)) dX6_mostKnockedAt_22 (by decide) ?_
    refine am_icmp_ne (7) 30 dX6_mostKnockedAt_23 rfl ?_ ?_
    · intro hc3n
      have hc3n : ¬ (x1 = (-1 : Int32)) := hc3n
      replace hyp := it_neg hc3n hyp
      refine am_aload_n dX6_mostKnockedAt_30 rfl ?_
      refine am_getR 6 6 42 dX6_mostKnockedAt_31 fg_X6_22 (sh_38 g) (by decide) rfl (rf_38_6 g) ?_
      refine am_iload_n dX6_mostKnockedAt_34 rfl ?_
      obtain ⟨hg4, hyp⟩ := gd_some hyp
      refine am_iald dX6_mostKnockedAt_35 (am_ia.one (sh_42 g)) (am_lit hg4) ?_
      refine am_icmp_le (5) 41 dX6_mostKnockedAt_36 rfl ?_ ?_
      · intro hc5
        have hc5 : (M 42 0 x2.toNatClampNeg) ≤ (M 42 0 x1.toNatClampNeg) := hc5
        replace hyp := it_pos hc5 hyp
        refine am_iinc dX6_mostKnockedAt_41 rfl (am_ix _) ?_
        change am_At _ _ _ 44 [_, _, _] [] _ _
        refine am_goto (-40) 4 dX6_mostKnockedAt_44 rfl ?_
        cases hyp
        exact hx
      · intro hc5n
        have hc5n : ¬ ((M 42 0 x2.toNatClampNeg) ≤ (M 42 0 x1.toNatClampNeg)) := hc5n
        replace hyp := it_neg hc5n hyp
        refine am_iload_n dX6_mostKnockedAt_39 rfl ?_
        refine am_istore_n dX6_mostKnockedAt_40 (am_lb rfl) ?_
        change am_At _ _ _ 41 [_, _, _] [] _ _
        refine am_iinc dX6_mostKnockedAt_41 rfl (am_ix _) ?_
        change am_At _ _ _ 44 [_, _, _] [] _ _
        refine am_goto (-40) 4 dX6_mostKnockedAt_44 rfl ?_
        cases hyp
        exact hx
    · intro hc3
      have hc3 : x1 = (-1 : Int32) := hc3
      replace hyp := it_pos hc3 hyp
      refine am_iconst 0 (v := 0) dX6_mostKnockedAt_26 (by decide) ?_
      refine am_goto (9) 36 dX6_mostKnockedAt_27 rfl ?_
      refine am_icmp_le (5) 41 dX6_mostKnockedAt_36 rfl ?_ ?_
      · intro hc6
        have hc6 : (M 42 0 x2.toNatClampNeg) ≤ (0 : Int32) := hc6
        replace hyp := it_pos hc6 hyp
        refine am_iinc dX6_mostKnockedAt_41 rfl (am_ix _) ?_
        change am_At _ _ _ 44 [_, _, _] [] _ _
        refine am_goto (-40) 4 dX6_mostKnockedAt_44 rfl ?_
        cases hyp
        exact hx
      · intro hc6n
        have hc6n : ¬ ((M 42 0 x2.toNatClampNeg) ≤ (0 : Int32)) := hc6n
        replace hyp := it_neg hc6n hyp
        refine am_iload_n dX6_mostKnockedAt_39 rfl ?_
        refine am_istore_n dX6_mostKnockedAt_40 (am_lb rfl) ?_
        change am_At _ _ _ 41 [_, _, _] [] _ _
        refine am_iinc dX6_mostKnockedAt_41 rfl (am_ix _) ?_
        change am_At _ _ _ 44 [_, _, _] [] _ _
        refine am_goto (-40) 4 dX6_mostKnockedAt_44 rfl ?_
        cases hyp
        exact hx
theorem ef_X6_mostKnockedAt {d : Nat} {h : am_H} (g : lay h) {M : Mem} {v : Int32} (hyp : f_X6_mostKnockedAt M = some v) : am_Ev (d + 0) mX6_mostKnockedAt [.inr (38, 0)] (am_hM h M) (.inl (some (am_I v), am_hM h M)) := by
  unfold f_X6_mostKnockedAt at hyp
  refine am_Ev.mk (by decide +kernel) rfl rfl (Nat.le_refl _) (Nat.le_refl _) ?_
  change am_At _ _ _ 0 [_, _, _] [] _ _
  refine am_iconst (-1) (v := (-1)) dX6_mostKnockedAt_0 (by decide) ?_
  refine am_istore_n dX6_mostKnockedAt_1 (am_lb rfl) ?_
  change am_At _ _ _ 2 [_, _, _] [] _ _
  refine am_iconst 0 (v := 0) dX6_mostKnockedAt_2 (by decide) ?_
  refine am_istore_n dX6_mostKnockedAt_3 (am_lb rfl) ?_
  change am_At _ _ _ 4 [_, _, _] [] _ _
  obtain ⟨x1_7, hw7, hyp⟩ := bd_some hyp
  try dsimp only at hyp
  refine eL_X6_mostKnockedAt_4 (d := d) (h := h) g (M := M) FU ((-1 : Int32), (0 : Int32)) x1_7 hw7 ?_
  change am_At _ _ _ 47 [_, _, _] [] _ _
  refine am_iload_n dX6_mostKnockedAt_47 rfl ?_
  cases hyp
  exact am_iret dX6_mostKnockedAt_48 rfl
theorem ef_X7_clear {d : Nat} {h : am_H} (g : lay h) {M : Mem} {M' : Mem} (hyp : f_X7_clear M = M') : am_Ev (d + 0) mX7_clear [.inr (31, 0)] (am_hM h M) (.inl (none, am_hM h M')) := by
  unfold f_X7_clear at hyp
  refine am_Ev.mk (by decide +kernel) rfl rfl (Nat.le_refl _) (Nat.le_refl _) ?_
  change am_At _ _ _ 0 [_] [] _ _
  refine am_aload_n dX7_clear_0 rfl ?_
  refine am_iconst 0 (v := 0) dX7_clear_1 (by decide) ?_
  refine am_putI 7 1 dX7_clear_2 (Or.inl fp_X7_22) (sh_31 g) (by decide) rfl rfl rfl ?_
  refine am_aload_n dX7_clear_5 rfl ?_
  refine am_iconst 0 (v := 0) dX7_clear_6 (by decide) ?_
  refine am_putI 7 3 dX7_clear_7 (Or.inl fp_X7_26) (sh_31 g) (by decide) rfl rfl rfl ?_
  cases hyp
  exact am_vret dX7_clear_10 rfl
theorem isb_X7_isFull (M : Mem) : isb (f_X7_isFull M) = true := by
  unfold f_X7_isFull
  (repeat' split) <;> rfl
theorem ef_X7_isFull {d : Nat} {h : am_H} (g : lay h) {M : Mem} {v : Int32} (hyp : f_X7_isFull M = v) : am_Ev (d + 0) mX7_isFull [.inr (31, 0)] (am_hM h M) (.inl (some (am_I v), am_hM h M)) := by
  unfold f_X7_isFull at hyp
  refine am_Ev.mk (by decide +kernel) rfl rfl (Nat.le_refl _) (Nat.le_refl _) ?_
  change am_At _ _ _ 0 [_] [] _ _
  refine am_aload_n dX7_isFull_0 rfl ?_
  refine am_getI 7 1 dX7_isFull_1 fg_X7_22 (sh_31 g) (by decide) rfl ?_
  refine am_bipush 16 (v := 16) dX7_isFull_4 (by decide) ?_
  refine am_icmp_lt (7) 13 dX7_isFull_6 rfl ?_ ?_
  · intro hc1
    have hc1 : (M 31 0 1) < (16 : Int32) := hc1
    replace hyp := it_pos hc1 hyp
    refine am_iconst 0 (v := 0) dX7_isFull_13 (by decide) ?_
    cases hyp
    exact am_zret dX7_isFull_14 rfl rfl
  · intro hc1n
    have hc1n : ¬ ((M 31 0 1) < (16 : Int32)) := hc1n
    replace hyp := it_neg hc1n hyp
    refine am_iconst 1 (v := 1) dX7_isFull_9 (by decide) ?_
    refine am_goto (4) 14 dX7_isFull_10 rfl ?_
    cases hyp
    exact am_zret dX7_isFull_14 rfl rfl
theorem ef_X8_addHour_30 {d : Nat} {h : am_H} (g : lay h) {M : Mem} {M' : Mem} (hyp : f_X8_addHour 30 M = M') : am_Ev (d + 0) mX8_addHour [.inr (29, 0)] (am_hM h M) (.inl (none, am_hM h M')) := by
  unfold f_X8_addHour at hyp
  refine am_Ev.mk (by decide +kernel) rfl rfl (Nat.le_refl _) (Nat.le_refl _) ?_
  change am_At _ _ _ 0 [_] [] _ _
  refine am_aload_n dX8_addHour_0 rfl ?_
  refine am_getR 8 0 30 dX8_addHour_1 fg_X8_11 (sh_29 g) (by decide) rfl (rf_29_0 g) ?_
  refine am_iconst 0 (v := 0) dX8_addHour_4 (by decide) ?_
  refine am_dup2 dX8_addHour_5 (fun _ => rfl) (fun _ => rfl) ?_
  refine am_iald dX8_addHour_6 (am_ia.one (sh_30 g)) (am_lit rfl) ?_
  refine am_iconst 1 (v := 1) dX8_addHour_7 (by decide) ?_
  refine am_iadd dX8_addHour_8 ?_
  refine am_iast dX8_addHour_9 (am_ia.one (sh_30 g)) (am_lit rfl) ?_
  cases hyp
  exact am_vret dX8_addHour_10 rfl
theorem ef_X8_addHour_40 {d : Nat} {h : am_H} (g : lay h) {M : Mem} {M' : Mem} (hyp : f_X8_addHour 40 M = M') : am_Ev (d + 0) mX8_addHour [.inr (39, 0)] (am_hM h M) (.inl (none, am_hM h M')) := by
  unfold f_X8_addHour at hyp
  refine am_Ev.mk (by decide +kernel) rfl rfl (Nat.le_refl _) (Nat.le_refl _) ?_
  change am_At _ _ _ 0 [_] [] _ _
  refine am_aload_n dX8_addHour_0 rfl ?_
  refine am_getR 8 0 40 dX8_addHour_1 fg_X8_11 (sh_39 g) (by decide) rfl (rf_39_0 g) ?_
  refine am_iconst 0 (v := 0) dX8_addHour_4 (by decide) ?_
  refine am_dup2 dX8_addHour_5 (fun _ => rfl) (fun _ => rfl) ?_
  refine am_iald dX8_addHour_6 (am_ia.one (sh_40 g)) (am_lit rfl) ?_
  refine am_iconst 1 (v := 1) dX8_addHour_7 (by decide) ?_
  refine am_iadd dX8_addHour_8 ?_
  refine am_iast dX8_addHour_9 (am_ia.one (sh_40 g)) (am_lit rfl) ?_
  cases hyp
  exact am_vret dX8_addHour_10 rfl
theorem ef_X8_clear_30 {d : Nat} {h : am_H} (g : lay h) {M : Mem} {M' : Mem} (hyp : f_X8_clear 30 M = M') : am_Ev (d + 1) mX8_clear [.inr (29, 0)] (am_hM h M) (.inl (none, am_hM h M')) := by
  unfold f_X8_clear at hyp
  refine am_Ev.mk (by decide +kernel) rfl rfl (Nat.le_refl _) (Nat.le_refl _) ?_
  change am_At _ _ _ 0 [_] [] _ _
  refine am_aload_n dX8_clear_0 rfl ?_
  refine am_getR 8 0 30 dX8_clear_1 fg_X8_11 (sh_29 g) (by decide) rfl (rf_29_0 g) ?_
  refine am_iconst 0 (v := 0) dX8_clear_4 (by decide) ?_
  refine am_callS (c := 0) (k := 0) (n := 0) (w := 0) [_, _] dX8_clear_5 ml_X8_15 sm_J7_fill_53178 rfl (fun _ => Nat.le_of_ble_eq_true rfl) (by omega) rfl (ev_fill (d := d + 0) (h := am_hM h M) (v := (0 : Int32)) (sh_30 g) (by decide)) rfl ?_
  change am_At _ _ _ 8 [_] [] _ _
  cases hyp
  exact am_vret dX8_clear_8 rfl
theorem ef_X8_clear_40 {d : Nat} {h : am_H} (g : lay h) {M : Mem} {M' : Mem} (hyp : f_X8_clear 40 M = M') : am_Ev (d + 1) mX8_clear [.inr (39, 0)] (am_hM h M) (.inl (none, am_hM h M')) := by
  unfold f_X8_clear at hyp
  refine am_Ev.mk (by decide +kernel) rfl rfl (Nat.le_refl _) (Nat.le_refl _) ?_
  change am_At _ _ _ 0 [_] [] _ _
  refine am_aload_n dX8_clear_0 rfl ?_
  refine am_getR 8 0 40 dX8_clear_1 fg_X8_11 (sh_39 g) (by decide) rfl (rf_39_0 g) ?_
  refine am_iconst 0 (v := 0) dX8_clear_4 (by decide) ?_
  refine am_callS (c := 0) (k := 0) (n := 0) (w := 0) [_, _] dX8_clear_5 ml_X8_15 sm_J7_fill_53178 rfl (fun _ => Nat.le_of_ble_eq_true rfl) (by omega) rfl (ev_fill (d := d + 0) (h := am_hM h M) (v := (0 : Int32)) (sh_40 g) (by decide)) rfl ?_
  change am_At _ _ _ 8 [_] [] _ _
  cases hyp
  exact am_vret dX8_clear_8 rfl
theorem ef_X8_come_30 {d : Nat} {h : am_H} (g : lay h) {x1 : Int32} {M : Mem} {M' : Mem} (hyp : f_X8_come 30 x1 M = some M') : am_Ev (d + 0) mX8_come [.inr (29, 0), am_I x1] (am_hM h M) (.inl (none, am_hM h M')) := by
  unfold f_X8_come at hyp
  refine am_Ev.mk (by decide +kernel) rfl rfl (Nat.le_refl _) (Nat.le_refl _) ?_
  change am_At _ _ _ 0 [_, _] [] _ _
  refine am_aload_n dX8_come_0 rfl ?_
  refine am_getR 8 0 30 dX8_come_1 fg_X8_11 (sh_29 g) (by decide) rfl (rf_29_0 g) ?_
  refine am_bipush 35 (v := 35) dX8_come_4 (by decide) ?_
  refine am_iload_n dX8_come_6 rfl ?_
  refine am_iadd dX8_come_7 ?_
  refine am_iconst 1 (v := 1) dX8_come_8 (by decide) ?_
  obtain ⟨hg1, hyp⟩ := gd_some hyp
  refine am_iast dX8_come_9 (am_ia.one (sh_30 g)) (am_lit hg1) ?_
  cases hyp
  exact am_vret dX8_come_10 rfl
theorem ef_X8_come_40 {d : Nat} {h : am_H} (g : lay h) {x1 : Int32} {M : Mem} {M' : Mem} (hyp : f_X8_come 40 x1 M = some M') : am_Ev (d + 0) mX8_come [.inr (39, 0), am_I x1] (am_hM h M) (.inl (none, am_hM h M')) := by
  unfold f_X8_come at hyp
  refine am_Ev.mk (by decide +kernel) rfl rfl (Nat.le_refl _) (Nat.le_refl _) ?_
  change am_At _ _ _ 0 [_, _] [] _ _
  refine am_aload_n dX8_come_0 rfl ?_
  refine am_getR 8 0 40 dX8_come_1 fg_X8_11 (sh_39 g) (by decide) rfl (rf_39_0 g) ?_
  refine am_bipush 35 (v := 35) dX8_come_4 (by decide) ?_
  refine am_iload_n dX8_come_6 rfl ?_
  refine am_iadd dX8_come_7 ?_
  refine am_iconst 1 (v := 1) dX8_come_8 (by decide) ?_
  obtain ⟨hg1, hyp⟩ := gd_some hyp
  refine am_iast dX8_come_9 (am_ia.one (sh_40 g)) (am_lit hg1) ?_
  cases hyp
  exact am_vret dX8_come_10 rfl
theorem eL_X8_fine_2_30 {d : Nat} {h : am_H} (g : lay h) {x1 : Int32} {r : am_R} (n : Nat) : ∀ (s : Int32 × Mem) (e : Mem), wh (L_X8_fine_2 30 x1) n s = some e → ((fun (M : Mem) => am_At am_X0 (d + 0) mX8_fine 30 [some (.inr (29, 0)), some (am_I (x1)), none] [] (am_hM h M) r) e) → (match s with | (x2, M) => am_At am_X0 (d + 0) mX8_fine 2 [some (.inr (29, 0)), some (am_I (x1)), some (am_I (x2))] [] (am_hM h M) r) := by
  refine am_wh (At := fun (s : Int32 × Mem) => match s with | (x2, M) => am_At am_X0 (d + 0) mX8_fine 2 [some (.inr (29, 0)), some (am_I (x1)), some (am_I (x2))] [] (am_hM h M) r) (Ex := fun (e : Mem) => (fun (M : Mem) => am_At am_X0 (d + 0) mX8_fine 30 [some (.inr (29, 0)), some (am_I (x1)), none] [] (am_hM h M) r) e) ?_ n
  rintro ⟨x2, M⟩ y hyp hx
  unfold L_X8_fine_2 at hyp
  try dsimp only at hyp
  change am_At _ _ _ 2 [_, _, _] [] _ _
  refine am_iload_n dX8_fine_2 rfl ?_
  refine am_bipush 16 (v := 16) dX8_fine_3 (by decide) ?_
  refine am_icmp_ge (25) 30 dX8_fine_5 rfl ?_ ?_
  · intro hc1
    have hc1 : (16 : Int32) ≤ x2 := hc1
    replace hyp := it_pos hc1 hyp
    cases hyp
    refine am_At.drop 2 ?_
    exact hx
  · intro hc1n
    have hc1n : ¬ ((16 : Int32) ≤ x2) := hc1n
    replace hyp := it_neg hc1n hyp
    refine am_aload_n dX8_fine_8 rfl ?_
    refine am_getR 8 0 30 dX8_fine_9 fg_X8_11 (sh_29 g) (by decide) rfl (rf_29_0 g) ?_
    refine am_iconst 3 (v := 3) dX8_fine_12 (by decide) ?_
    refine am_iload_n dX8_fine_13 rfl ?_
    refine am_iadd dX8_fine_14 ?_
    refine am_dup2 dX8_fine_15 (fun _ => rfl) (fun _ => rfl) ?_
    obtain ⟨hg2, hyp⟩ := gd_some hyp
    refine am_iald dX8_fine_16 (am_ia.one (sh_30 g)) (am_lit hg2) ?_
    refine am_iload_n dX8_fine_17 rfl ?_
    refine am_iload_n dX8_fine_18 rfl ?_
    refine am_ishr dX8_fine_19 ?_
    refine am_iconst 1 (v := 1) dX8_fine_20 (by decide) ?_
    refine am_iand dX8_fine_21 ?_
    refine am_iadd dX8_fine_22 ?_
    refine am_iast dX8_fine_23 (am_ia.one (sh_30 g)) (am_lit hg2) ?_
    refine am_iinc dX8_fine_24 rfl (am_ix _) ?_
    change am_At _ _ _ 27 [_, _, _] [] _ _
    refine am_goto (-25) 2 dX8_fine_27 rfl ?_
    cases hyp
    exact hx
theorem ef_X8_fine_30 {d : Nat} {h : am_H} (g : lay h) {x1 : Int32} {M : Mem} {M' : Mem} (hyp : f_X8_fine 30 x1 M = some M') : am_Ev (d + 0) mX8_fine [.inr (29, 0), am_I x1] (am_hM h M) (.inl (none, am_hM h M')) := by
  unfold f_X8_fine at hyp
  refine am_Ev.mk (by decide +kernel) rfl rfl (Nat.le_refl _) (Nat.le_refl _) ?_
  change am_At _ _ _ 0 [_, _, _] [] _ _
  refine am_iconst 0 (v := 0) dX8_fine_0 (by decide) ?_
  refine am_istore_n dX8_fine_1 (am_lb rfl) ?_
  change am_At _ _ _ 2 [_, _, _] [] _ _
  obtain ⟨M3, hw3, hyp⟩ := bd_some hyp
  try dsimp only at hyp
  refine eL_X8_fine_2_30 (d := d) (h := h) g  FU ((0 : Int32), M) M3 hw3 ?_
  change am_At _ _ _ 30 [_, _, _] [] _ _
  cases hyp
  exact am_vret dX8_fine_30 rfl
theorem eL_X8_fine_2_40 {d : Nat} {h : am_H} (g : lay h) {x1 : Int32} {r : am_R} (n : Nat) : ∀ (s : Int32 × Mem) (e : Mem), wh (L_X8_fine_2 40 x1) n s = some e → ((fun (M : Mem) => am_At am_X0 (d + 0) mX8_fine 30 [some (.inr (39, 0)), some (am_I (x1)), none] [] (am_hM h M) r) e) → (match s with | (x2, M) => am_At am_X0 (d + 0) mX8_fine 2 [some (.inr (39, 0)), some (am_I (x1)), some (am_I (x2))] [] (am_hM h M) r) := by
  refine am_wh (At := fun (s : Int32 × Mem) => match s with | (x2, M) => am_At am_X0 (d + 0) mX8_fine 2 [some (.inr (39, 0)), some (am_I (x1)), some (am_I (x2))] [] (am_hM h M) r) (Ex := fun (e : Mem) => (fun (M : Mem) => am_At am_X0 (d + 0) mX8_fine 30 [some (.inr (39, 0)), some (am_I (x1)), none] [] (am_hM h M) r) e) ?_ n
  rintro ⟨x2, M⟩ y hyp hx
  unfold L_X8_fine_2 at hyp
  try dsimp only at hyp
  change am_At _ _ _ 2 [_, _, _] [] _ _
  refine am_iload_n dX8_fine_2 rfl ?_
  refine am_bipush 16 (v := 16) dX8_fine_3 (by decide) ?_
  refine am_icmp_ge (25) 30 dX8_fine_5 rfl ?_ ?_
  · intro hc1
    have hc1 : (16 : Int32) ≤ x2 := hc1
    replace hyp := it_pos hc1 hyp
    cases hyp
    refine am_At.drop 2 ?_
    exact hx
  · intro hc1n
    have hc1n : ¬ ((16 : Int32) ≤ x2) := hc1n
    replace hyp := it_neg hc1n hyp
    refine am_aload_n dX8_fine_8 rfl ?_
    refine am_getR 8 0 40 dX8_fine_9 fg_X8_11 (sh_39 g) (by decide) rfl (rf_39_0 g) ?_
    refine am_iconst 3 (v := 3) dX8_fine_12 (by decide) ?_
    refine am_iload_n dX8_fine_13 rfl ?_
    refine am_iadd dX8_fine_14 ?_
    refine am_dup2 dX8_fine_15 (fun _ => rfl) (fun _ => rfl) ?_
    obtain ⟨hg2, hyp⟩ := gd_some hyp
    refine am_iald dX8_fine_16 (am_ia.one (sh_40 g)) (am_lit hg2) ?_
    refine am_iload_n dX8_fine_17 rfl ?_
    refine am_iload_n dX8_fine_18 rfl ?_
    refine am_ishr dX8_fine_19 ?_
    refine am_iconst 1 (v := 1) dX8_fine_20 (by decide) ?_
    refine am_iand dX8_fine_21 ?_
    refine am_iadd dX8_fine_22 ?_
    refine am_iast dX8_fine_23 (am_ia.one (sh_40 g)) (am_lit hg2) ?_
    refine am_iinc dX8_fine_24 rfl (am_ix _) ?_
    change am_At _ _ _ 27 [_, _, _] [] _ _
    refine am_goto (-25) 2 dX8_fine_27 rfl ?_
    cases hyp
    exact hx
theorem ef_X8_fine_40 {d : Nat} {h : am_H} (g : lay h) {x1 : Int32} {M : Mem} {M' : Mem} (hyp : f_X8_fine 40 x1 M = some M') : am_Ev (d + 0) mX8_fine [.inr (39, 0), am_I x1] (am_hM h M) (.inl (none, am_hM h M')) := by
  unfold f_X8_fine at hyp
  refine am_Ev.mk (by decide +kernel) rfl rfl (Nat.le_refl _) (Nat.le_refl _) ?_
  change am_At _ _ _ 0 [_, _, _] [] _ _
  refine am_iconst 0 (v := 0) dX8_fine_0 (by decide) ?_
  refine am_istore_n dX8_fine_1 (am_lb rfl) ?_
  change am_At _ _ _ 2 [_, _, _] [] _ _
  obtain ⟨M3, hw3, hyp⟩ := bd_some hyp
  try dsimp only at hyp
  refine eL_X8_fine_2_40 (d := d) (h := h) g  FU ((0 : Int32), M) M3 hw3 ?_
  change am_At _ _ _ 30 [_, _, _] [] _ _
  cases hyp
  exact am_vret dX8_fine_30 rfl
theorem ef_X8_finesOf_30 {d : Nat} {h : am_H} (g : lay h) {x1 : Int32} {M : Mem} {v : Int32} (hyp : f_X8_finesOf 30 x1 M = some v) : am_Ev (d + 0) mX8_finesOf [.inr (29, 0), am_I x1] (am_hM h M) (.inl (some (am_I v), am_hM h M)) := by
  unfold f_X8_finesOf at hyp
  refine am_Ev.mk (by decide +kernel) rfl rfl (Nat.le_refl _) (Nat.le_refl _) ?_
  change am_At _ _ _ 0 [_, _] [] _ _
  refine am_aload_n dX8_finesOf_0 rfl ?_
  refine am_getR 8 0 30 dX8_finesOf_1 fg_X8_11 (sh_29 g) (by decide) rfl (rf_29_0 g) ?_
  refine am_iconst 3 (v := 3) dX8_finesOf_4 (by decide) ?_
  refine am_iload_n dX8_finesOf_5 rfl ?_
  refine am_iadd dX8_finesOf_6 ?_
  obtain ⟨hg1, hyp⟩ := gd_some hyp
  refine am_iald dX8_finesOf_7 (am_ia.one (sh_30 g)) (am_lit hg1) ?_
  cases hyp
  exact am_iret dX8_finesOf_8 rfl
theorem ef_X8_finesOf_40 {d : Nat} {h : am_H} (g : lay h) {x1 : Int32} {M : Mem} {v : Int32} (hyp : f_X8_finesOf 40 x1 M = some v) : am_Ev (d + 0) mX8_finesOf [.inr (39, 0), am_I x1] (am_hM h M) (.inl (some (am_I v), am_hM h M)) := by
  unfold f_X8_finesOf at hyp
  refine am_Ev.mk (by decide +kernel) rfl rfl (Nat.le_refl _) (Nat.le_refl _) ?_
  change am_At _ _ _ 0 [_, _] [] _ _
  refine am_aload_n dX8_finesOf_0 rfl ?_
  refine am_getR 8 0 40 dX8_finesOf_1 fg_X8_11 (sh_39 g) (by decide) rfl (rf_39_0 g) ?_
  refine am_iconst 3 (v := 3) dX8_finesOf_4 (by decide) ?_
  refine am_iload_n dX8_finesOf_5 rfl ?_
  refine am_iadd dX8_finesOf_6 ?_
  obtain ⟨hg1, hyp⟩ := gd_some hyp
  refine am_iald dX8_finesOf_7 (am_ia.one (sh_40 g)) (am_lit hg1) ?_
  cases hyp
  exact am_iret dX8_finesOf_8 rfl
theorem ef_X8_hour_30 {d : Nat} {h : am_H} (g : lay h) {M : Mem} {v : Int32} (hyp : f_X8_hour 30 M = v) : am_Ev (d + 0) mX8_hour [.inr (29, 0)] (am_hM h M) (.inl (some (am_I v), am_hM h M)) := by
  unfold f_X8_hour at hyp
  refine am_Ev.mk (by decide +kernel) rfl rfl (Nat.le_refl _) (Nat.le_refl _) ?_
  change am_At _ _ _ 0 [_] [] _ _
  refine am_aload_n dX8_hour_0 rfl ?_
  refine am_getR 8 0 30 dX8_hour_1 fg_X8_11 (sh_29 g) (by decide) rfl (rf_29_0 g) ?_
  refine am_iconst 0 (v := 0) dX8_hour_4 (by decide) ?_
  refine am_iald dX8_hour_5 (am_ia.one (sh_30 g)) (am_lit rfl) ?_
  cases hyp
  exact am_iret dX8_hour_6 rfl
theorem ef_X8_hour_40 {d : Nat} {h : am_H} (g : lay h) {M : Mem} {v : Int32} (hyp : f_X8_hour 40 M = v) : am_Ev (d + 0) mX8_hour [.inr (39, 0)] (am_hM h M) (.inl (some (am_I v), am_hM h M)) := by
  unfold f_X8_hour at hyp
  refine am_Ev.mk (by decide +kernel) rfl rfl (Nat.le_refl _) (Nat.le_refl _) ?_
  change am_At _ _ _ 0 [_] [] _ _
  refine am_aload_n dX8_hour_0 rfl ?_
  refine am_getR 8 0 40 dX8_hour_1 fg_X8_11 (sh_39 g) (by decide) rfl (rf_39_0 g) ?_
  refine am_iconst 0 (v := 0) dX8_hour_4 (by decide) ?_
  refine am_iald dX8_hour_5 (am_ia.one (sh_40 g)) (am_lit rfl) ?_
  cases hyp
  exact am_iret dX8_hour_6 rfl
theorem ef_X8_knock_30 {d : Nat} {h : am_H} (g : lay h) {x1 : Int32} {M : Mem} {M' : Mem} (hyp : f_X8_knock 30 x1 M = some M') : am_Ev (d + 0) mX8_knock [.inr (29, 0), am_I x1] (am_hM h M) (.inl (none, am_hM h M')) := by
  unfold f_X8_knock at hyp
  refine am_Ev.mk (by decide +kernel) rfl rfl (Nat.le_refl _) (Nat.le_refl _) ?_
  change am_At _ _ _ 0 [_, _] [] _ _
  refine am_aload_n dX8_knock_0 rfl ?_
  refine am_getR 8 0 30 dX8_knock_1 fg_X8_11 (sh_29 g) (by decide) rfl (rf_29_0 g) ?_
  refine am_bipush 19 (v := 19) dX8_knock_4 (by decide) ?_
  refine am_iload_n dX8_knock_6 rfl ?_
  refine am_iadd dX8_knock_7 ?_
  refine am_dup2 dX8_knock_8 (fun _ => rfl) (fun _ => rfl) ?_
  obtain ⟨hg1, hyp⟩ := gd_some hyp
  refine am_iald dX8_knock_9 (am_ia.one (sh_30 g)) (am_lit hg1) ?_
  refine am_iconst 1 (v := 1) dX8_knock_10 (by decide) ?_
  refine am_iadd dX8_knock_11 ?_
  refine am_iast dX8_knock_12 (am_ia.one (sh_30 g)) (am_lit hg1) ?_
  cases hyp
  exact am_vret dX8_knock_13 rfl
theorem ef_X8_knock_40 {d : Nat} {h : am_H} (g : lay h) {x1 : Int32} {M : Mem} {M' : Mem} (hyp : f_X8_knock 40 x1 M = some M') : am_Ev (d + 0) mX8_knock [.inr (39, 0), am_I x1] (am_hM h M) (.inl (none, am_hM h M')) := by
  unfold f_X8_knock at hyp
  refine am_Ev.mk (by decide +kernel) rfl rfl (Nat.le_refl _) (Nat.le_refl _) ?_
  change am_At _ _ _ 0 [_, _] [] _ _
  refine am_aload_n dX8_knock_0 rfl ?_
  refine am_getR 8 0 40 dX8_knock_1 fg_X8_11 (sh_39 g) (by decide) rfl (rf_39_0 g) ?_
  refine am_bipush 19 (v := 19) dX8_knock_4 (by decide) ?_
  refine am_iload_n dX8_knock_6 rfl ?_
  refine am_iadd dX8_knock_7 ?_
  refine am_dup2 dX8_knock_8 (fun _ => rfl) (fun _ => rfl) ?_
  obtain ⟨hg1, hyp⟩ := gd_some hyp
  refine am_iald dX8_knock_9 (am_ia.one (sh_40 g)) (am_lit hg1) ?_
  refine am_iconst 1 (v := 1) dX8_knock_10 (by decide) ?_
  refine am_iadd dX8_knock_11 ?_
  refine am_iast dX8_knock_12 (am_ia.one (sh_40 g)) (am_lit hg1) ?_
  cases hyp
  exact am_vret dX8_knock_13 rfl
theorem ef_X8_knocksAt_30 {d : Nat} {h : am_H} (g : lay h) {x1 : Int32} {M : Mem} {v : Int32} (hyp : f_X8_knocksAt 30 x1 M = some v) : am_Ev (d + 0) mX8_knocksAt [.inr (29, 0), am_I x1] (am_hM h M) (.inl (some (am_I v), am_hM h M)) := by
  unfold f_X8_knocksAt at hyp
  refine am_Ev.mk (by decide +kernel) rfl rfl (Nat.le_refl _) (Nat.le_refl _) ?_
  change am_At _ _ _ 0 [_, _] [] _ _
  refine am_aload_n dX8_knocksAt_0 rfl ?_
  refine am_getR 8 0 30 dX8_knocksAt_1 fg_X8_11 (sh_29 g) (by decide) rfl (rf_29_0 g) ?_
  refine am_bipush 19 (v := 19) dX8_knocksAt_4 (by decide) ?_
  refine am_iload_n dX8_knocksAt_6 rfl ?_
  refine am_iadd dX8_knocksAt_7 ?_
  obtain ⟨hg1, hyp⟩ := gd_some hyp
  refine am_iald dX8_knocksAt_8 (am_ia.one (sh_30 g)) (am_lit hg1) ?_
  cases hyp
  exact am_iret dX8_knocksAt_9 rfl
theorem ef_X8_knocksAt_40 {d : Nat} {h : am_H} (g : lay h) {x1 : Int32} {M : Mem} {v : Int32} (hyp : f_X8_knocksAt 40 x1 M = some v) : am_Ev (d + 0) mX8_knocksAt [.inr (39, 0), am_I x1] (am_hM h M) (.inl (some (am_I v), am_hM h M)) := by
  unfold f_X8_knocksAt at hyp
  refine am_Ev.mk (by decide +kernel) rfl rfl (Nat.le_refl _) (Nat.le_refl _) ?_
  change am_At _ _ _ 0 [_, _] [] _ _
  refine am_aload_n dX8_knocksAt_0 rfl ?_
  refine am_getR 8 0 40 dX8_knocksAt_1 fg_X8_11 (sh_39 g) (by decide) rfl (rf_39_0 g) ?_
  refine am_bipush 19 (v := 19) dX8_knocksAt_4 (by decide) ?_
  refine am_iload_n dX8_knocksAt_6 rfl ?_
  refine am_iadd dX8_knocksAt_7 ?_
  obtain ⟨hg1, hyp⟩ := gd_some hyp
  refine am_iald dX8_knocksAt_8 (am_ia.one (sh_40 g)) (am_lit hg1) ?_
  cases hyp
  exact am_iret dX8_knocksAt_9 rfl
theorem ef_X8_leave_30 {d : Nat} {h : am_H} (g : lay h) {x1 : Int32} {M : Mem} {M' : Mem} (hyp : f_X8_leave 30 x1 M = some M') : am_Ev (d + 1) mX8_leave [.inr (29, 0), am_I x1] (am_hM h M) (.inl (none, am_hM h M')) := by
  unfold f_X8_leave at hyp
  refine am_Ev.mk (by decide +kernel) rfl rfl (Nat.le_refl _) (Nat.le_refl _) ?_
  change am_At _ _ _ 0 [_, _] [] _ _
  refine am_aload_n dX8_leave_0 rfl ?_
  refine am_getR 8 0 30 dX8_leave_1 fg_X8_11 (sh_29 g) (by decide) rfl (rf_29_0 g) ?_
  refine am_bipush 35 (v := 35) dX8_leave_4 (by decide) ?_
  refine am_iload_n dX8_leave_6 rfl ?_
  refine am_iadd dX8_leave_7 ?_
  refine am_iconst 2 (v := 2) dX8_leave_8 (by decide) ?_
  obtain ⟨hg1, hyp⟩ := gd_some hyp
  refine am_iast dX8_leave_9 (am_ia.one (sh_30 g)) (am_lit hg1) ?_
  refine am_aload_n dX8_leave_10 rfl ?_
  refine am_getR 8 0 30 dX8_leave_11 fg_X8_11 (sh_29 g) (by decide) rfl (rf_29_0 g) ?_
  refine am_bipush 43 (v := 43) dX8_leave_14 (by decide) ?_
  refine am_iload_n dX8_leave_16 rfl ?_
  refine am_iadd dX8_leave_17 ?_
  refine am_aload_n dX8_leave_18 rfl ?_
  refine am_callV [] dX8_leave_19 ml_X8_38 vm_X8_hour (sh_29 g) rfl (fun _ => Nat.le_of_ble_eq_true rfl) (by omega) rfl (ef_X8_hour_30 (d := d + 0) (h := h) g  (M := (am_u3 M 30 0 (((35 : Int32) + x1).toNatClampNeg) (2 : Int32))) rfl) rfl ?_
  change am_At _ _ _ 22 [_, _] [_, _, _] _ _
  obtain ⟨hg2, hyp⟩ := gd_some hyp
  refine am_iast dX8_leave_22 (am_ia.one (sh_30 g)) (am_lit hg2) ?_
  cases hyp
  exact am_vret dX8_leave_23 rfl
theorem ef_X8_leave_40 {d : Nat} {h : am_H} (g : lay h) {x1 : Int32} {M : Mem} {M' : Mem} (hyp : f_X8_leave 40 x1 M = some M') : am_Ev (d + 1) mX8_leave [.inr (39, 0), am_I x1] (am_hM h M) (.inl (none, am_hM h M')) := by
  unfold f_X8_leave at hyp
  refine am_Ev.mk (by decide +kernel) rfl rfl (Nat.le_refl _) (Nat.le_refl _) ?_
  change am_At _ _ _ 0 [_, _] [] _ _
  refine am_aload_n dX8_leave_0 rfl ?_
  refine am_getR 8 0 40 dX8_leave_1 fg_X8_11 (sh_39 g) (by decide) rfl (rf_39_0 g) ?_
  refine am_bipush 35 (v := 35) dX8_leave_4 (by decide) ?_
  refine am_iload_n dX8_leave_6 rfl ?_
  refine am_iadd dX8_leave_7 ?_
  refine am_iconst 2 (v := 2) dX8_leave_8 (by decide) ?_
  obtain ⟨hg1, hyp⟩ := gd_some hyp
  refine am_iast dX8_leave_9 (am_ia.one (sh_40 g)) (am_lit hg1) ?_
  refine am_aload_n dX8_leave_10 rfl ?_
  refine am_getR 8 0 40 dX8_leave_11 fg_X8_11 (sh_39 g) (by decide) rfl (rf_39_0 g) ?_
  refine am_bipush 43 (v := 43) dX8_leave_14 (by decide) ?_
  refine am_iload_n dX8_leave_16 rfl ?_
  refine am_iadd dX8_leave_17 ?_
  refine am_aload_n dX8_leave_18 rfl ?_
  refine am_callV [] dX8_leave_19 ml_X8_38 vm_X8_hour (sh_39 g) rfl (fun _ => Nat.le_of_ble_eq_true rfl) (by omega) rfl (ef_X8_hour_40 (d := d + 0) (h := h) g  (M := (am_u3 M 40 0 (((35 : Int32) + x1).toNatClampNeg) (2 : Int32))) rfl) rfl ?_
  change am_At _ _ _ 22 [_, _] [_, _, _] _ _
  obtain ⟨hg2, hyp⟩ := gd_some hyp
  refine am_iast dX8_leave_22 (am_ia.one (sh_40 g)) (am_lit hg2) ?_
  cases hyp
  exact am_vret dX8_leave_23 rfl
theorem ef_X8_lifted_30 {d : Nat} {h : am_H} (g : lay h) {M : Mem} {v : Int32} (hyp : f_X8_lifted 30 M = v) : am_Ev (d + 0) mX8_lifted [.inr (29, 0)] (am_hM h M) (.inl (some (am_I v), am_hM h M)) := by
  unfold f_X8_lifted at hyp
  refine am_Ev.mk (by decide +kernel) rfl rfl (Nat.le_refl _) (Nat.le_refl _) ?_
  change am_At _ _ _ 0 [_] [] _ _
  refine am_aload_n dX8_lifted_0 rfl ?_
  refine am_getR 8 0 30 dX8_lifted_1 fg_X8_11 (sh_29 g) (by decide) rfl (rf_29_0 g) ?_
  refine am_iconst 1 (v := 1) dX8_lifted_4 (by decide) ?_
  refine am_iald dX8_lifted_5 (am_ia.one (sh_30 g)) (am_lit rfl) ?_
  cases hyp
  exact am_iret dX8_lifted_6 rfl
theorem ef_X8_lifted_40 {d : Nat} {h : am_H} (g : lay h) {M : Mem} {v : Int32} (hyp : f_X8_lifted 40 M = v) : am_Ev (d + 0) mX8_lifted [.inr (39, 0)] (am_hM h M) (.inl (some (am_I v), am_hM h M)) := by
  unfold f_X8_lifted at hyp
  refine am_Ev.mk (by decide +kernel) rfl rfl (Nat.le_refl _) (Nat.le_refl _) ?_
  change am_At _ _ _ 0 [_] [] _ _
  refine am_aload_n dX8_lifted_0 rfl ?_
  refine am_getR 8 0 40 dX8_lifted_1 fg_X8_11 (sh_39 g) (by decide) rfl (rf_39_0 g) ?_
  refine am_iconst 1 (v := 1) dX8_lifted_4 (by decide) ?_
  refine am_iald dX8_lifted_5 (am_ia.one (sh_40 g)) (am_lit rfl) ?_
  cases hyp
  exact am_iret dX8_lifted_6 rfl
theorem ef_X8_pass_30 {d : Nat} {h : am_H} (g : lay h) {x1 x2 : Int32} {M : Mem} {M' : Mem} (hyp : f_X8_pass 30 x1 x2 M = some M') : am_Ev (d + 0) mX8_pass [.inr (29, 0), am_I x1, am_I x2] (am_hM h M) (.inl (none, am_hM h M')) := by
  unfold f_X8_pass at hyp
  refine am_Ev.mk (by decide +kernel) rfl rfl (Nat.le_refl _) (Nat.le_refl _) ?_
  change am_At _ _ _ 0 [_, _, _] [] _ _
  refine am_aload_n dX8_pass_0 rfl ?_
  refine am_getR 8 0 30 dX8_pass_1 fg_X8_11 (sh_29 g) (by decide) rfl (rf_29_0 g) ?_
  refine am_bipush 39 (v := 39) dX8_pass_4 (by decide) ?_
  refine am_iload_n dX8_pass_6 rfl ?_
  refine am_iadd dX8_pass_7 ?_
  refine am_iload_n dX8_pass_8 rfl ?_
  obtain ⟨hg1, hyp⟩ := gd_some hyp
  refine am_iast dX8_pass_9 (am_ia.one (sh_30 g)) (am_lit hg1) ?_
  cases hyp
  exact am_vret dX8_pass_10 rfl
theorem ef_X8_pass_40 {d : Nat} {h : am_H} (g : lay h) {x1 x2 : Int32} {M : Mem} {M' : Mem} (hyp : f_X8_pass 40 x1 x2 M = some M') : am_Ev (d + 0) mX8_pass [.inr (39, 0), am_I x1, am_I x2] (am_hM h M) (.inl (none, am_hM h M')) := by
  unfold f_X8_pass at hyp
  refine am_Ev.mk (by decide +kernel) rfl rfl (Nat.le_refl _) (Nat.le_refl _) ?_
  change am_At _ _ _ 0 [_, _, _] [] _ _
  refine am_aload_n dX8_pass_0 rfl ?_
  refine am_getR 8 0 40 dX8_pass_1 fg_X8_11 (sh_39 g) (by decide) rfl (rf_39_0 g) ?_
  refine am_bipush 39 (v := 39) dX8_pass_4 (by decide) ?_
  refine am_iload_n dX8_pass_6 rfl ?_
  refine am_iadd dX8_pass_7 ?_
  refine am_iload_n dX8_pass_8 rfl ?_
  obtain ⟨hg1, hyp⟩ := gd_some hyp
  refine am_iast dX8_pass_9 (am_ia.one (sh_40 g)) (am_lit hg1) ?_
  cases hyp
  exact am_vret dX8_pass_10 rfl
theorem ef_X8_passedBy_30 {d : Nat} {h : am_H} (g : lay h) {x1 : Int32} {M : Mem} {v : Int32} (hyp : f_X8_passedBy 30 x1 M = some v) : am_Ev (d + 0) mX8_passedBy [.inr (29, 0), am_I x1] (am_hM h M) (.inl (some (am_I v), am_hM h M)) := by
  unfold f_X8_passedBy at hyp
  refine am_Ev.mk (by decide +kernel) rfl rfl (Nat.le_refl _) (Nat.le_refl _) ?_
  change am_At _ _ _ 0 [_, _] [] _ _
  refine am_aload_n dX8_passedBy_0 rfl ?_
  refine am_getR 8 0 30 dX8_passedBy_1 fg_X8_11 (sh_29 g) (by decide) rfl (rf_29_0 g) ?_
  refine am_bipush 39 (v := 39) dX8_passedBy_4 (by decide) ?_
  refine am_iload_n dX8_passedBy_6 rfl ?_
  refine am_iadd dX8_passedBy_7 ?_
  obtain ⟨hg1, hyp⟩ := gd_some hyp
  refine am_iald dX8_passedBy_8 (am_ia.one (sh_30 g)) (am_lit hg1) ?_
  cases hyp
  exact am_iret dX8_passedBy_9 rfl
theorem ef_X8_passedBy_40 {d : Nat} {h : am_H} (g : lay h) {x1 : Int32} {M : Mem} {v : Int32} (hyp : f_X8_passedBy 40 x1 M = some v) : am_Ev (d + 0) mX8_passedBy [.inr (39, 0), am_I x1] (am_hM h M) (.inl (some (am_I v), am_hM h M)) := by
  unfold f_X8_passedBy at hyp
  refine am_Ev.mk (by decide +kernel) rfl rfl (Nat.le_refl _) (Nat.le_refl _) ?_
  change am_At _ _ _ 0 [_, _] [] _ _
  refine am_aload_n dX8_passedBy_0 rfl ?_
  refine am_getR 8 0 40 dX8_passedBy_1 fg_X8_11 (sh_39 g) (by decide) rfl (rf_39_0 g) ?_
  refine am_bipush 39 (v := 39) dX8_passedBy_4 (by decide) ?_
  refine am_iload_n dX8_passedBy_6 rfl ?_
  refine am_iadd dX8_passedBy_7 ?_
  obtain ⟨hg1, hyp⟩ := gd_some hyp
  refine am_iald dX8_passedBy_8 (am_ia.one (sh_40 g)) (am_lit hg1) ?_
  cases hyp
  exact am_iret dX8_passedBy_9 rfl
theorem ef_X8_shut_30 {d : Nat} {h : am_H} (g : lay h) {M : Mem} {v : Int32} (hyp : f_X8_shut 30 M = v) : am_Ev (d + 0) mX8_shut [.inr (29, 0)] (am_hM h M) (.inl (some (am_I v), am_hM h M)) := by
  unfold f_X8_shut at hyp
  refine am_Ev.mk (by decide +kernel) rfl rfl (Nat.le_refl _) (Nat.le_refl _) ?_
  change am_At _ _ _ 0 [_] [] _ _
  refine am_aload_n dX8_shut_0 rfl ?_
  refine am_getR 8 0 30 dX8_shut_1 fg_X8_11 (sh_29 g) (by decide) rfl (rf_29_0 g) ?_
  refine am_iconst 2 (v := 2) dX8_shut_4 (by decide) ?_
  refine am_iald dX8_shut_5 (am_ia.one (sh_30 g)) (am_lit rfl) ?_
  cases hyp
  exact am_iret dX8_shut_6 rfl
theorem ef_X8_shut_40 {d : Nat} {h : am_H} (g : lay h) {M : Mem} {v : Int32} (hyp : f_X8_shut 40 M = v) : am_Ev (d + 0) mX8_shut [.inr (39, 0)] (am_hM h M) (.inl (some (am_I v), am_hM h M)) := by
  unfold f_X8_shut at hyp
  refine am_Ev.mk (by decide +kernel) rfl rfl (Nat.le_refl _) (Nat.le_refl _) ?_
  change am_At _ _ _ 0 [_] [] _ _
  refine am_aload_n dX8_shut_0 rfl ?_
  refine am_getR 8 0 40 dX8_shut_1 fg_X8_11 (sh_39 g) (by decide) rfl (rf_39_0 g) ?_
  refine am_iconst 2 (v := 2) dX8_shut_4 (by decide) ?_
  refine am_iald dX8_shut_5 (am_ia.one (sh_40 g)) (am_lit rfl) ?_
  cases hyp
  exact am_iret dX8_shut_6 rfl
theorem eL_X8_sumOfBoards_4_30 {d : Nat} {h : am_H} (g : lay h) {x1 : Int32} {M : Mem} {r : am_R} (n : Nat) : ∀ (s : Int32 × Int32) (e : Int32), wh (L_X8_sumOfBoards_4 30 x1 M) n s = some e → ((fun (x2 : Int32) => am_At am_X0 (d + 0) mX8_sumOfBoards 27 [some (.inr (29, 0)), some (am_I (x1)), some (am_I (x2)), none] [] (am_hM h M) r) e) → (match s with | (x2, x3) => am_At am_X0 (d + 0) mX8_sumOfBoards 4 [some (.inr (29, 0)), some (am_I (x1)), some (am_I (x2)), some (am_I (x3))] [] (am_hM h M) r) := by
  refine am_wh (At := fun (s : Int32 × Int32) => match s with | (x2, x3) => am_At am_X0 (d + 0) mX8_sumOfBoards 4 [some (.inr (29, 0)), some (am_I (x1)), some (am_I (x2)), some (am_I (x3))] [] (am_hM h M) r) (Ex := fun (e : Int32) => (fun (x2 : Int32) => am_At am_X0 (d + 0) mX8_sumOfBoards 27 [some (.inr (29, 0)), some (am_I (x1)), some (am_I (x2)), none] [] (am_hM h M) r) e) ?_ n
  rintro ⟨x2, x3⟩ y hyp hx
  unfold L_X8_sumOfBoards_4 at hyp
  try dsimp only at hyp
  change am_At _ _ _ 4 [_, _, _, _] [] _ _
  refine am_iload_n dX8_sumOfBoards_4 rfl ?_
  refine am_bipush 16 (v := 16) dX8_sumOfBoards_5 (by decide) ?_
  refine am_icmp_ge (20) 27 dX8_sumOfBoards_7 rfl ?_ ?_
  · intro hc1
    have hc1 : (16 : Int32) ≤ x3 := hc1
    replace hyp := it_pos hc1 hyp
    cases hyp
    refine am_At.drop 3 ?_
    exact hx
  · intro hc1n
    have hc1n : ¬ ((16 : Int32) ≤ x3) := hc1n
    replace hyp := it_neg hc1n hyp
    refine am_iload_n dX8_sumOfBoards_10 rfl ?_
    refine am_aload_n dX8_sumOfBoards_11 rfl ?_
    refine am_getR 8 0 30 dX8_sumOfBoards_12 fg_X8_11 (sh_29 g) (by decide) rfl (rf_29_0 g) ?_
    refine am_iload_n dX8_sumOfBoards_15 rfl ?_
    refine am_iload_n dX8_sumOfBoards_16 rfl ?_
    refine am_iadd dX8_sumOfBoards_17 ?_
    obtain ⟨hg2, hyp⟩ := gd_some hyp
    refine am_iald dX8_sumOfBoards_18 (am_ia.one (sh_30 g)) (am_lit hg2) ?_
    refine am_iadd dX8_sumOfBoards_19 ?_
    refine am_istore_n dX8_sumOfBoards_20 (am_lb rfl) ?_
    change am_At _ _ _ 21 [_, _, _, _] [] _ _
    refine am_iinc dX8_sumOfBoards_21 rfl (am_ix _) ?_
    change am_At _ _ _ 24 [_, _, _, _] [] _ _
    refine am_goto (-20) 4 dX8_sumOfBoards_24 rfl ?_
    cases hyp
    exact hx
theorem ef_X8_sumOfBoards_30 {d : Nat} {h : am_H} (g : lay h) {x1 : Int32} {M : Mem} {v : Int32} (hyp : f_X8_sumOfBoards 30 x1 M = some v) : am_Ev (d + 0) mX8_sumOfBoards [.inr (29, 0), am_I x1] (am_hM h M) (.inl (some (am_I v), am_hM h M)) := by
  unfold f_X8_sumOfBoards at hyp
  refine am_Ev.mk (by decide +kernel) rfl rfl (Nat.le_refl _) (Nat.le_refl _) ?_
  change am_At _ _ _ 0 [_, _, _, _] [] _ _
  refine am_iconst 0 (v := 0) dX8_sumOfBoards_0 (by decide) ?_
  refine am_istore_n dX8_sumOfBoards_1 (am_lb rfl) ?_
  change am_At _ _ _ 2 [_, _, _, _] [] _ _
  refine am_iconst 0 (v := 0) dX8_sumOfBoards_2 (by decide) ?_
  refine am_istore_n dX8_sumOfBoards_3 (am_lb rfl) ?_
  change am_At _ _ _ 4 [_, _, _, _] [] _ _
  obtain ⟨x2_3, hw3, hyp⟩ := bd_some hyp
  try dsimp only at hyp
  refine eL_X8_sumOfBoards_4_30 (d := d) (h := h) g (M := M) FU ((0 : Int32), (0 : Int32)) x2_3 hw3 ?_
  change am_At _ _ _ 27 [_, _, _, _] [] _ _
  refine am_iload_n dX8_sumOfBoards_27 rfl ?_
  cases hyp
  exact am_iret dX8_sumOfBoards_28 rfl
theorem eL_X8_sumOfBoards_4_40 {d : Nat} {h : am_H} (g : lay h) {x1 : Int32} {M : Mem} {r : am_R} (n : Nat) : ∀ (s : Int32 × Int32) (e : Int32), wh (L_X8_sumOfBoards_4 40 x1 M) n s = some e → ((fun (x2 : Int32) => am_At am_X0 (d + 0) mX8_sumOfBoards 27 [some (.inr (39, 0)), some (am_I (x1)), some (am_I (x2)), none] [] (am_hM h M) r) e) → (match s with | (x2, x3) => am_At am_X0 (d + 0) mX8_sumOfBoards 4 [some (.inr (39, 0)), some (am_I (x1)), some (am_I (x2)), some (am_I (x3))] [] (am_hM h M) r) := by
  refine am_wh (At := fun (s : Int32 × Int32) => match s with | (x2, x3) => am_At am_X0 (d + 0) mX8_sumOfBoards 4 [some (.inr (39, 0)), some (am_I (x1)), some (am_I (x2)), some (am_I (x3))] [] (am_hM h M) r) (Ex := fun (e : Int32) => (fun (x2 : Int32) => am_At am_X0 (d + 0) mX8_sumOfBoards 27 [some (.inr (39, 0)), some (am_I (x1)), some (am_I (x2)), none] [] (am_hM h M) r) e) ?_ n
  rintro ⟨x2, x3⟩ y hyp hx
  unfold L_X8_sumOfBoards_4 at hyp
  try dsimp only at hyp
  change am_At _ _ _ 4 [_, _, _, _] [] _ _
  refine am_iload_n dX8_sumOfBoards_4 rfl ?_
  refine am_bipush 16 (v := 16) dX8_sumOfBoards_5 (by decide) ?_
  refine am_icmp_ge (20) 27 dX8_sumOfBoards_7 rfl ?_ ?_
  · intro hc1
    have hc1 : (16 : Int32) ≤ x3 := hc1
    replace hyp := it_pos hc1 hyp
    cases hyp
    refine am_At.drop 3 ?_
    exact hx
  · intro hc1n
    have hc1n : ¬ ((16 : Int32) ≤ x3) := hc1n
    replace hyp := it_neg hc1n hyp
    refine am_iload_n dX8_sumOfBoards_10 rfl ?_
    refine am_aload_n dX8_sumOfBoards_11 rfl ?_
    refine am_getR 8 0 40 dX8_sumOfBoards_12 fg_X8_11 (sh_39 g) (by decide) rfl (rf_39_0 g) ?_
    refine am_iload_n dX8_sumOfBoards_15 rfl ?_
    refine am_iload_n dX8_sumOfBoards_16 rfl ?_
    refine am_iadd dX8_sumOfBoards_17 ?_
    obtain ⟨hg2, hyp⟩ := gd_some hyp
    refine am_iald dX8_sumOfBoards_18 (am_ia.one (sh_40 g)) (am_lit hg2) ?_
    refine am_iadd dX8_sumOfBoards_19 ?_
    refine am_istore_n dX8_sumOfBoards_20 (am_lb rfl) ?_
    change am_At _ _ _ 21 [_, _, _, _] [] _ _
    refine am_iinc dX8_sumOfBoards_21 rfl (am_ix _) ?_
    change am_At _ _ _ 24 [_, _, _, _] [] _ _
    refine am_goto (-20) 4 dX8_sumOfBoards_24 rfl ?_
    cases hyp
    exact hx
theorem ef_X8_sumOfBoards_40 {d : Nat} {h : am_H} (g : lay h) {x1 : Int32} {M : Mem} {v : Int32} (hyp : f_X8_sumOfBoards 40 x1 M = some v) : am_Ev (d + 0) mX8_sumOfBoards [.inr (39, 0), am_I x1] (am_hM h M) (.inl (some (am_I v), am_hM h M)) := by
  unfold f_X8_sumOfBoards at hyp
  refine am_Ev.mk (by decide +kernel) rfl rfl (Nat.le_refl _) (Nat.le_refl _) ?_
  change am_At _ _ _ 0 [_, _, _, _] [] _ _
  refine am_iconst 0 (v := 0) dX8_sumOfBoards_0 (by decide) ?_
  refine am_istore_n dX8_sumOfBoards_1 (am_lb rfl) ?_
  change am_At _ _ _ 2 [_, _, _, _] [] _ _
  refine am_iconst 0 (v := 0) dX8_sumOfBoards_2 (by decide) ?_
  refine am_istore_n dX8_sumOfBoards_3 (am_lb rfl) ?_
  change am_At _ _ _ 4 [_, _, _, _] [] _ _
  obtain ⟨x2_3, hw3, hyp⟩ := bd_some hyp
  try dsimp only at hyp
  refine eL_X8_sumOfBoards_4_40 (d := d) (h := h) g (M := M) FU ((0 : Int32), (0 : Int32)) x2_3 hw3 ?_
  change am_At _ _ _ 27 [_, _, _, _] [] _ _
  refine am_iload_n dX8_sumOfBoards_27 rfl ?_
  cases hyp
  exact am_iret dX8_sumOfBoards_28 rfl
theorem ef_X8_throughHour_30 {d : Nat} {h : am_H} (g : lay h) {x1 : Int32} {M : Mem} {v : Int32} (hyp : f_X8_throughHour 30 x1 M = some v) : am_Ev (d + 0) mX8_throughHour [.inr (29, 0), am_I x1] (am_hM h M) (.inl (some (am_I v), am_hM h M)) := by
  unfold f_X8_throughHour at hyp
  refine am_Ev.mk (by decide +kernel) rfl rfl (Nat.le_refl _) (Nat.le_refl _) ?_
  change am_At _ _ _ 0 [_, _] [] _ _
  refine am_aload_n dX8_throughHour_0 rfl ?_
  refine am_getR 8 0 30 dX8_throughHour_1 fg_X8_11 (sh_29 g) (by decide) rfl (rf_29_0 g) ?_
  refine am_bipush 43 (v := 43) dX8_throughHour_4 (by decide) ?_
  refine am_iload_n dX8_throughHour_6 rfl ?_
  refine am_iadd dX8_throughHour_7 ?_
  obtain ⟨hg1, hyp⟩ := gd_some hyp
  refine am_iald dX8_throughHour_8 (am_ia.one (sh_30 g)) (am_lit hg1) ?_
  cases hyp
  exact am_iret dX8_throughHour_9 rfl
theorem ef_X8_throughHour_40 {d : Nat} {h : am_H} (g : lay h) {x1 : Int32} {M : Mem} {v : Int32} (hyp : f_X8_throughHour 40 x1 M = some v) : am_Ev (d + 0) mX8_throughHour [.inr (39, 0), am_I x1] (am_hM h M) (.inl (some (am_I v), am_hM h M)) := by
  unfold f_X8_throughHour at hyp
  refine am_Ev.mk (by decide +kernel) rfl rfl (Nat.le_refl _) (Nat.le_refl _) ?_
  change am_At _ _ _ 0 [_, _] [] _ _
  refine am_aload_n dX8_throughHour_0 rfl ?_
  refine am_getR 8 0 40 dX8_throughHour_1 fg_X8_11 (sh_39 g) (by decide) rfl (rf_39_0 g) ?_
  refine am_bipush 43 (v := 43) dX8_throughHour_4 (by decide) ?_
  refine am_iload_n dX8_throughHour_6 rfl ?_
  refine am_iadd dX8_throughHour_7 ?_
  obtain ⟨hg1, hyp⟩ := gd_some hyp
  refine am_iald dX8_throughHour_8 (am_ia.one (sh_40 g)) (am_lit hg1) ?_
  cases hyp
  exact am_iret dX8_throughHour_9 rfl
theorem ef_X8_whereIs_30 {d : Nat} {h : am_H} (g : lay h) {x1 : Int32} {M : Mem} {v : Int32} (hyp : f_X8_whereIs 30 x1 M = some v) : am_Ev (d + 0) mX8_whereIs [.inr (29, 0), am_I x1] (am_hM h M) (.inl (some (am_I v), am_hM h M)) := by
  unfold f_X8_whereIs at hyp
  refine am_Ev.mk (by decide +kernel) rfl rfl (Nat.le_refl _) (Nat.le_refl _) ?_
  change am_At _ _ _ 0 [_, _] [] _ _
  refine am_aload_n dX8_whereIs_0 rfl ?_
  refine am_getR 8 0 30 dX8_whereIs_1 fg_X8_11 (sh_29 g) (by decide) rfl (rf_29_0 g) ?_
  refine am_bipush 35 (v := 35) dX8_whereIs_4 (by decide) ?_
  refine am_iload_n dX8_whereIs_6 rfl ?_
  refine am_iadd dX8_whereIs_7 ?_
  obtain ⟨hg1, hyp⟩ := gd_some hyp
  refine am_iald dX8_whereIs_8 (am_ia.one (sh_30 g)) (am_lit hg1) ?_
  cases hyp
  exact am_iret dX8_whereIs_9 rfl
theorem ef_X8_whereIs_40 {d : Nat} {h : am_H} (g : lay h) {x1 : Int32} {M : Mem} {v : Int32} (hyp : f_X8_whereIs 40 x1 M = some v) : am_Ev (d + 0) mX8_whereIs [.inr (39, 0), am_I x1] (am_hM h M) (.inl (some (am_I v), am_hM h M)) := by
  unfold f_X8_whereIs at hyp
  refine am_Ev.mk (by decide +kernel) rfl rfl (Nat.le_refl _) (Nat.le_refl _) ?_
  change am_At _ _ _ 0 [_, _] [] _ _
  refine am_aload_n dX8_whereIs_0 rfl ?_
  refine am_getR 8 0 40 dX8_whereIs_1 fg_X8_11 (sh_39 g) (by decide) rfl (rf_39_0 g) ?_
  refine am_bipush 35 (v := 35) dX8_whereIs_4 (by decide) ?_
  refine am_iload_n dX8_whereIs_6 rfl ?_
  refine am_iadd dX8_whereIs_7 ?_
  obtain ⟨hg1, hyp⟩ := gd_some hyp
  refine am_iald dX8_whereIs_8 (am_ia.one (sh_40 g)) (am_lit hg1) ?_
  cases hyp
  exact am_iret dX8_whereIs_9 rfl
theorem ef_X9_modeBy {d : Nat} {h : am_H} {x0 : Int32} {v : Int32} (hyp : f_X9_modeBy x0 = v) : am_Ev (d + 0) mX9_modeBy [am_I x0] h (.inl (some (am_I v), h)) := by
  unfold f_X9_modeBy at hyp
  refine am_Ev.mk (by decide +kernel) rfl rfl (Nat.le_refl _) (Nat.le_refl _) ?_
  change am_At _ _ _ 0 [_] [] _ _
  refine am_iload_n dX9_modeBy_0 rfl ?_
  refine am_if_ne (5) 6 dX9_modeBy_1 rfl ?_ ?_
  · intro hc1n
    have hc1n : ¬ (x0 = 0) := hc1n
    replace hyp := it_neg hc1n hyp
    refine am_iload_n dX9_modeBy_6 rfl ?_
    refine am_iconst 1 (v := 1) dX9_modeBy_7 (by decide) ?_
    refine am_icmp_ne (7) 15 dX9_modeBy_8 rfl ?_ ?_
    · intro hc2n
      have hc2n : ¬ (x0 = (1 : Int32)) := hc2n
      replace hyp := it_neg hc2n hyp
      refine am_iconst 0 (v := 0) dX9_modeBy_15 (by decide) ?_
      cases hyp
      exact am_iret dX9_modeBy_16 rfl
    · intro hc2
      have hc2 : x0 = (1 : Int32) := hc2
      replace hyp := it_pos hc2 hyp
      refine am_iconst 2 (v := 2) dX9_modeBy_11 (by decide) ?_
      refine am_goto (4) 16 dX9_modeBy_12 rfl ?_
      cases hyp
      exact am_iret dX9_modeBy_16 rfl
  · intro hc1
    have hc1 : x0 = 0 := hc1
    replace hyp := it_pos hc1 hyp
    refine am_iconst 1 (v := 1) dX9_modeBy_4 (by decide) ?_
    cases hyp
    exact am_iret dX9_modeBy_5 rfl
theorem eL_X12_copies_t_2 {d : Nat} {h : am_H} (g : lay h) {r : am_R} (n : Nat) : ∀ (s : Int32 × Mem) (e : Mem), wh (L_X12_copies_t_2) n s = some e → ((fun (M : Mem) => am_At am_X0 (d + 0) mX12_copies 20 [some (.inr (72, 0)), some (.inr (73, 0)), none] [] (am_hM h M) r) e) → (match s with | (x2, M) => am_At am_X0 (d + 0) mX12_copies 2 [some (.inr (72, 0)), some (.inr (73, 0)), some (am_I (x2))] [] (am_hM h M) r) := by
  refine am_wh (At := fun (s : Int32 × Mem) => match s with | (x2, M) => am_At am_X0 (d + 0) mX12_copies 2 [some (.inr (72, 0)), some (.inr (73, 0)), some (am_I (x2))] [] (am_hM h M) r) (Ex := fun (e : Mem) => (fun (M : Mem) => am_At am_X0 (d + 0) mX12_copies 20 [some (.inr (72, 0)), some (.inr (73, 0)), none] [] (am_hM h M) r) e) ?_ n
  rintro ⟨x2, M⟩ y hyp hx
  unfold L_X12_copies_t_2 at hyp
  try dsimp only at hyp
  change am_At _ _ _ 2 [_, _, _] [] _ _
  refine am_iload_n dX12_copies_2 rfl ?_
  refine am_bipush 66 (v := 66) dX12_copies_3 (by decide) ?_
  refine am_icmp_ge (15) 20 dX12_copies_5 rfl ?_ ?_
  · intro hc1
    have hc1 : (66 : Int32) ≤ x2 := hc1
    replace hyp := it_pos hc1 hyp
    cases hyp
    refine am_At.drop 2 ?_
    exact hx
  · intro hc1n
    have hc1n : ¬ ((66 : Int32) ≤ x2) := hc1n
    replace hyp := it_neg hc1n hyp
    refine am_aload_n dX12_copies_8 rfl ?_
    refine am_iload_n dX12_copies_9 rfl ?_
    refine am_aload_n dX12_copies_10 rfl ?_
    refine am_iload_n dX12_copies_11 rfl ?_
    obtain ⟨hg2, hyp⟩ := gd_some hyp
    refine am_iald dX12_copies_12 (am_ia.one (sh_72 g)) (am_lit hg2) ?_
    refine am_iast dX12_copies_13 (am_ia.one (sh_73 g)) (am_lit hg2) ?_
    refine am_iinc dX12_copies_14 rfl (am_ix _) ?_
    change am_At _ _ _ 17 [_, _, _] [] _ _
    refine am_goto (-15) 2 dX12_copies_17 rfl ?_
    cases hyp
    exact hx
theorem ef_X12_copies_t {d : Nat} {h : am_H} (g : lay h) {M : Mem} {M' : Mem} (hyp : f_X12_copies_t M = some M') : am_Ev (d + 0) mX12_copies [.inr (72, 0), .inr (73, 0)] (am_hM h M) (.inl (none, am_hM h M')) := by
  unfold f_X12_copies_t at hyp
  refine am_Ev.mk (by decide +kernel) rfl rfl (Nat.le_refl _) (Nat.le_refl _) ?_
  change am_At _ _ _ 0 [_, _, _] [] _ _
  refine am_iconst 0 (v := 0) dX12_copies_0 (by decide) ?_
  refine am_istore_n dX12_copies_1 (am_lb rfl) ?_
  change am_At _ _ _ 2 [_, _, _] [] _ _
  obtain ⟨M3, hw3, hyp⟩ := bd_some hyp
  try dsimp only at hyp
  refine eL_X12_copies_t_2 (d := d) (h := h) g  FU ((0 : Int32), M) M3 hw3 ?_
  change am_At _ _ _ 20 [_, _, _] [] _ _
  cases hyp
  exact am_vret dX12_copies_20 rfl
theorem eL_X12_copies_b_2 {d : Nat} {h : am_H} (g : lay h) {r1 : Nat} (hr1 : 0 < r1 ∧ r1 ≤ 16) {r : am_R} (n : Nat) : ∀ (s : Int32 × Mem) (e : Mem), wh (L_X12_copies_b_2 r1) n s = some e → ((fun (M : Mem) => am_At am_X0 (d + 0) mX12_copies 20 [some (.inr (72, 0)), some (.inr (75, r1)), none] [] (am_hM h M) r) e) → (match s with | (x2, M) => am_At am_X0 (d + 0) mX12_copies 2 [some (.inr (72, 0)), some (.inr (75, r1)), some (am_I (x2))] [] (am_hM h M) r) := by
  refine am_wh (At := fun (s : Int32 × Mem) => match s with | (x2, M) => am_At am_X0 (d + 0) mX12_copies 2 [some (.inr (72, 0)), some (.inr (75, r1)), some (am_I (x2))] [] (am_hM h M) r) (Ex := fun (e : Mem) => (fun (M : Mem) => am_At am_X0 (d + 0) mX12_copies 20 [some (.inr (72, 0)), some (.inr (75, r1)), none] [] (am_hM h M) r) e) ?_ n
  rintro ⟨x2, M⟩ y hyp hx
  unfold L_X12_copies_b_2 at hyp
  try dsimp only at hyp
  change am_At _ _ _ 2 [_, _, _] [] _ _
  refine am_iload_n dX12_copies_2 rfl ?_
  refine am_bipush 66 (v := 66) dX12_copies_3 (by decide) ?_
  refine am_icmp_ge (15) 20 dX12_copies_5 rfl ?_ ?_
  · intro hc1
    have hc1 : (66 : Int32) ≤ x2 := hc1
    replace hyp := it_pos hc1 hyp
    cases hyp
    refine am_At.drop 2 ?_
    exact hx
  · intro hc1n
    have hc1n : ¬ ((66 : Int32) ≤ x2) := hc1n
    replace hyp := it_neg hc1n hyp
    refine am_aload_n dX12_copies_8 rfl ?_
    refine am_iload_n dX12_copies_9 rfl ?_
    refine am_aload_n dX12_copies_10 rfl ?_
    refine am_iload_n dX12_copies_11 rfl ?_
    obtain ⟨hg2, hyp⟩ := gd_some hyp
    refine am_iald dX12_copies_12 (am_ia.one (sh_72 g)) (am_lit hg2) ?_
    refine am_iast dX12_copies_13 (am_ia.row (sh_75 g) (by omega) (by omega)) (am_lit hg2) ?_
    refine am_iinc dX12_copies_14 rfl (am_ix _) ?_
    change am_At _ _ _ 17 [_, _, _] [] _ _
    refine am_goto (-15) 2 dX12_copies_17 rfl ?_
    cases hyp
    exact hx
theorem ef_X12_copies_b {d : Nat} {h : am_H} (g : lay h) {r1 : Nat} (hr1 : 0 < r1 ∧ r1 ≤ 16) {M : Mem} {M' : Mem} (hyp : f_X12_copies_b r1 M = some M') : am_Ev (d + 0) mX12_copies [.inr (72, 0), .inr (75, r1)] (am_hM h M) (.inl (none, am_hM h M')) := by
  unfold f_X12_copies_b at hyp
  refine am_Ev.mk (by decide +kernel) rfl rfl (Nat.le_refl _) (Nat.le_refl _) ?_
  change am_At _ _ _ 0 [_, _, _] [] _ _
  refine am_iconst 0 (v := 0) dX12_copies_0 (by decide) ?_
  refine am_istore_n dX12_copies_1 (am_lb rfl) ?_
  change am_At _ _ _ 2 [_, _, _] [] _ _
  obtain ⟨M3, hw3, hyp⟩ := bd_some hyp
  try dsimp only at hyp
  refine eL_X12_copies_b_2 (d := d) (h := h) g hr1  FU ((0 : Int32), M) M3 hw3 ?_
  change am_At _ _ _ 20 [_, _, _] [] _ _
  cases hyp
  exact am_vret dX12_copies_20 rfl
theorem eL_X12_copies_r_2 {d : Nat} {h : am_H} (g : lay h) {r0 : Nat} (hr0 : 0 < r0 ∧ r0 ≤ 16) {r : am_R} (n : Nat) : ∀ (s : Int32 × Mem) (e : Mem), wh (L_X12_copies_r_2 r0) n s = some e → ((fun (M : Mem) => am_At am_X0 (d + 0) mX12_copies 20 [some (.inr (75, r0)), some (.inr (72, 0)), none] [] (am_hM h M) r) e) → (match s with | (x2, M) => am_At am_X0 (d + 0) mX12_copies 2 [some (.inr (75, r0)), some (.inr (72, 0)), some (am_I (x2))] [] (am_hM h M) r) := by
  refine am_wh (At := fun (s : Int32 × Mem) => match s with | (x2, M) => am_At am_X0 (d + 0) mX12_copies 2 [some (.inr (75, r0)), some (.inr (72, 0)), some (am_I (x2))] [] (am_hM h M) r) (Ex := fun (e : Mem) => (fun (M : Mem) => am_At am_X0 (d + 0) mX12_copies 20 [some (.inr (75, r0)), some (.inr (72, 0)), none] [] (am_hM h M) r) e) ?_ n
  rintro ⟨x2, M⟩ y hyp hx
  unfold L_X12_copies_r_2 at hyp
  try dsimp only at hyp
  change am_At _ _ _ 2 [_, _, _] [] _ _
  refine am_iload_n dX12_copies_2 rfl ?_
  refine am_bipush 66 (v := 66) dX12_copies_3 (by decide) ?_
  refine am_icmp_ge (15) 20 dX12_copies_5 rfl ?_ ?_
  · intro hc1
    have hc1 : (66 : Int32) ≤ x2 := hc1
    replace hyp := it_pos hc1 hyp
    cases hyp
    refine am_At.drop 2 ?_
    exact hx
  · intro hc1n
    have hc1n : ¬ ((66 : Int32) ≤ x2) := hc1n
    replace hyp := it_neg hc1n hyp
    refine am_aload_n dX12_copies_8 rfl ?_
    refine am_iload_n dX12_copies_9 rfl ?_
    refine am_aload_n dX12_copies_10 rfl ?_
    refine am_iload_n dX12_copies_11 rfl ?_
    obtain ⟨hg2, hyp⟩ := gd_some hyp
    refine am_iald dX12_copies_12 (am_ia.row (sh_75 g) (by omega) (by omega)) (am_lit hg2) ?_
    refine am_iast dX12_copies_13 (am_ia.one (sh_72 g)) (am_lit hg2) ?_
    refine am_iinc dX12_copies_14 rfl (am_ix _) ?_
    change am_At _ _ _ 17 [_, _, _] [] _ _
    refine am_goto (-15) 2 dX12_copies_17 rfl ?_
    cases hyp
    exact hx
theorem ef_X12_copies_r {d : Nat} {h : am_H} (g : lay h) {r0 : Nat} (hr0 : 0 < r0 ∧ r0 ≤ 16) {M : Mem} {M' : Mem} (hyp : f_X12_copies_r r0 M = some M') : am_Ev (d + 0) mX12_copies [.inr (75, r0), .inr (72, 0)] (am_hM h M) (.inl (none, am_hM h M')) := by
  unfold f_X12_copies_r at hyp
  refine am_Ev.mk (by decide +kernel) rfl rfl (Nat.le_refl _) (Nat.le_refl _) ?_
  change am_At _ _ _ 0 [_, _, _] [] _ _
  refine am_iconst 0 (v := 0) dX12_copies_0 (by decide) ?_
  refine am_istore_n dX12_copies_1 (am_lb rfl) ?_
  change am_At _ _ _ 2 [_, _, _] [] _ _
  obtain ⟨M3, hw3, hyp⟩ := bd_some hyp
  try dsimp only at hyp
  refine eL_X12_copies_r_2 (d := d) (h := h) g hr0  FU ((0 : Int32), M) M3 hw3 ?_
  change am_At _ _ _ 20 [_, _, _] [] _ _
  cases hyp
  exact am_vret dX12_copies_20 rfl
theorem eL_X12_lays_b_10 {d : Nat} {h : am_H} (g : lay h) {x2 x3 : Int32} {r : am_R} (n : Nat) : ∀ (s : Int32 × Mem) (e : Mem), wh (L_X12_lays_b_10 x3) n s = some e → ((fun (M : Mem) => am_At am_X0 (d + 0) mX12_lays 37 [some (.inr (59, 0)), some (.inr (60, 0)), some (am_I (x2)), some (am_I (x3)), none] [] (am_hM h M) r) e) → (match s with | (x4, M) => am_At am_X0 (d + 0) mX12_lays 10 [some (.inr (59, 0)), some (.inr (60, 0)), some (am_I (x2)), some (am_I (x3)), some (am_I (x4))] [] (am_hM h M) r) := by
  refine am_wh (At := fun (s : Int32 × Mem) => match s with | (x4, M) => am_At am_X0 (d + 0) mX12_lays 10 [some (.inr (59, 0)), some (.inr (60, 0)), some (am_I (x2)), some (am_I (x3)), some (am_I (x4))] [] (am_hM h M) r) (Ex := fun (e : Mem) => (fun (M : Mem) => am_At am_X0 (d + 0) mX12_lays 37 [some (.inr (59, 0)), some (.inr (60, 0)), some (am_I (x2)), some (am_I (x3)), none] [] (am_hM h M) r) e) ?_ n
  rintro ⟨x4, M⟩ y hyp hx
  unfold L_X12_lays_b_10 at hyp
  try dsimp only at hyp
  change am_At _ _ _ 10 [_, _, _, _, _] [] _ _
  refine am_iload dX12_lays_10 rfl ?_
  refine am_aload_n dX12_lays_12 rfl ?_
  refine am_iload_n dX12_lays_13 rfl ?_
  obtain ⟨hg2, hyp⟩ := gd_some hyp
  refine am_aald dX12_lays_14 (sh_60 g) (am_lit hg2) ?_
  refine am_alen dX12_lays_15 (am_ia.row (sh_60 g) (by omega) (am_vlt (am_lit hg2))) rfl ?_
  refine am_icmp_ge (21) 37 dX12_lays_16 rfl ?_ ?_
  · intro hc3
    have hc3 : (4 : Int32) ≤ x4 := hc3
    replace hyp := it_pos hc3 hyp
    cases hyp
    refine am_At.drop 4 ?_
    exact hx
  · intro hc3n
    have hc3n : ¬ ((4 : Int32) ≤ x4) := hc3n
    replace hyp := it_neg hc3n hyp
    refine am_aload_n dX12_lays_19 rfl ?_
    refine am_iload_n dX12_lays_20 rfl ?_
    refine am_aald dX12_lays_21 (sh_60 g) (am_lit hg2) ?_
    refine am_iload dX12_lays_22 rfl ?_
    refine am_aload_n dX12_lays_24 rfl ?_
    refine am_iload_n dX12_lays_25 rfl ?_
    refine am_aald dX12_lays_26 (sh_59 g) (am_lit hg2) ?_
    refine am_iload dX12_lays_27 rfl ?_
    obtain ⟨hg4, hyp⟩ := gd_some hyp
    refine am_iald dX12_lays_29 (am_ia.row (sh_59 g) (by omega) (am_vlt (am_lit hg2))) (am_lit hg4) ?_
    refine am_iast dX12_lays_30 (am_ia.row (sh_60 g) (by omega) (am_vlt (am_lit hg2))) (am_lit hg4) ?_
    refine am_iinc dX12_lays_31 rfl (am_ix _) ?_
    change am_At _ _ _ 34 [_, _, _, _, _] [] _ _
    refine am_goto (-24) 10 dX12_lays_34 rfl ?_
    cases hyp
    exact hx
theorem eL_X12_lays_b_2 {d : Nat} {h : am_H} (g : lay h) {x2 : Int32} {r : am_R} (n : Nat) : ∀ (s : Int32 × Mem) (e : Mem), wh (L_X12_lays_b_2 x2) n s = some e → ((fun (M : Mem) => am_At am_X0 (d + 0) mX12_lays 43 [some (.inr (59, 0)), some (.inr (60, 0)), some (am_I (x2)), none, none] [] (am_hM h M) r) e) → (match s with | (x3, M) => am_At am_X0 (d + 0) mX12_lays 2 [some (.inr (59, 0)), some (.inr (60, 0)), some (am_I (x2)), some (am_I (x3)), none] [] (am_hM h M) r) := by
  refine am_wh (At := fun (s : Int32 × Mem) => match s with | (x3, M) => am_At am_X0 (d + 0) mX12_lays 2 [some (.inr (59, 0)), some (.inr (60, 0)), some (am_I (x2)), some (am_I (x3)), none] [] (am_hM h M) r) (Ex := fun (e : Mem) => (fun (M : Mem) => am_At am_X0 (d + 0) mX12_lays 43 [some (.inr (59, 0)), some (.inr (60, 0)), some (am_I (x2)), none, none] [] (am_hM h M) r) e) ?_ n
  rintro ⟨x3, M⟩ y hyp hx
  unfold L_X12_lays_b_2 at hyp
  try dsimp only at hyp
  change am_At _ _ _ 2 [_, _, _, _, _] [] _ _
  refine am_iload_n dX12_lays_2 rfl ?_
  refine am_iload_n dX12_lays_3 rfl ?_
  refine am_icmp_ge (39) 43 dX12_lays_4 rfl ?_ ?_
  · intro hc1
    have hc1 : x2 ≤ x3 := hc1
    replace hyp := it_pos hc1 hyp
    cases hyp
    refine am_At.drop 3 ?_
    exact hx
  · intro hc1n
    have hc1n : ¬ (x2 ≤ x3) := hc1n
    replace hyp := it_neg hc1n hyp
    refine am_iconst 0 (v := 0) dX12_lays_7 (by decide) ?_
    refine am_istore dX12_lays_8 (am_lb rfl) ?_
    change am_At _ _ _ 10 [_, _, _, _, _] [] _ _
    obtain ⟨M5, hw5, hyp⟩ := bd_some hyp
    try dsimp only at hyp
    refine eL_X12_lays_b_10 (d := d) (h := h) g  FU ((0 : Int32), M) M5 hw5 ?_
    change am_At _ _ _ 37 [_, _, _, _, _] [] _ _
    refine am_iinc dX12_lays_37 rfl (am_ix _) ?_
    change am_At _ _ _ 40 [_, _, _, _, _] [] _ _
    refine am_goto (-38) 2 dX12_lays_40 rfl ?_
    cases hyp
    exact hx
theorem ef_X12_lays_b {d : Nat} {h : am_H} (g : lay h) {x2 : Int32} {M : Mem} {M' : Mem} (hyp : f_X12_lays_b x2 M = some M') : am_Ev (d + 0) mX12_lays [.inr (59, 0), .inr (60, 0), am_I x2] (am_hM h M) (.inl (none, am_hM h M')) := by
  unfold f_X12_lays_b at hyp
  refine am_Ev.mk (by decide +kernel) rfl rfl (Nat.le_refl _) (Nat.le_refl _) ?_
  change am_At _ _ _ 0 [_, _, _, _, _] [] _ _
  refine am_iconst 0 (v := 0) dX12_lays_0 (by decide) ?_
  refine am_istore_n dX12_lays_1 (am_lb rfl) ?_
  change am_At _ _ _ 2 [_, _, _, _, _] [] _ _
  obtain ⟨M6, hw6, hyp⟩ := bd_some hyp
  try dsimp only at hyp
  refine eL_X12_lays_b_2 (d := d) (h := h) g  FU ((0 : Int32), M) M6 hw6 ?_
  change am_At _ _ _ 43 [_, _, _, _, _] [] _ _
  cases hyp
  exact am_vret dX12_lays_43 rfl
theorem eL_X12_lays_g_10 {d : Nat} {h : am_H} (g : lay h) {x2 x3 : Int32} {r : am_R} (n : Nat) : ∀ (s : Int32 × Mem) (e : Mem), wh (L_X12_lays_g_10 x3) n s = some e → ((fun (M : Mem) => am_At am_X0 (d + 0) mX12_lays 37 [some (.inr (61, 0)), some (.inr (62, 0)), some (am_I (x2)), some (am_I (x3)), none] [] (am_hM h M) r) e) → (match s with | (x4, M) => am_At am_X0 (d + 0) mX12_lays 10 [some (.inr (61, 0)), some (.inr (62, 0)), some (am_I (x2)), some (am_I (x3)), some (am_I (x4))] [] (am_hM h M) r) := by
  refine am_wh (At := fun (s : Int32 × Mem) => match s with | (x4, M) => am_At am_X0 (d + 0) mX12_lays 10 [some (.inr (61, 0)), some (.inr (62, 0)), some (am_I (x2)), some (am_I (x3)), some (am_I (x4))] [] (am_hM h M) r) (Ex := fun (e : Mem) => (fun (M : Mem) => am_At am_X0 (d + 0) mX12_lays 37 [some (.inr (61, 0)), some (.inr (62, 0)), some (am_I (x2)), some (am_I (x3)), none] [] (am_hM h M) r) e) ?_ n
  rintro ⟨x4, M⟩ y hyp hx
  unfold L_X12_lays_g_10 at hyp
  try dsimp only at hyp
  change am_At _ _ _ 10 [_, _, _, _, _] [] _ _
  refine am_iload dX12_lays_10 rfl ?_
  refine am_aload_n dX12_lays_12 rfl ?_
  refine am_iload_n dX12_lays_13 rfl ?_
  obtain ⟨hg2, hyp⟩ := gd_some hyp
  refine am_aald dX12_lays_14 (sh_62 g) (am_lit hg2) ?_
  refine am_alen dX12_lays_15 (am_ia.row (sh_62 g) (by omega) (am_vlt (am_lit hg2))) rfl ?_
  refine am_icmp_ge (21) 37 dX12_lays_16 rfl ?_ ?_
  · intro hc3
    have hc3 : (2 : Int32) ≤ x4 := hc3
    replace hyp := it_pos hc3 hyp
    cases hyp
    refine am_At.drop 4 ?_
    exact hx
  · intro hc3n
    have hc3n : ¬ ((2 : Int32) ≤ x4) := hc3n
    replace hyp := it_neg hc3n hyp
    refine am_aload_n dX12_lays_19 rfl ?_
    refine am_iload_n dX12_lays_20 rfl ?_
    refine am_aald dX12_lays_21 (sh_62 g) (am_lit hg2) ?_
    refine am_iload dX12_lays_22 rfl ?_
    refine am_aload_n dX12_lays_24 rfl ?_
    refine am_iload_n dX12_lays_25 rfl ?_
    refine am_aald dX12_lays_26 (sh_61 g) (am_lit hg2) ?_
    refine am_iload dX12_lays_27 rfl ?_
    obtain ⟨hg4, hyp⟩ := gd_some hyp
    refine am_iald dX12_lays_29 (am_ia.row (sh_61 g) (by omega) (am_vlt (am_lit hg2))) (am_lit hg4) ?_
    refine am_iast dX12_lays_30 (am_ia.row (sh_62 g) (by omega) (am_vlt (am_lit hg2))) (am_lit hg4) ?_
    refine am_iinc dX12_lays_31 rfl (am_ix _) ?_
    change am_At _ _ _ 34 [_, _, _, _, _] [] _ _
    refine am_goto (-24) 10 dX12_lays_34 rfl ?_
    cases hyp
    exact hx
theorem eL_X12_lays_g_2 {d : Nat} {h : am_H} (g : lay h) {x2 : Int32} {r : am_R} (n : Nat) : ∀ (s : Int32 × Mem) (e : Mem), wh (L_X12_lays_g_2 x2) n s = some e → ((fun (M : Mem) => am_At am_X0 (d + 0) mX12_lays 43 [some (.inr (61, 0)), some (.inr (62, 0)), some (am_I (x2)), none, none] [] (am_hM h M) r) e) → (match s with | (x3, M) => am_At am_X0 (d + 0) mX12_lays 2 [some (.inr (61, 0)), some (.inr (62, 0)), some (am_I (x2)), some (am_I (x3)), none] [] (am_hM h M) r) := by
  refine am_wh (At := fun (s : Int32 × Mem) => match s with | (x3, M) => am_At am_X0 (d + 0) mX12_lays 2 [some (.inr (61, 0)), some (.inr (62, 0)), some (am_I (x2)), some (am_I (x3)), none] [] (am_hM h M) r) (Ex := fun (e : Mem) => (fun (M : Mem) => am_At am_X0 (d + 0) mX12_lays 43 [some (.inr (61, 0)), some (.inr (62, 0)), some (am_I (x2)), none, none] [] (am_hM h M) r) e) ?_ n
  rintro ⟨x3, M⟩ y hyp hx
  unfold L_X12_lays_g_2 at hyp
  try dsimp only at hyp
  change am_At _ _ _ 2 [_, _, _, _, _] [] _ _
  refine am_iload_n dX12_lays_2 rfl ?_
  refine am_iload_n dX12_lays_3 rfl ?_
  refine am_icmp_ge (39) 43 dX12_lays_4 rfl ?_ ?_
  · intro hc1
    have hc1 : x2 ≤ x3 := hc1
    replace hyp := it_pos hc1 hyp
    cases hyp
    refine am_At.drop 3 ?_
    exact hx
  · intro hc1n
    have hc1n : ¬ (x2 ≤ x3) := hc1n
    replace hyp := it_neg hc1n hyp
    refine am_iconst 0 (v := 0) dX12_lays_7 (by decide) ?_
    refine am_istore dX12_lays_8 (am_lb rfl) ?_
    change am_At _ _ _ 10 [_, _, _, _, _] [] _ _
    obtain ⟨M5, hw5, hyp⟩ := bd_some hyp
    try dsimp only at hyp
    refine eL_X12_lays_g_10 (d := d) (h := h) g  FU ((0 : Int32), M) M5 hw5 ?_
    change am_At _ _ _ 37 [_, _, _, _, _] [] _ _
    refine am_iinc dX12_lays_37 rfl (am_ix _) ?_
    change am_At _ _ _ 40 [_, _, _, _, _] [] _ _
    refine am_goto (-38) 2 dX12_lays_40 rfl ?_
    cases hyp
    exact hx
theorem ef_X12_lays_g {d : Nat} {h : am_H} (g : lay h) {x2 : Int32} {M : Mem} {M' : Mem} (hyp : f_X12_lays_g x2 M = some M') : am_Ev (d + 0) mX12_lays [.inr (61, 0), .inr (62, 0), am_I x2] (am_hM h M) (.inl (none, am_hM h M')) := by
  unfold f_X12_lays_g at hyp
  refine am_Ev.mk (by decide +kernel) rfl rfl (Nat.le_refl _) (Nat.le_refl _) ?_
  change am_At _ _ _ 0 [_, _, _, _, _] [] _ _
  refine am_iconst 0 (v := 0) dX12_lays_0 (by decide) ?_
  refine am_istore_n dX12_lays_1 (am_lb rfl) ?_
  change am_At _ _ _ 2 [_, _, _, _, _] [] _ _
  obtain ⟨M6, hw6, hyp⟩ := bd_some hyp
  try dsimp only at hyp
  refine eL_X12_lays_g_2 (d := d) (h := h) g  FU ((0 : Int32), M) M6 hw6 ?_
  change am_At _ _ _ 43 [_, _, _, _, _] [] _ _
  cases hyp
  exact am_vret dX12_lays_43 rfl
theorem eL_X12_lays_s_10 {d : Nat} {h : am_H} (g : lay h) {x2 x3 : Int32} {r : am_R} (n : Nat) : ∀ (s : Int32 × Mem) (e : Mem), wh (L_X12_lays_s_10 x3) n s = some e → ((fun (M : Mem) => am_At am_X0 (d + 0) mX12_lays 37 [some (.inr (63, 0)), some (.inr (64, 0)), some (am_I (x2)), some (am_I (x3)), none] [] (am_hM h M) r) e) → (match s with | (x4, M) => am_At am_X0 (d + 0) mX12_lays 10 [some (.inr (63, 0)), some (.inr (64, 0)), some (am_I (x2)), some (am_I (x3)), some (am_I (x4))] [] (am_hM h M) r) := by
  refine am_wh (At := fun (s : Int32 × Mem) => match s with | (x4, M) => am_At am_X0 (d + 0) mX12_lays 10 [some (.inr (63, 0)), some (.inr (64, 0)), some (am_I (x2)), some (am_I (x3)), some (am_I (x4))] [] (am_hM h M) r) (Ex := fun (e : Mem) => (fun (M : Mem) => am_At am_X0 (d + 0) mX12_lays 37 [some (.inr (63, 0)), some (.inr (64, 0)), some (am_I (x2)), some (am_I (x3)), none] [] (am_hM h M) r) e) ?_ n
  rintro ⟨x4, M⟩ y hyp hx
  unfold L_X12_lays_s_10 at hyp
  try dsimp only at hyp
  change am_At _ _ _ 10 [_, _, _, _, _] [] _ _
  refine am_iload dX12_lays_10 rfl ?_
  refine am_aload_n dX12_lays_12 rfl ?_
  refine am_iload_n dX12_lays_13 rfl ?_
  obtain ⟨hg2, hyp⟩ := gd_some hyp
  refine am_aald dX12_lays_14 (sh_64 g) (am_lit hg2) ?_
  refine am_alen dX12_lays_15 (am_ia.row (sh_64 g) (by omega) (am_vlt (am_lit hg2))) rfl ?_
  refine am_icmp_ge (21) 37 dX12_lays_16 rfl ?_ ?_
  · intro hc3
    have hc3 : (3 : Int32) ≤ x4 := hc3
    replace hyp := it_pos hc3 hyp
    cases hyp
    refine am_At.drop 4 ?_
    exact hx
  · intro hc3n
    have hc3n : ¬ ((3 : Int32) ≤ x4) := hc3n
    replace hyp := it_neg hc3n hyp
    refine am_aload_n dX12_lays_19 rfl ?_
    refine am_iload_n dX12_lays_20 rfl ?_
    refine am_aald dX12_lays_21 (sh_64 g) (am_lit hg2) ?_
    refine am_iload dX12_lays_22 rfl ?_
    refine am_aload_n dX12_lays_24 rfl ?_
    refine am_iload_n dX12_lays_25 rfl ?_
    refine am_aald dX12_lays_26 (sh_63 g) (am_lit hg2) ?_
    refine am_iload dX12_lays_27 rfl ?_
    obtain ⟨hg4, hyp⟩ := gd_some hyp
    refine am_iald dX12_lays_29 (am_ia.row (sh_63 g) (by omega) (am_vlt (am_lit hg2))) (am_lit hg4) ?_
    refine am_iast dX12_lays_30 (am_ia.row (sh_64 g) (by omega) (am_vlt (am_lit hg2))) (am_lit hg4) ?_
    refine am_iinc dX12_lays_31 rfl (am_ix _) ?_
    change am_At _ _ _ 34 [_, _, _, _, _] [] _ _
    refine am_goto (-24) 10 dX12_lays_34 rfl ?_
    cases hyp
    exact hx
theorem eL_X12_lays_s_2 {d : Nat} {h : am_H} (g : lay h) {x2 : Int32} {r : am_R} (n : Nat) : ∀ (s : Int32 × Mem) (e : Mem), wh (L_X12_lays_s_2 x2) n s = some e → ((fun (M : Mem) => am_At am_X0 (d + 0) mX12_lays 43 [some (.inr (63, 0)), some (.inr (64, 0)), some (am_I (x2)), none, none] [] (am_hM h M) r) e) → (match s with | (x3, M) => am_At am_X0 (d + 0) mX12_lays 2 [some (.inr (63, 0)), some (.inr (64, 0)), some (am_I (x2)), some (am_I (x3)), none] [] (am_hM h M) r) := by
  refine am_wh (At := fun (s : Int32 × Mem) => match s with | (x3, M) => am_At am_X0 (d + 0) mX12_lays 2 [some (.inr (63, 0)), some (.inr (64, 0)), some (am_I (x2)), some (am_I (x3)), none] [] (am_hM h M) r) (Ex := fun (e : Mem) => (fun (M : Mem) => am_At am_X0 (d + 0) mX12_lays 43 [some (.inr (63, 0)), some (.inr (64, 0)), some (am_I (x2)), none, none] [] (am_hM h M) r) e) ?_ n
  rintro ⟨x3, M⟩ y hyp hx
  unfold L_X12_lays_s_2 at hyp
  try dsimp only at hyp
  change am_At _ _ _ 2 [_, _, _, _, _] [] _ _
  refine am_iload_n dX12_lays_2 rfl ?_
  refine am_iload_n dX12_lays_3 rfl ?_
  refine am_icmp_ge (39) 43 dX12_lays_4 rfl ?_ ?_
  · intro hc1
    have hc1 : x2 ≤ x3 := hc1
    replace hyp := it_pos hc1 hyp
    cases hyp
    refine am_At.drop 3 ?_
    exact hx
  · intro hc1n
    have hc1n : ¬ (x2 ≤ x3) := hc1n
    replace hyp := it_neg hc1n hyp
    refine am_iconst 0 (v := 0) dX12_lays_7 (by decide) ?_
    refine am_istore dX12_lays_8 (am_lb rfl) ?_
    change am_At _ _ _ 10 [_, _, _, _, _] [] _ _
    obtain ⟨M5, hw5, hyp⟩ := bd_some hyp
    try dsimp only at hyp
    refine eL_X12_lays_s_10 (d := d) (h := h) g  FU ((0 : Int32), M) M5 hw5 ?_
    change am_At _ _ _ 37 [_, _, _, _, _] [] _ _
    refine am_iinc dX12_lays_37 rfl (am_ix _) ?_
    change am_At _ _ _ 40 [_, _, _, _, _] [] _ _
    refine am_goto (-38) 2 dX12_lays_40 rfl ?_
    cases hyp
    exact hx
theorem ef_X12_lays_s {d : Nat} {h : am_H} (g : lay h) {x2 : Int32} {M : Mem} {M' : Mem} (hyp : f_X12_lays_s x2 M = some M') : am_Ev (d + 0) mX12_lays [.inr (63, 0), .inr (64, 0), am_I x2] (am_hM h M) (.inl (none, am_hM h M')) := by
  unfold f_X12_lays_s at hyp
  refine am_Ev.mk (by decide +kernel) rfl rfl (Nat.le_refl _) (Nat.le_refl _) ?_
  change am_At _ _ _ 0 [_, _, _, _, _] [] _ _
  refine am_iconst 0 (v := 0) dX12_lays_0 (by decide) ?_
  refine am_istore_n dX12_lays_1 (am_lb rfl) ?_
  change am_At _ _ _ 2 [_, _, _, _, _] [] _ _
  obtain ⟨M6, hw6, hyp⟩ := bd_some hyp
  try dsimp only at hyp
  refine eL_X12_lays_s_2 (d := d) (h := h) g  FU ((0 : Int32), M) M6 hw6 ?_
  change am_At _ _ _ 43 [_, _, _, _, _] [] _ _
  cases hyp
  exact am_vret dX12_lays_43 rfl
theorem eL_X12_lays_l_10 {d : Nat} {h : am_H} (g : lay h) {x2 x3 : Int32} {r : am_R} (n : Nat) : ∀ (s : Int32 × Mem) (e : Mem), wh (L_X12_lays_l_10 x3) n s = some e → ((fun (M : Mem) => am_At am_X0 (d + 0) mX12_lays 37 [some (.inr (66, 0)), some (.inr (65, 0)), some (am_I (x2)), some (am_I (x3)), none] [] (am_hM h M) r) e) → (match s with | (x4, M) => am_At am_X0 (d + 0) mX12_lays 10 [some (.inr (66, 0)), some (.inr (65, 0)), some (am_I (x2)), some (am_I (x3)), some (am_I (x4))] [] (am_hM h M) r) := by
  refine am_wh (At := fun (s : Int32 × Mem) => match s with | (x4, M) => am_At am_X0 (d + 0) mX12_lays 10 [some (.inr (66, 0)), some (.inr (65, 0)), some (am_I (x2)), some (am_I (x3)), some (am_I (x4))] [] (am_hM h M) r) (Ex := fun (e : Mem) => (fun (M : Mem) => am_At am_X0 (d + 0) mX12_lays 37 [some (.inr (66, 0)), some (.inr (65, 0)), some (am_I (x2)), some (am_I (x3)), none] [] (am_hM h M) r) e) ?_ n
  rintro ⟨x4, M⟩ y hyp hx
  unfold L_X12_lays_l_10 at hyp
  try dsimp only at hyp
  change am_At _ _ _ 10 [_, _, _, _, _] [] _ _
  refine am_iload dX12_lays_10 rfl ?_
  refine am_aload_n dX12_lays_12 rfl ?_
  refine am_iload_n dX12_lays_13 rfl ?_
  obtain ⟨hg2, hyp⟩ := gd_some hyp
  refine am_aald dX12_lays_14 (sh_65 g) (am_lit hg2) ?_
  refine am_alen dX12_lays_15 (am_ia.row (sh_65 g) (by omega) (am_vlt (am_lit hg2))) rfl ?_
  refine am_icmp_ge (21) 37 dX12_lays_16 rfl ?_ ?_
  · intro hc3
    have hc3 : (2 : Int32) ≤ x4 := hc3
    replace hyp := it_pos hc3 hyp
    cases hyp
    refine am_At.drop 4 ?_
    exact hx
  · intro hc3n
    have hc3n : ¬ ((2 : Int32) ≤ x4) := hc3n
    replace hyp := it_neg hc3n hyp
    refine am_aload_n dX12_lays_19 rfl ?_
    refine am_iload_n dX12_lays_20 rfl ?_
    refine am_aald dX12_lays_21 (sh_65 g) (am_lit hg2) ?_
    refine am_iload dX12_lays_22 rfl ?_
    refine am_aload_n dX12_lays_24 rfl ?_
    refine am_iload_n dX12_lays_25 rfl ?_
    refine am_aald dX12_lays_26 (sh_66 g) (am_lit hg2) ?_
    refine am_iload dX12_lays_27 rfl ?_
    obtain ⟨hg4, hyp⟩ := gd_some hyp
    refine am_iald dX12_lays_29 (am_ia.row (sh_66 g) (by omega) (am_vlt (am_lit hg2))) (am_lit hg4) ?_
    refine am_iast dX12_lays_30 (am_ia.row (sh_65 g) (by omega) (am_vlt (am_lit hg2))) (am_lit hg4) ?_
    refine am_iinc dX12_lays_31 rfl (am_ix _) ?_
    change am_At _ _ _ 34 [_, _, _, _, _] [] _ _
    refine am_goto (-24) 10 dX12_lays_34 rfl ?_
    cases hyp
    exact hx
theorem eL_X12_lays_l_2 {d : Nat} {h : am_H} (g : lay h) {x2 : Int32} {r : am_R} (n : Nat) : ∀ (s : Int32 × Mem) (e : Mem), wh (L_X12_lays_l_2 x2) n s = some e → ((fun (M : Mem) => am_At am_X0 (d + 0) mX12_lays 43 [some (.inr (66, 0)), some (.inr (65, 0)), some (am_I (x2)), none, none] [] (am_hM h M) r) e) → (match s with | (x3, M) => am_At am_X0 (d + 0) mX12_lays 2 [some (.inr (66, 0)), some (.inr (65, 0)), some (am_I (x2)), some (am_I (x3)), none] [] (am_hM h M) r) := by
  refine am_wh (At := fun (s : Int32 × Mem) => match s with | (x3, M) => am_At am_X0 (d + 0) mX12_lays 2 [some (.inr (66, 0)), some (.inr (65, 0)), some (am_I (x2)), some (am_I (x3)), none] [] (am_hM h M) r) (Ex := fun (e : Mem) => (fun (M : Mem) => am_At am_X0 (d + 0) mX12_lays 43 [some (.inr (66, 0)), some (.inr (65, 0)), some (am_I (x2)), none, none] [] (am_hM h M) r) e) ?_ n
  rintro ⟨x3, M⟩ y hyp hx
  unfold L_X12_lays_l_2 at hyp
  try dsimp only at hyp
  change am_At _ _ _ 2 [_, _, _, _, _] [] _ _
  refine am_iload_n dX12_lays_2 rfl ?_
  refine am_iload_n dX12_lays_3 rfl ?_
  refine am_icmp_ge (39) 43 dX12_lays_4 rfl ?_ ?_
  · intro hc1
    have hc1 : x2 ≤ x3 := hc1
    replace hyp := it_pos hc1 hyp
    cases hyp
    refine am_At.drop 3 ?_
    exact hx
  · intro hc1n
    have hc1n : ¬ (x2 ≤ x3) := hc1n
    replace hyp := it_neg hc1n hyp
    refine am_iconst 0 (v := 0) dX12_lays_7 (by decide) ?_
    refine am_istore dX12_lays_8 (am_lb rfl) ?_
    change am_At _ _ _ 10 [_, _, _, _, _] [] _ _
    obtain ⟨M5, hw5, hyp⟩ := bd_some hyp
    try dsimp only at hyp
    refine eL_X12_lays_l_10 (d := d) (h := h) g  FU ((0 : Int32), M) M5 hw5 ?_
    change am_At _ _ _ 37 [_, _, _, _, _] [] _ _
    refine am_iinc dX12_lays_37 rfl (am_ix _) ?_
    change am_At _ _ _ 40 [_, _, _, _, _] [] _ _
    refine am_goto (-38) 2 dX12_lays_40 rfl ?_
    cases hyp
    exact hx
theorem ef_X12_lays_l {d : Nat} {h : am_H} (g : lay h) {x2 : Int32} {M : Mem} {M' : Mem} (hyp : f_X12_lays_l x2 M = some M') : am_Ev (d + 0) mX12_lays [.inr (66, 0), .inr (65, 0), am_I x2] (am_hM h M) (.inl (none, am_hM h M')) := by
  unfold f_X12_lays_l at hyp
  refine am_Ev.mk (by decide +kernel) rfl rfl (Nat.le_refl _) (Nat.le_refl _) ?_
  change am_At _ _ _ 0 [_, _, _, _, _] [] _ _
  refine am_iconst 0 (v := 0) dX12_lays_0 (by decide) ?_
  refine am_istore_n dX12_lays_1 (am_lb rfl) ?_
  change am_At _ _ _ 2 [_, _, _, _, _] [] _ _
  obtain ⟨M6, hw6, hyp⟩ := bd_some hyp
  try dsimp only at hyp
  refine eL_X12_lays_l_2 (d := d) (h := h) g  FU ((0 : Int32), M) M6 hw6 ?_
  change am_At _ _ _ 43 [_, _, _, _, _] [] _ _
  cases hyp
  exact am_vret dX12_lays_43 rfl
