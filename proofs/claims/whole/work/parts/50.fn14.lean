theorem ef_X11_trip_24 {d : Nat} {h : am_H} (g : lay h) (hW : h.2.2 23 0 = some 24 ∧ h.2.2 23 2 = some 25) {x1 x2 x3 : Int32} {M : Mem} {y : (Int32 ⊕ String) × Mem} (hyp : f_X11_trip 24 25 x1 x2 x3 M = some y) : am_Ev (d + 6) mX11_trip [.inr (0, 0), am_I x1, am_I x2, am_I x3] (am_hM h M) (am_o1 h y) := by
  unfold f_X11_trip at hyp
  refine am_Ev.mk (by decide +kernel) rfl rfl (am_oc1 h y) (am_os1 h y) ?_
  change am_At _ _ _ 0 [_, _, _, _] [] _ _
  refine am_aload_n dX11_trip_0 rfl ?_
  refine am_iload_n dX11_trip_1 rfl ?_
  obtain ⟨⟨y1, M1⟩, hk1, hyp⟩ := bd_some hyp
  rcases y1 with v1 | E1
  rotate_left
  · try dsimp only at hyp
    cases hyp
    exact am_callVX [_] dX11_trip_2 ml_X11_272 vm_X11_needMast (sh_0 g) rfl (fun _ => Nat.le_of_ble_eq_true rfl) (by omega) rfl (am_o0t (ef_X11_needMast (d := d + 4) (h := h) g hk1)) rfl
  try dsimp only at hyp
  refine am_callV [_] dX11_trip_2 ml_X11_272 vm_X11_needMast (sh_0 g) rfl (fun _ => Nat.le_of_ble_eq_true rfl) (by omega) rfl (am_o0v (ef_X11_needMast (d := d + 4) (h := h) g hk1)) rfl ?_
  change am_At _ _ _ 5 [_, _, _, _] [] _ _
  refine am_aload_n dX11_trip_5 rfl ?_
  refine am_iload_n dX11_trip_6 rfl ?_
  refine am_iconst 0 (v := 0) dX11_trip_7 (by decide) ?_
  refine am_bipush 48 (v := 48) dX11_trip_8 (by decide) ?_
  obtain ⟨⟨y2, M2⟩, hk2, hyp⟩ := bd_some hyp
  rcases y2 with v2 | E2
  rotate_left
  · try dsimp only at hyp
    cases hyp
    exact am_callVX [_, _, _] dX11_trip_10 ml_X11_178 vm_X11_needFit (sh_0 g) rfl (fun _ => Nat.le_of_ble_eq_true rfl) (by omega) rfl (am_o0t (ef_X11_needFit (d := d + 5) (h := h) g hk2)) rfl
  try dsimp only at hyp
  refine am_callV [_, _, _] dX11_trip_10 ml_X11_178 vm_X11_needFit (sh_0 g) rfl (fun _ => Nat.le_of_ble_eq_true rfl) (by omega) rfl (am_o0v (ef_X11_needFit (d := d + 5) (h := h) g hk2)) rfl ?_
  change am_At _ _ _ 13 [_, _, _, _] [] _ _
  refine am_aload_n dX11_trip_13 rfl ?_
  refine am_iload_n dX11_trip_14 rfl ?_
  refine am_iconst 0 (v := 0) dX11_trip_15 (by decide) ?_
  refine am_iconst 2 (v := 2) dX11_trip_16 (by decide) ?_
  obtain ⟨⟨y3, M3⟩, hk3, hyp⟩ := bd_some hyp
  rcases y3 with v3 | E3
  rotate_left
  · try dsimp only at hyp
    cases hyp
    exact am_callVX [_, _, _] dX11_trip_17 ml_X11_178 vm_X11_needFit (sh_0 g) rfl (fun _ => Nat.le_of_ble_eq_true rfl) (by omega) rfl (am_o0t (ef_X11_needFit (d := d + 5) (h := h) g hk3)) rfl
  try dsimp only at hyp
  refine am_callV [_, _, _] dX11_trip_17 ml_X11_178 vm_X11_needFit (sh_0 g) rfl (fun _ => Nat.le_of_ble_eq_true rfl) (by omega) rfl (am_o0v (ef_X11_needFit (d := d + 5) (h := h) g hk3)) rfl ?_
  change am_At _ _ _ 20 [_, _, _, _] [] _ _
  refine am_aload_n dX11_trip_20 rfl ?_
  refine am_getR 11 8 38 dX11_trip_21 fg_X11_68 (sh_0 g) (by decide) rfl (rf_0_8 g) ?_
  refine am_iload_n dX11_trip_24 rfl ?_
  refine am_iload_n dX11_trip_25 rfl ?_
  obtain ⟨M4, hk4, hyp⟩ := bd_some hyp
  try dsimp only at hyp
  refine am_callV [_, _] dX11_trip_26 ml_X11_284 vm_X6_sail (sh_38 g) rfl (fun _ => Nat.le_of_ble_eq_true rfl) (by omega) rfl (ef_X6_sail_24 (d := d + 0) (h := h) g hW hk4) rfl ?_
  change am_At _ _ _ 29 [_, _, _, _] [] _ _
  refine am_iload_n dX11_trip_29 rfl ?_
  refine am_if_ne (11) 41 dX11_trip_30 rfl ?_ ?_
  · intro hc5n
    have hc5n : ¬ (x3 = 0) := hc5n
    replace hyp := it_neg hc5n hyp
    refine am_iload_n dX11_trip_41 rfl ?_
    refine am_iconst 1 (v := 1) dX11_trip_42 (by decide) ?_
    refine am_icmp_ne (13) 56 dX11_trip_43 rfl ?_ ?_
    · intro hc6n
      have hc6n : ¬ (x3 = (1 : Int32)) := hc6n
      replace hyp := it_neg hc6n hyp
      refine am_aload_n dX11_trip_56 rfl ?_
      refine am_getR 11 8 38 dX11_trip_57 fg_X11_68 (sh_0 g) (by decide) rfl (rf_0_8 g) ?_
      obtain ⟨v7, hk7, hyp⟩ := bd_some hyp
      try dsimp only at hyp
      refine am_callV [] dX11_trip_60 ml_X11_293 vm_X6_mostKnockedAt (sh_38 g) rfl (fun _ => Nat.le_of_ble_eq_true rfl) (by omega) rfl (ef_X6_mostKnockedAt (d := d + 5) (h := h) g hk7) rfl ?_
      change am_At _ _ _ 63 [_, _, _, _] [_] _ _
      cases hyp
      exact am_iret dX11_trip_63 rfl
    · intro hc6
      have hc6 : x3 = (1 : Int32) := hc6
      replace hyp := it_pos hc6 hyp
      refine am_aload_n dX11_trip_46 rfl ?_
      refine am_getR 11 8 38 dX11_trip_47 fg_X11_68 (sh_0 g) (by decide) rfl (rf_0_8 g) ?_
      refine am_getI 6 8 dX11_trip_50 fg_X11_290 (sh_38 g) (by decide) rfl ?_
      refine am_goto (10) 63 dX11_trip_53 rfl ?_
      cases hyp
      exact am_iret dX11_trip_63 rfl
  · intro hc5
    have hc5 : x3 = 0 := hc5
    replace hyp := it_pos hc5 hyp
    refine am_aload_n dX11_trip_33 rfl ?_
    refine am_getR 11 8 38 dX11_trip_34 fg_X11_68 (sh_0 g) (by decide) rfl (rf_0_8 g) ?_
    refine am_getI 6 7 dX11_trip_37 fg_X11_287 (sh_38 g) (by decide) rfl ?_
    cases hyp
    exact am_iret dX11_trip_40 rfl
theorem ef_X11_trip_25 {d : Nat} {h : am_H} (g : lay h) (hW : h.2.2 23 0 = some 25 ∧ h.2.2 23 2 = some 24) {x1 x2 x3 : Int32} {M : Mem} {y : (Int32 ⊕ String) × Mem} (hyp : f_X11_trip 25 24 x1 x2 x3 M = some y) : am_Ev (d + 6) mX11_trip [.inr (0, 0), am_I x1, am_I x2, am_I x3] (am_hM h M) (am_o1 h y) := by
  unfold f_X11_trip at hyp
  refine am_Ev.mk (by decide +kernel) rfl rfl (am_oc1 h y) (am_os1 h y) ?_
  change am_At _ _ _ 0 [_, _, _, _] [] _ _
  refine am_aload_n dX11_trip_0 rfl ?_
  refine am_iload_n dX11_trip_1 rfl ?_
  obtain ⟨⟨y1, M1⟩, hk1, hyp⟩ := bd_some hyp
  rcases y1 with v1 | E1
  rotate_left
  · try dsimp only at hyp
    cases hyp
    exact am_callVX [_] dX11_trip_2 ml_X11_272 vm_X11_needMast (sh_0 g) rfl (fun _ => Nat.le_of_ble_eq_true rfl) (by omega) rfl (am_o0t (ef_X11_needMast (d := d + 4) (h := h) g hk1)) rfl
  try dsimp only at hyp
  refine am_callV [_] dX11_trip_2 ml_X11_272 vm_X11_needMast (sh_0 g) rfl (fun _ => Nat.le_of_ble_eq_true rfl) (by omega) rfl (am_o0v (ef_X11_needMast (d := d + 4) (h := h) g hk1)) rfl ?_
  change am_At _ _ _ 5 [_, _, _, _] [] _ _
  refine am_aload_n dX11_trip_5 rfl ?_
  refine am_iload_n dX11_trip_6 rfl ?_
  refine am_iconst 0 (v := 0) dX11_trip_7 (by decide) ?_
  refine am_bipush 48 (v := 48) dX11_trip_8 (by decide) ?_
  obtain ⟨⟨y2, M2⟩, hk2, hyp⟩ := bd_some hyp
  rcases y2 with v2 | E2
  rotate_left
  · try dsimp only at hyp
    cases hyp
    exact am_callVX [_, _, _] dX11_trip_10 ml_X11_178 vm_X11_needFit (sh_0 g) rfl (fun _ => Nat.le_of_ble_eq_true rfl) (by omega) rfl (am_o0t (ef_X11_needFit (d := d + 5) (h := h) g hk2)) rfl
  try dsimp only at hyp
  refine am_callV [_, _, _] dX11_trip_10 ml_X11_178 vm_X11_needFit (sh_0 g) rfl (fun _ => Nat.le_of_ble_eq_true rfl) (by omega) rfl (am_o0v (ef_X11_needFit (d := d + 5) (h := h) g hk2)) rfl ?_
  change am_At _ _ _ 13 [_, _, _, _] [] _ _
  refine am_aload_n dX11_trip_13 rfl ?_
  refine am_iload_n dX11_trip_14 rfl ?_
  refine am_iconst 0 (v := 0) dX11_trip_15 (by decide) ?_
  refine am_iconst 2 (v := 2) dX11_trip_16 (by decide) ?_
  obtain ⟨⟨y3, M3⟩, hk3, hyp⟩ := bd_some hyp
  rcases y3 with v3 | E3
  rotate_left
  · try dsimp only at hyp
    cases hyp
    exact am_callVX [_, _, _] dX11_trip_17 ml_X11_178 vm_X11_needFit (sh_0 g) rfl (fun _ => Nat.le_of_ble_eq_true rfl) (by omega) rfl (am_o0t (ef_X11_needFit (d := d + 5) (h := h) g hk3)) rfl
  try dsimp only at hyp
  refine am_callV [_, _, _] dX11_trip_17 ml_X11_178 vm_X11_needFit (sh_0 g) rfl (fun _ => Nat.le_of_ble_eq_true rfl) (by omega) rfl (am_o0v (ef_X11_needFit (d := d + 5) (h := h) g hk3)) rfl ?_
  change am_At _ _ _ 20 [_, _, _, _] [] _ _
  refine am_aload_n dX11_trip_20 rfl ?_
  refine am_getR 11 8 38 dX11_trip_21 fg_X11_68 (sh_0 g) (by decide) rfl (rf_0_8 g) ?_
  refine am_iload_n dX11_trip_24 rfl ?_
  refine am_iload_n dX11_trip_25 rfl ?_
  obtain ⟨M4, hk4, hyp⟩ := bd_some hyp
  try dsimp only at hyp
  refine am_callV [_, _] dX11_trip_26 ml_X11_284 vm_X6_sail (sh_38 g) rfl (fun _ => Nat.le_of_ble_eq_true rfl) (by omega) rfl (ef_X6_sail_25 (d := d + 0) (h := h) g hW hk4) rfl ?_
  change am_At _ _ _ 29 [_, _, _, _] [] _ _
  refine am_iload_n dX11_trip_29 rfl ?_
  refine am_if_ne (11) 41 dX11_trip_30 rfl ?_ ?_
  · intro hc5n
    have hc5n : ¬ (x3 = 0) := hc5n
    replace hyp := it_neg hc5n hyp
    refine am_iload_n dX11_trip_41 rfl ?_
    refine am_iconst 1 (v := 1) dX11_trip_42 (by decide) ?_
    refine am_icmp_ne (13) 56 dX11_trip_43 rfl ?_ ?_
    · intro hc6n
      have hc6n : ¬ (x3 = (1 : Int32)) := hc6n
      replace hyp := it_neg hc6n hyp
      refine am_aload_n dX11_trip_56 rfl ?_
      refine am_getR 11 8 38 dX11_trip_57 fg_X11_68 (sh_0 g) (by decide) rfl (rf_0_8 g) ?_
      obtain ⟨v7, hk7, hyp⟩ := bd_some hyp
      try dsimp only at hyp
      refine am_callV [] dX11_trip_60 ml_X11_293 vm_X6_mostKnockedAt (sh_38 g) rfl (fun _ => Nat.le_of_ble_eq_true rfl) (by omega) rfl (ef_X6_mostKnockedAt (d := d + 5) (h := h) g hk7) rfl ?_
      change am_At _ _ _ 63 [_, _, _, _] [_] _ _
      cases hyp
      exact am_iret dX11_trip_63 rfl
    · intro hc6
      have hc6 : x3 = (1 : Int32) := hc6
      replace hyp := it_pos hc6 hyp
      refine am_aload_n dX11_trip_46 rfl ?_
      refine am_getR 11 8 38 dX11_trip_47 fg_X11_68 (sh_0 g) (by decide) rfl (rf_0_8 g) ?_
      refine am_getI 6 8 dX11_trip_50 fg_X11_290 (sh_38 g) (by decide) rfl ?_
      refine am_goto (10) 63 dX11_trip_53 rfl ?_
      cases hyp
      exact am_iret dX11_trip_63 rfl
  · intro hc5
    have hc5 : x3 = 0 := hc5
    replace hyp := it_pos hc5 hyp
    refine am_aload_n dX11_trip_33 rfl ?_
    refine am_getR 11 8 38 dX11_trip_34 fg_X11_68 (sh_0 g) (by decide) rfl (rf_0_8 g) ?_
    refine am_getI 6 7 dX11_trip_37 fg_X11_287 (sh_38 g) (by decide) rfl ?_
    cases hyp
    exact am_iret dX11_trip_40 rfl
theorem ef_X11_undo {d : Nat} {h : am_H} (g : lay h) {M : Mem} {v : Int32} {M' : Mem} (hyp : f_X11_undo M = some (v, M')) : am_Ev (d + 2) mX11_undo [.inr (0, 0)] (am_hM h M) (.inl (some (am_I v), am_hM h M')) := by
  unfold f_X11_undo at hyp
  refine am_Ev.mk (by decide +kernel) rfl rfl (Nat.le_refl _) (Nat.le_refl _) ?_
  change am_At _ _ _ 0 [_] [] _ _
  refine am_aload_n dX11_undo_0 rfl ?_
  refine am_getR 11 6 31 dX11_undo_1 fg_X11_52 (sh_0 g) (by decide) rfl (rf_0_6 g) ?_
  refine am_getI 7 1 dX11_undo_4 fg_X11_172 (sh_31 g) (by decide) rfl ?_
  refine am_if_ne (5) 12 dX11_undo_7 rfl ?_ ?_
  · intro hc1n
    have hc1n : ¬ ((M 31 0 1) = 0) := hc1n
    replace hyp := it_neg hc1n hyp
    refine am_aload_n dX11_undo_12 rfl ?_
    refine am_getR 11 6 31 dX11_undo_13 fg_X11_52 (sh_0 g) (by decide) rfl (rf_0_6 g) ?_
    refine am_aload_n dX11_undo_16 rfl ?_
    refine am_getR 11 5 29 dX11_undo_17 fg_X11_45 (sh_0 g) (by decide) rfl (rf_0_5 g) ?_
    obtain ⟨M2, hk2, hyp⟩ := bd_some hyp
    try dsimp only at hyp
    refine am_callV [_] dX11_undo_20 ml_X11_175 vm_X7_bringBack (sh_31 g) rfl (fun _ => Nat.le_of_ble_eq_true rfl) (by omega) rfl (ef_X7_bringBack (d := d + 0) (h := h) g hk2) rfl ?_
    change am_At _ _ _ 23 [_] [] _ _
    refine am_aload_n dX11_undo_23 rfl ?_
    refine am_iconst 0 (v := 0) dX11_undo_24 (by decide) ?_
    refine am_putI 11 12 dX11_undo_25 (Or.inl fp_X11_135) (sh_0 g) (by decide) rfl rfl rfl ?_
    refine am_aload_n dX11_undo_28 rfl ?_
    refine am_getR 11 8 38 dX11_undo_29 fg_X11_68 (sh_0 g) (by decide) rfl (rf_0_8 g) ?_
    refine am_callV [] dX11_undo_32 ml_X11_139 vm_X6_forget (sh_38 g) rfl (fun _ => Nat.le_of_ble_eq_true rfl) (by omega) rfl (ef_X6_forget (d := d + 1) (h := h) g  (M := (am_u3 M2 0 0 12 (0 : Int32))) rfl) rfl ?_
    change am_At _ _ _ 35 [_] [] _ _
    refine am_aload_n dX11_undo_35 rfl ?_
    refine am_getR 11 6 31 dX11_undo_36 fg_X11_52 (sh_0 g) (by decide) rfl (rf_0_6 g) ?_
    refine am_getI 7 1 dX11_undo_39 fg_X11_172 (sh_31 g) (by decide) rfl ?_
    cases hyp
    exact am_iret dX11_undo_42 rfl
  · intro hc1
    have hc1 : (M 31 0 1) = 0 := hc1
    replace hyp := it_pos hc1 hyp
    refine am_iconst (-1) (v := (-1)) dX11_undo_10 (by decide) ?_
    cases hyp
    exact am_iret dX11_undo_11 rfl
theorem eL_X11_walk_77_24 {d : Nat} {h : am_H} (g : lay h) (hW : h.2.2 23 0 = some 24 ∧ h.2.2 23 2 = some 25) {x1 x4 x5 x6 : Int32} {M : Mem} {r : am_R} (n : Nat) : ∀ (s : Int32 × Int32 × Int32) (e : Int32), wh (L_X11_walk_77 24 25 x1 x4 x5 x6) n s = some e → ((fun (x8 : Int32) => am_At am_X0 (d + 6) mX11_walk 158 [some (.inr (0, 0)), some (am_I (x1)), none, none, some (am_I (x4)), some (am_I (x5)), some (am_I (x6)), none, some (am_I (x8)), none, none] [] (am_hM h M) r) e) → (match s with | (x7, x8, x9) => am_At am_X0 (d + 6) mX11_walk 77 [some (.inr (0, 0)), some (am_I (x1)), none, none, some (am_I (x4)), some (am_I (x5)), some (am_I (x6)), some (am_I (x7)), some (am_I (x8)), some (am_I (x9)), none] [] (am_hM h M) r) := by
  refine am_wh (At := fun (s : Int32 × Int32 × Int32) => match s with | (x7, x8, x9) => am_At am_X0 (d + 6) mX11_walk 77 [some (.inr (0, 0)), some (am_I (x1)), none, none, some (am_I (x4)), some (am_I (x5)), some (am_I (x6)), some (am_I (x7)), some (am_I (x8)), some (am_I (x9)), none] [] (am_hM h M) r) (Ex := fun (e : Int32) => (fun (x8 : Int32) => am_At am_X0 (d + 6) mX11_walk 158 [some (.inr (0, 0)), some (am_I (x1)), none, none, some (am_I (x4)), some (am_I (x5)), some (am_I (x6)), none, some (am_I (x8)), none, none] [] (am_hM h M) r) e) ?_ n
  rintro ⟨x7, x8, x9⟩ y hyp hx
  unfold L_X11_walk_77 at hyp
  try dsimp only at hyp
  change am_At _ _ _ 77 [_, _, _, _, _, _, _, _, _, _, _] [] _ _
  refine am_iload dX11_walk_77 rfl ?_
  refine am_iload dX11_walk_79 rfl ?_
  refine am_icmp_gt (77) 158 dX11_walk_81 rfl ?_ ?_
  · intro hc8
    have hc8 : x6 < x9 := hc8
    replace hyp := it_pos hc8 hyp
    cases hyp
    refine am_At.drop 7 ?_
    refine am_At.drop 9 ?_
    exact hx
  · intro hc8n
    have hc8n : ¬ (x6 < x9) := hc8n
    replace hyp := it_neg hc8n hyp
    refine am_iconst (-1) (v := (-1)) dX11_walk_84 (by decide) ?_
    refine am_istore dX11_walk_85 (am_lb rfl) ?_
    change am_At _ _ _ 87 [_, _, _, _, _, _, _, _, _, _, _] [] _ _
    refine am_iload dX11_walk_87 rfl ?_
    refine am_iload_n dX11_walk_89 rfl ?_
    refine am_iload dX11_walk_90 rfl ?_
    refine am_iload dX11_walk_92 rfl ?_
    refine am_imul dX11_walk_94 ?_
    refine am_iadd dX11_walk_95 ?_
    refine am_callS (c := 0) (k := 0) (n := 0) (w := 0) [_, _] dX11_walk_96 ml_X11_281 sm_X11_isBitOf rfl (fun _ => Nat.le_of_ble_eq_true rfl) (by omega) rfl (ef_X11_isBitOf (d := d + 5) (h := am_hM h M) (x0 := x4) (x1 := (x1 + (x5 * x9)))  rfl) rfl ?_
    change am_At _ _ _ 99 [_, _, _, _, _, _, _, _, _, _, _] [_] _ _
    refine am_if_eq (45) 144 dX11_walk_99 rfl ?_ ?_
    · intro hc9
      have hc9 : (f_X11_isBitOf x4 (x1 + (x5 * x9))) = 0 := hc9
      replace hyp := it_pos hc9 hyp
      refine am_iload dX11_walk_144 rfl ?_
      refine am_istore dX11_walk_146 (am_lb rfl) ?_
      change am_At _ _ _ 148 [_, _, _, _, _, _, _, _, _, _, _] [] _ _
      refine am_iload dX11_walk_148 rfl ?_
      refine am_istore dX11_walk_150 (am_lb rfl) ?_
      change am_At _ _ _ 152 [_, _, _, _, _, _, _, _, _, _, _] [] _ _
      refine am_iinc dX11_walk_152 rfl (am_ix _) ?_
      change am_At _ _ _ 155 [_, _, _, _, _, _, _, _, _, _, _] [] _ _
      refine am_goto (-78) 77 dX11_walk_155 rfl ?_
      cases hyp
      refine am_At.drop 10 ?_
      exact hx
    · intro hc9n
      have hc9n : ¬ ((f_X11_isBitOf x4 (x1 + (x5 * x9))) = 0) := hc9n
      replace hyp := it_neg hc9n hyp
      refine am_iload dX11_walk_102 rfl ?_
      refine am_iconst (-1) (v := (-1)) dX11_walk_104 (by decide) ?_
      refine am_icmp_ne (9) 114 dX11_walk_105 rfl ?_ ?_
      · intro hc10n
        have hc10n : ¬ (x8 = (-1 : Int32)) := hc10n
        replace hyp := it_neg hc10n hyp
        refine am_iconst 1 (v := 1) dX11_walk_114 (by decide) ?_
        refine am_iload dX11_walk_115 rfl ?_
        refine am_iconst (-1) (v := (-1)) dX11_walk_117 (by decide) ?_
        refine am_icmp_eq (21) 139 dX11_walk_118 rfl ?_ ?_
        · intro hc11
          have hc11 : x7 = (-1 : Int32) := hc11
          replace hyp := it_pos hc11 hyp
          refine am_iload dX11_walk_139 rfl ?_
          refine am_iadd dX11_walk_141 ?_
          refine am_istore dX11_walk_142 (am_lb rfl) ?_
          change am_At _ _ _ 144 [_, _, _, _, _, _, _, _, _, _, _] [] _ _
          refine am_iload dX11_walk_144 rfl ?_
          refine am_istore dX11_walk_146 (am_lb rfl) ?_
          change am_At _ _ _ 148 [_, _, _, _, _, _, _, _, _, _, _] [] _ _
          refine am_iload dX11_walk_148 rfl ?_
          refine am_istore dX11_walk_150 (am_lb rfl) ?_
          change am_At _ _ _ 152 [_, _, _, _, _, _, _, _, _, _, _] [] _ _
          refine am_iinc dX11_walk_152 rfl (am_ix _) ?_
          change am_At _ _ _ 155 [_, _, _, _, _, _, _, _, _, _, _] [] _ _
          refine am_goto (-78) 77 dX11_walk_155 rfl ?_
          cases hyp
          refine am_At.drop 10 ?_
          exact hx
        · intro hc11n
          have hc11n : ¬ (x7 = (-1 : Int32)) := hc11n
          replace hyp := it_neg hc11n hyp
          refine am_iload dX11_walk_121 rfl ?_
          refine am_iconst (-1) (v := (-1)) dX11_walk_123 (by decide) ?_
          refine am_icmp_eqF (10) 134 dX11_walk_124 rfl hc10n ?_
          refine am_iload dX11_walk_127 rfl ?_
          refine am_iload dX11_walk_129 rfl ?_
          refine am_icmp_ge (8) 139 dX11_walk_131 rfl ?_ ?_
          · intro hc12
            have hc12 : x8 ≤ x7 := hc12
            replace hyp := it_pos hc12 hyp
            refine am_iload dX11_walk_139 rfl ?_
            refine am_iadd dX11_walk_141 ?_
            refine am_istore dX11_walk_142 (am_lb rfl) ?_
            change am_At _ _ _ 144 [_, _, _, _, _, _, _, _, _, _, _] [] _ _
            refine am_iload dX11_walk_144 rfl ?_
            refine am_istore dX11_walk_146 (am_lb rfl) ?_
            change am_At _ _ _ 148 [_, _, _, _, _, _, _, _, _, _, _] [] _ _
            refine am_iload dX11_walk_148 rfl ?_
            refine am_istore dX11_walk_150 (am_lb rfl) ?_
            change am_At _ _ _ 152 [_, _, _, _, _, _, _, _, _, _, _] [] _ _
            refine am_iinc dX11_walk_152 rfl (am_ix _) ?_
            change am_At _ _ _ 155 [_, _, _, _, _, _, _, _, _, _, _] [] _ _
            refine am_goto (-78) 77 dX11_walk_155 rfl ?_
            cases hyp
            refine am_At.drop 10 ?_
            exact hx
          · intro hc12n
            have hc12n : ¬ (x8 ≤ x7) := hc12n
            replace hyp := it_neg hc12n hyp
            refine am_iload dX11_walk_134 rfl ?_
            refine am_goto (5) 141 dX11_walk_136 rfl ?_
            refine am_iadd dX11_walk_141 ?_
            refine am_istore dX11_walk_142 (am_lb rfl) ?_
            change am_At _ _ _ 144 [_, _, _, _, _, _, _, _, _, _, _] [] _ _
            refine am_iload dX11_walk_144 rfl ?_
            refine am_istore dX11_walk_146 (am_lb rfl) ?_
            change am_At _ _ _ 148 [_, _, _, _, _, _, _, _, _, _, _] [] _ _
            refine am_iload dX11_walk_148 rfl ?_
            refine am_istore dX11_walk_150 (am_lb rfl) ?_
            change am_At _ _ _ 152 [_, _, _, _, _, _, _, _, _, _, _] [] _ _
            refine am_iinc dX11_walk_152 rfl (am_ix _) ?_
            change am_At _ _ _ 155 [_, _, _, _, _, _, _, _, _, _, _] [] _ _
            refine am_goto (-78) 77 dX11_walk_155 rfl ?_
            cases hyp
            refine am_At.drop 10 ?_
            exact hx
      · intro hc10
        have hc10 : x8 = (-1 : Int32) := hc10
        replace hyp := it_pos hc10 hyp
        refine am_iload dX11_walk_108 rfl ?_
        refine am_iconst (-1) (v := (-1)) dX11_walk_110 (by decide) ?_
        refine am_icmp_eq (33) 144 dX11_walk_111 rfl ?_ ?_
        · intro hc13
          have hc13 : x7 = (-1 : Int32) := hc13
          replace hyp := it_pos hc13 hyp
          refine am_iload dX11_walk_144 rfl ?_
          refine am_istore dX11_walk_146 (am_lb rfl) ?_
          change am_At _ _ _ 148 [_, _, _, _, _, _, _, _, _, _, _] [] _ _
          refine am_iload dX11_walk_148 rfl ?_
          refine am_istore dX11_walk_150 (am_lb rfl) ?_
          change am_At _ _ _ 152 [_, _, _, _, _, _, _, _, _, _, _] [] _ _
          refine am_iinc dX11_walk_152 rfl (am_ix _) ?_
          change am_At _ _ _ 155 [_, _, _, _, _, _, _, _, _, _, _] [] _ _
          refine am_goto (-78) 77 dX11_walk_155 rfl ?_
          cases hyp
          refine am_At.drop 10 ?_
          exact hx
        · intro hc13n
          have hc13n : ¬ (x7 = (-1 : Int32)) := hc13n
          replace hyp := it_neg hc13n hyp
          refine am_iconst 1 (v := 1) dX11_walk_114 (by decide) ?_
          refine am_iload dX11_walk_115 rfl ?_
          refine am_iconst (-1) (v := (-1)) dX11_walk_117 (by decide) ?_
          refine am_icmp_eqF (21) 139 dX11_walk_118 rfl hc13n ?_
          refine am_iload dX11_walk_121 rfl ?_
          refine am_iconst (-1) (v := (-1)) dX11_walk_123 (by decide) ?_
          refine am_icmp_eqT (10) 134 dX11_walk_124 rfl hc10 ?_
          refine am_iload dX11_walk_134 rfl ?_
          refine am_goto (5) 141 dX11_walk_136 rfl ?_
          refine am_iadd dX11_walk_141 ?_
          refine am_istore dX11_walk_142 (am_lb rfl) ?_
          change am_At _ _ _ 144 [_, _, _, _, _, _, _, _, _, _, _] [] _ _
          refine am_iload dX11_walk_144 rfl ?_
          refine am_istore dX11_walk_146 (am_lb rfl) ?_
          change am_At _ _ _ 148 [_, _, _, _, _, _, _, _, _, _, _] [] _ _
          refine am_iload dX11_walk_148 rfl ?_
          refine am_istore dX11_walk_150 (am_lb rfl) ?_
          change am_At _ _ _ 152 [_, _, _, _, _, _, _, _, _, _, _] [] _ _
          refine am_iinc dX11_walk_152 rfl (am_ix _) ?_
          change am_At _ _ _ 155 [_, _, _, _, _, _, _, _, _, _, _] [] _ _
          refine am_goto (-78) 77 dX11_walk_155 rfl ?_
          cases hyp
          refine am_At.drop 10 ?_
          exact hx
theorem ef_X11_walk_24 {d : Nat} {h : am_H} (g : lay h) (hW : h.2.2 23 0 = some 24 ∧ h.2.2 23 2 = some 25) {x1 x2 x3 : Int32} {M : Mem} {y : (Int32 ⊕ String) × Mem} (hyp : f_X11_walk 24 25 x1 x2 x3 M = some y) : am_Ev (d + 6) mX11_walk [.inr (0, 0), am_I x1, am_I x2, am_I x3] (am_hM h M) (am_o1 h y) := by
  unfold f_X11_walk at hyp
  refine am_Ev.mk (by decide +kernel) rfl rfl (am_oc1 h y) (am_os1 h y) ?_
  change am_At _ _ _ 0 [_, _, _, _, _, _, _, _, _, _, _] [] _ _
  refine am_aload_n dX11_walk_0 rfl ?_
  refine am_iload_n dX11_walk_1 rfl ?_
  obtain ⟨⟨y1, M1⟩, hk1, hyp⟩ := bd_some hyp
  rcases y1 with v1 | E1
  rotate_left
  · try dsimp only at hyp
    cases hyp
    exact am_callVX [_] dX11_walk_2 ml_X11_209 vm_X11_needBoard (sh_0 g) rfl (fun _ => Nat.le_of_ble_eq_true rfl) (by omega) rfl (am_o0t (ef_X11_needBoard (d := d + 4) (h := h) g hk1)) rfl
  try dsimp only at hyp
  refine am_callV [_] dX11_walk_2 ml_X11_209 vm_X11_needBoard (sh_0 g) rfl (fun _ => Nat.le_of_ble_eq_true rfl) (by omega) rfl (am_o0v (ef_X11_needBoard (d := d + 4) (h := h) g hk1)) rfl ?_
  change am_At _ _ _ 5 [_, _, _, _, _, _, _, _, _, _, _] [] _ _
  refine am_aload_n dX11_walk_5 rfl ?_
  refine am_iload_n dX11_walk_6 rfl ?_
  obtain ⟨⟨y2, M2⟩, hk2, hyp⟩ := bd_some hyp
  rcases y2 with v2 | E2
  rotate_left
  · try dsimp only at hyp
    cases hyp
    exact am_callVX [_] dX11_walk_7 ml_X11_209 vm_X11_needBoard (sh_0 g) rfl (fun _ => Nat.le_of_ble_eq_true rfl) (by omega) rfl (am_o0t (ef_X11_needBoard (d := d + 4) (h := h) g hk2)) rfl
  try dsimp only at hyp
  refine am_callV [_] dX11_walk_7 ml_X11_209 vm_X11_needBoard (sh_0 g) rfl (fun _ => Nat.le_of_ble_eq_true rfl) (by omega) rfl (am_o0v (ef_X11_needBoard (d := d + 4) (h := h) g hk2)) rfl ?_
  change am_At _ _ _ 10 [_, _, _, _, _, _, _, _, _, _, _] [] _ _
  refine am_aload_n dX11_walk_10 rfl ?_
  refine am_iload_n dX11_walk_11 rfl ?_
  refine am_iconst 0 (v := 0) dX11_walk_12 (by decide) ?_
  refine am_bipush 20 (v := 20) dX11_walk_13 (by decide) ?_
  obtain ⟨⟨y3, M3⟩, hk3, hyp⟩ := bd_some hyp
  rcases y3 with v3 | E3
  rotate_left
  · try dsimp only at hyp
    cases hyp
    exact am_callVX [_, _, _] dX11_walk_15 ml_X11_178 vm_X11_needFit (sh_0 g) rfl (fun _ => Nat.le_of_ble_eq_true rfl) (by omega) rfl (am_o0t (ef_X11_needFit (d := d + 5) (h := h) g hk3)) rfl
  try dsimp only at hyp
  refine am_callV [_, _, _] dX11_walk_15 ml_X11_178 vm_X11_needFit (sh_0 g) rfl (fun _ => Nat.le_of_ble_eq_true rfl) (by omega) rfl (am_o0v (ef_X11_needFit (d := d + 5) (h := h) g hk3)) rfl ?_
  change am_At _ _ _ 18 [_, _, _, _, _, _, _, _, _, _, _] [] _ _
  refine am_aload_n dX11_walk_18 rfl ?_
  refine am_getR 11 1 3 dX11_walk_19 fg_X11_19 (sh_0 g) (by decide) rfl (rf_0_1 g) ?_
  refine am_iload_n dX11_walk_22 rfl ?_
  obtain ⟨v4, hk4, hyp⟩ := bd_some hyp
  try dsimp only at hyp
  refine am_callV [_] dX11_walk_23 ml_X11_377 vm_X1_bearing (sh_3 g) rfl (fun _ => Nat.le_of_ble_eq_true rfl) (by omega) rfl (ef_X1_bearing (d := d + 5) (h := h) g hk4) rfl ?_
  change am_At _ _ _ 26 [_, _, _, _, _, _, _, _, _, _, _] [_] _ _
  refine am_aload_n dX11_walk_26 rfl ?_
  obtain ⟨⟨v5, M5⟩, hk5, hyp⟩ := bd_some hyp
  try dsimp only at hyp
  refine am_callV [] dX11_walk_27 ml_X11_191 vm_X11_openNow (sh_0 g) rfl (fun _ => Nat.le_of_ble_eq_true rfl) (by omega) rfl (ef_X11_openNow_24 (d := d + 0) (h := h) g hW hk5) rfl ?_
  change am_At _ _ _ 30 [_, _, _, _, _, _, _, _, _, _, _] [_, _] _ _
  refine am_iconst (-1) (v := (-1)) dX11_walk_30 (by decide) ?_
  refine am_ixor dX11_walk_31 ?_
  refine am_iand dX11_walk_32 ?_
  refine am_istore dX11_walk_33 (am_lb rfl) ?_
  change am_At _ _ _ 35 [_, _, _, _, _, _, _, _, _, _, _] [] _ _
  refine am_iload_n dX11_walk_35 rfl ?_
  refine am_iload_n dX11_walk_36 rfl ?_
  refine am_icmp_ge (7) 44 dX11_walk_37 rfl ?_ ?_
  · intro hc6
    have hc6 : x1 ≤ x2 := hc6
    replace hyp := it_pos hc6 hyp
    refine am_iconst 1 (v := 1) dX11_walk_44 (by decide) ?_
    refine am_istore dX11_walk_45 (am_lb rfl) ?_
    change am_At _ _ _ 47 [_, _, _, _, _, _, _, _, _, _, _] [] _ _
    refine am_iload_n dX11_walk_47 rfl ?_
    refine am_iload_n dX11_walk_48 rfl ?_
    refine am_isub dX11_walk_49 ?_
    refine am_abs dX11_walk_50 ml_X11_380 (fun _ => Nat.le_of_ble_eq_true rfl) ?_
    refine am_istore dX11_walk_53 (am_lb rfl) ?_
    change am_At _ _ _ 55 [_, _, _, _, _, _, _, _, _, _, _] [] _ _
    refine am_iconst (-1) (v := (-1)) dX11_walk_55 (by decide) ?_
    refine am_istore dX11_walk_56 (am_lb rfl) ?_
    change am_At _ _ _ 58 [_, _, _, _, _, _, _, _, _, _, _] [] _ _
    refine am_iload dX11_walk_58 rfl ?_
    refine am_iload_n dX11_walk_60 rfl ?_
    refine am_callS (c := 0) (k := 0) (n := 0) (w := 0) [_, _] dX11_walk_61 ml_X11_281 sm_X11_isBitOf rfl (fun _ => Nat.le_of_ble_eq_true rfl) (by omega) rfl (ef_X11_isBitOf (d := d + 5) (h := am_hM h M5) (x0 := (v4 &&& (v5 ^^^ (-1 : Int32)))) (x1 := x1)  rfl) rfl ?_
    change am_At _ _ _ 64 [_, _, _, _, _, _, _, _, _, _, _] [_] _ _
    refine am_if_eq (7) 71 dX11_walk_64 rfl ?_ ?_
    · intro hc7
      have hc7 : (f_X11_isBitOf (v4 &&& (v5 ^^^ (-1 : Int32))) x1) = 0 := hc7
      replace hyp := it_pos hc7 hyp
      refine am_iconst (-1) (v := (-1)) dX11_walk_71 (by decide) ?_
      refine am_istore dX11_walk_72 (am_lb rfl) ?_
      change am_At _ _ _ 74 [_, _, _, _, _, _, _, _, _, _, _] [] _ _
      refine am_iconst 1 (v := 1) dX11_walk_74 (by decide) ?_
      refine am_istore dX11_walk_75 (am_lb rfl) ?_
      change am_At _ _ _ 77 [_, _, _, _, _, _, _, _, _, _, _] [] _ _
      obtain ⟨x8_14, hw14, hyp⟩ := bd_some hyp
      refine am_At.drop 2 ?_
      refine am_At.drop 3 ?_
      try dsimp only at hyp
      refine eL_X11_walk_77_24 (d := d) (h := h) g hW (M := M5) FU ((-1 : Int32), (-1 : Int32), (1 : Int32)) x8_14 hw14 ?_
      change am_At _ _ _ 158 [_, _, _, _, _, _, _, _, _, _, _] [] _ _
      refine am_iload dX11_walk_158 rfl ?_
      cases hyp
      exact am_iret dX11_walk_160 rfl
    · intro hc7n
      have hc7n : ¬ ((f_X11_isBitOf (v4 &&& (v5 ^^^ (-1 : Int32))) x1) = 0) := hc7n
      replace hyp := it_neg hc7n hyp
      refine am_iconst 1 (v := 1) dX11_walk_67 (by decide) ?_
      refine am_goto (4) 72 dX11_walk_68 rfl ?_
      refine am_istore dX11_walk_72 (am_lb rfl) ?_
      change am_At _ _ _ 74 [_, _, _, _, _, _, _, _, _, _, _] [] _ _
      refine am_iconst 1 (v := 1) dX11_walk_74 (by decide) ?_
      refine am_istore dX11_walk_75 (am_lb rfl) ?_
      change am_At _ _ _ 77 [_, _, _, _, _, _, _, _, _, _, _] [] _ _
      obtain ⟨x8_15, hw15, hyp⟩ := bd_some hyp
      refine am_At.drop 2 ?_
      refine am_At.drop 3 ?_
      try dsimp only at hyp
      refine eL_X11_walk_77_24 (d := d) (h := h) g hW (M := M5) FU ((-1 : Int32), (1 : Int32), (1 : Int32)) x8_15 hw15 ?_
      change am_At _ _ _ 158 [_, _, _, _, _, _, _, _, _, _, _] [] _ _
      refine am_iload dX11_walk_158 rfl ?_
      cases hyp
      exact am_iret dX11_walk_160 rfl
  · intro hc6n
    have hc6n : ¬ (x1 ≤ x2) := hc6n
    replace hyp := it_neg hc6n hyp
    refine am_iconst (-1) (v := (-1)) dX11_walk_40 (by decide) ?_
    refine am_goto (4) 45 dX11_walk_41 rfl ?_
    refine am_istore dX11_walk_45 (am_lb rfl) ?_
    change am_At _ _ _ 47 [_, _, _, _, _, _, _, _, _, _, _] [] _ _
    refine am_iload_n dX11_walk_47 rfl ?_
    refine am_iload_n dX11_walk_48 rfl ?_
    refine am_isub dX11_walk_49 ?_
    refine am_abs dX11_walk_50 ml_X11_380 (fun _ => Nat.le_of_ble_eq_true rfl) ?_
    refine am_istore dX11_walk_53 (am_lb rfl) ?_
    change am_At _ _ _ 55 [_, _, _, _, _, _, _, _, _, _, _] [] _ _
    refine am_iconst (-1) (v := (-1)) dX11_walk_55 (by decide) ?_
    refine am_istore dX11_walk_56 (am_lb rfl) ?_
    change am_At _ _ _ 58 [_, _, _, _, _, _, _, _, _, _, _] [] _ _
    refine am_iload dX11_walk_58 rfl ?_
    refine am_iload_n dX11_walk_60 rfl ?_
    refine am_callS (c := 0) (k := 0) (n := 0) (w := 0) [_, _] dX11_walk_61 ml_X11_281 sm_X11_isBitOf rfl (fun _ => Nat.le_of_ble_eq_true rfl) (by omega) rfl (ef_X11_isBitOf (d := d + 5) (h := am_hM h M5) (x0 := (v4 &&& (v5 ^^^ (-1 : Int32)))) (x1 := x1)  rfl) rfl ?_
    change am_At _ _ _ 64 [_, _, _, _, _, _, _, _, _, _, _] [_] _ _
    refine am_if_eq (7) 71 dX11_walk_64 rfl ?_ ?_
    · intro hc16
      have hc16 : (f_X11_isBitOf (v4 &&& (v5 ^^^ (-1 : Int32))) x1) = 0 := hc16
      replace hyp := it_pos hc16 hyp
      refine am_iconst (-1) (v := (-1)) dX11_walk_71 (by decide) ?_
      refine am_istore dX11_walk_72 (am_lb rfl) ?_
      change am_At _ _ _ 74 [_, _, _, _, _, _, _, _, _, _, _] [] _ _
      refine am_iconst 1 (v := 1) dX11_walk_74 (by decide) ?_
      refine am_istore dX11_walk_75 (am_lb rfl) ?_
      change am_At _ _ _ 77 [_, _, _, _, _, _, _, _, _, _, _] [] _ _
      obtain ⟨x8_17, hw17, hyp⟩ := bd_some hyp
      refine am_At.drop 2 ?_
      refine am_At.drop 3 ?_
      try dsimp only at hyp
      refine eL_X11_walk_77_24 (d := d) (h := h) g hW (M := M5) FU ((-1 : Int32), (-1 : Int32), (1 : Int32)) x8_17 hw17 ?_
      change am_At _ _ _ 158 [_, _, _, _, _, _, _, _, _, _, _] [] _ _
      refine am_iload dX11_walk_158 rfl ?_
      cases hyp
      exact am_iret dX11_walk_160 rfl
    · intro hc16n
      have hc16n : ¬ ((f_X11_isBitOf (v4 &&& (v5 ^^^ (-1 : Int32))) x1) = 0) := hc16n
      replace hyp := it_neg hc16n hyp
      refine am_iconst 1 (v := 1) dX11_walk_67 (by decide) ?_
      refine am_goto (4) 72 dX11_walk_68 rfl ?_
      refine am_istore dX11_walk_72 (am_lb rfl) ?_
      change am_At _ _ _ 74 [_, _, _, _, _, _, _, _, _, _, _] [] _ _
      refine am_iconst 1 (v := 1) dX11_walk_74 (by decide) ?_
      refine am_istore dX11_walk_75 (am_lb rfl) ?_
      change am_At _ _ _ 77 [_, _, _, _, _, _, _, _, _, _, _] [] _ _
      obtain ⟨x8_18, hw18, hyp⟩ := bd_some hyp
      refine am_At.drop 2 ?_
      refine am_At.drop 3 ?_
      try dsimp only at hyp
      refine eL_X11_walk_77_24 (d := d) (h := h) g hW (M := M5) FU ((-1 : Int32), (1 : Int32), (1 : Int32)) x8_18 hw18 ?_
      change am_At _ _ _ 158 [_, _, _, _, _, _, _, _, _, _, _] [] _ _
      refine am_iload dX11_walk_158 rfl ?_
      cases hyp
      exact am_iret dX11_walk_160 rfl
theorem eL_X11_walk_77_25 {d : Nat} {h : am_H} (g : lay h) (hW : h.2.2 23 0 = some 25 ∧ h.2.2 23 2 = some 24) {x1 x4 x5 x6 : Int32} {M : Mem} {r : am_R} (n : Nat) : ∀ (s : Int32 × Int32 × Int32) (e : Int32), wh (L_X11_walk_77 25 24 x1 x4 x5 x6) n s = some e → ((fun (x8 : Int32) => am_At am_X0 (d + 6) mX11_walk 158 [some (.inr (0, 0)), some (am_I (x1)), none, none, some (am_I (x4)), some (am_I (x5)), some (am_I (x6)), none, some (am_I (x8)), none, none] [] (am_hM h M) r) e) → (match s with | (x7, x8, x9) => am_At am_X0 (d + 6) mX11_walk 77 [some (.inr (0, 0)), some (am_I (x1)), none, none, some (am_I (x4)), some (am_I (x5)), some (am_I (x6)), some (am_I (x7)), some (am_I (x8)), some (am_I (x9)), none] [] (am_hM h M) r) := by
  refine am_wh (At := fun (s : Int32 × Int32 × Int32) => match s with | (x7, x8, x9) => am_At am_X0 (d + 6) mX11_walk 77 [some (.inr (0, 0)), some (am_I (x1)), none, none, some (am_I (x4)), some (am_I (x5)), some (am_I (x6)), some (am_I (x7)), some (am_I (x8)), some (am_I (x9)), none] [] (am_hM h M) r) (Ex := fun (e : Int32) => (fun (x8 : Int32) => am_At am_X0 (d + 6) mX11_walk 158 [some (.inr (0, 0)), some (am_I (x1)), none, none, some (am_I (x4)), some (am_I (x5)), some (am_I (x6)), none, some (am_I (x8)), none, none] [] (am_hM h M) r) e) ?_ n
  rintro ⟨x7, x8, x9⟩ y hyp hx
  unfold L_X11_walk_77 at hyp
  try dsimp only at hyp
  change am_At _ _ _ 77 [_, _, _, _, _, _, _, _, _, _, _] [] _ _
  refine am_iload dX11_walk_77 rfl ?_
  refine am_iload dX11_walk_79 rfl ?_
  refine am_icmp_gt (77) 158 dX11_walk_81 rfl ?_ ?_
  · intro hc8
    have hc8 : x6 < x9 := hc8
    replace hyp := it_pos hc8 hyp
    cases hyp
    refine am_At.drop 7 ?_
    refine am_At.drop 9 ?_
    exact hx
  · intro hc8n
    have hc8n : ¬ (x6 < x9) := hc8n
    replace hyp := it_neg hc8n hyp
    refine am_iconst (-1) (v := (-1)) dX11_walk_84 (by decide) ?_
    refine am_istore dX11_walk_85 (am_lb rfl) ?_
    change am_At _ _ _ 87 [_, _, _, _, _, _, _, _, _, _, _] [] _ _
    refine am_iload dX11_walk_87 rfl ?_
    refine am_iload_n dX11_walk_89 rfl ?_
    refine am_iload dX11_walk_90 rfl ?_
    refine am_iload dX11_walk_92 rfl ?_
    refine am_imul dX11_walk_94 ?_
    refine am_iadd dX11_walk_95 ?_
    refine am_callS (c := 0) (k := 0) (n := 0) (w := 0) [_, _] dX11_walk_96 ml_X11_281 sm_X11_isBitOf rfl (fun _ => Nat.le_of_ble_eq_true rfl) (by omega) rfl (ef_X11_isBitOf (d := d + 5) (h := am_hM h M) (x0 := x4) (x1 := (x1 + (x5 * x9)))  rfl) rfl ?_
    change am_At _ _ _ 99 [_, _, _, _, _, _, _, _, _, _, _] [_] _ _
    refine am_if_eq (45) 144 dX11_walk_99 rfl ?_ ?_
    · intro hc9
      have hc9 : (f_X11_isBitOf x4 (x1 + (x5 * x9))) = 0 := hc9
      replace hyp := it_pos hc9 hyp
      refine am_iload dX11_walk_144 rfl ?_
      refine am_istore dX11_walk_146 (am_lb rfl) ?_
      change am_At _ _ _ 148 [_, _, _, _, _, _, _, _, _, _, _] [] _ _
      refine am_iload dX11_walk_148 rfl ?_
      refine am_istore dX11_walk_150 (am_lb rfl) ?_
      change am_At _ _ _ 152 [_, _, _, _, _, _, _, _, _, _, _] [] _ _
      refine am_iinc dX11_walk_152 rfl (am_ix _) ?_
      change am_At _ _ _ 155 [_, _, _, _, _, _, _, _, _, _, _] [] _ _
      refine am_goto (-78) 77 dX11_walk_155 rfl ?_
      cases hyp
      refine am_At.drop 10 ?_
      exact hx
    · intro hc9n
      have hc9n : ¬ ((f_X11_isBitOf x4 (x1 + (x5 * x9))) = 0) := hc9n
      replace hyp := it_neg hc9n hyp
      refine am_iload dX11_walk_102 rfl ?_
      refine am_iconst (-1) (v := (-1)) dX11_walk_104 (by decide) ?_
      refine am_icmp_ne (9) 114 dX11_walk_105 rfl ?_ ?_
      · intro hc10n
        have hc10n : ¬ (x8 = (-1 : Int32)) := hc10n
        replace hyp := it_neg hc10n hyp
        refine am_iconst 1 (v := 1) dX11_walk_114 (by decide) ?_
        refine am_iload dX11_walk_115 rfl ?_
        refine am_iconst (-1) (v := (-1)) dX11_walk_117 (by decide) ?_
        refine am_icmp_eq (21) 139 dX11_walk_118 rfl ?_ ?_
        · intro hc11
          have hc11 : x7 = (-1 : Int32) := hc11
          replace hyp := it_pos hc11 hyp
          refine am_iload dX11_walk_139 rfl ?_
          refine am_iadd dX11_walk_141 ?_
          refine am_istore dX11_walk_142 (am_lb rfl) ?_
          change am_At _ _ _ 144 [_, _, _, _, _, _, _, _, _, _, _] [] _ _
          refine am_iload dX11_walk_144 rfl ?_
          refine am_istore dX11_walk_146 (am_lb rfl) ?_
          change am_At _ _ _ 148 [_, _, _, _, _, _, _, _, _, _, _] [] _ _
          refine am_iload dX11_walk_148 rfl ?_
          refine am_istore dX11_walk_150 (am_lb rfl) ?_
          change am_At _ _ _ 152 [_, _, _, _, _, _, _, _, _, _, _] [] _ _
          refine am_iinc dX11_walk_152 rfl (am_ix _) ?_
          change am_At _ _ _ 155 [_, _, _, _, _, _, _, _, _, _, _] [] _ _
          refine am_goto (-78) 77 dX11_walk_155 rfl ?_
          cases hyp
          refine am_At.drop 10 ?_
          exact hx
        · intro hc11n
          have hc11n : ¬ (x7 = (-1 : Int32)) := hc11n
          replace hyp := it_neg hc11n hyp
          refine am_iload dX11_walk_121 rfl ?_
          refine am_iconst (-1) (v := (-1)) dX11_walk_123 (by decide) ?_
          refine am_icmp_eqF (10) 134 dX11_walk_124 rfl hc10n ?_
          refine am_iload dX11_walk_127 rfl ?_
          refine am_iload dX11_walk_129 rfl ?_
          refine am_icmp_ge (8) 139 dX11_walk_131 rfl ?_ ?_
          · intro hc12
            have hc12 : x8 ≤ x7 := hc12
            replace hyp := it_pos hc12 hyp
            refine am_iload dX11_walk_139 rfl ?_
            refine am_iadd dX11_walk_141 ?_
            refine am_istore dX11_walk_142 (am_lb rfl) ?_
            change am_At _ _ _ 144 [_, _, _, _, _, _, _, _, _, _, _] [] _ _
            refine am_iload dX11_walk_144 rfl ?_
            refine am_istore dX11_walk_146 (am_lb rfl) ?_
            change am_At _ _ _ 148 [_, _, _, _, _, _, _, _, _, _, _] [] _ _
            refine am_iload dX11_walk_148 rfl ?_
            refine am_istore dX11_walk_150 (am_lb rfl) ?_
            change am_At _ _ _ 152 [_, _, _, _, _, _, _, _, _, _, _] [] _ _
            refine am_iinc dX11_walk_152 rfl (am_ix _) ?_
            change am_At _ _ _ 155 [_, _, _, _, _, _, _, _, _, _, _] [] _ _
            refine am_goto (-78) 77 dX11_walk_155 rfl ?_
            cases hyp
            refine am_At.drop 10 ?_
            exact hx
          · intro hc12n
            have hc12n : ¬ (x8 ≤ x7) := hc12n
            replace hyp := it_neg hc12n hyp
            refine am_iload dX11_walk_134 rfl ?_
            refine am_goto (5) 141 dX11_walk_136 rfl ?_
            refine am_iadd dX11_walk_141 ?_
            refine am_istore dX11_walk_142 (am_lb rfl) ?_
            change am_At _ _ _ 144 [_, _, _, _, _, _, _, _, _, _, _] [] _ _
            refine am_iload dX11_walk_144 rfl ?_
            refine am_istore dX11_walk_146 (am_lb rfl) ?_
            change am_At _ _ _ 148 [_, _, _, _, _, _, _, _, _, _, _] [] _ _
            refine am_iload dX11_walk_148 rfl ?_
            refine am_istore dX11_walk_150 (am_lb rfl) ?_
            change am_At _ _ _ 152 [_, _, _, _, _, _, _, _, _, _, _] [] _ _
            refine am_iinc dX11_walk_152 rfl (am_ix _) ?_
            change am_At _ _ _ 155 [_, _, _, _, _, _, _, _, _, _, _] [] _ _
            refine am_goto (-78) 77 dX11_walk_155 rfl ?_
            cases hyp
            refine am_At.drop 10 ?_
            exact hx
      · intro hc10
        have hc10 : x8 = (-1 : Int32) := hc10
        replace hyp := it_pos hc10 hyp
        refine am_iload dX11_walk_108 rfl ?_
        refine am_iconst (-1) (v := (-1)) dX11_walk_110 (by decide) ?_
        refine am_icmp_eq (33) 144 dX11_walk_111 rfl ?_ ?_
        · intro hc13
          have hc13 : x7 = (-1 : Int32) := hc13
          replace hyp := it_pos hc13 hyp
          refine am_iload dX11_walk_144 rfl ?_
          refine am_istore dX11_walk_146 (am_lb rfl) ?_
          change am_At _ _ _ 148 [_, _, _, _, _, _, _, _, _, _, _] [] _ _
          refine am_iload dX11_walk_148 rfl ?_
          refine am_istore dX11_walk_150 (am_lb rfl) ?_
          change am_At _ _ _ 152 [_, _, _, _, _, _, _, _, _, _, _] [] _ _
          refine am_iinc dX11_walk_152 rfl (am_ix _) ?_
          change am_At _ _ _ 155 [_, _, _, _, _, _, _, _, _, _, _] [] _ _
          refine am_goto (-78) 77 dX11_walk_155 rfl ?_
          cases hyp
          refine am_At.drop 10 ?_
          exact hx
        · intro hc13n
          have hc13n : ¬ (x7 = (-1 : Int32)) := hc13n
          replace hyp := it_neg hc13n hyp
          refine am_iconst 1 (v := 1) dX11_walk_114 (by decide) ?_
          refine am_iload dX11_walk_115 rfl ?_
          refine am_iconst (-1) (v := (-1)) dX11_walk_117 (by decide) ?_
          refine am_icmp_eqF (21) 139 dX11_walk_118 rfl hc13n ?_
          refine am_iload dX11_walk_121 rfl ?_
          refine am_iconst (-1) (v := (-1)) dX11_walk_123 (by decide) ?_
          refine am_icmp_eqT (10) 134 dX11_walk_124 rfl hc10 ?_
          refine am_iload dX11_walk_134 rfl ?_
          refine am_goto (5) 141 dX11_walk_136 rfl ?_
          refine am_iadd dX11_walk_141 ?_
          refine am_istore dX11_walk_142 (am_lb rfl) ?_
          change am_At _ _ _ 144 [_, _, _, _, _, _, _, _, _, _, _] [] _ _
          refine am_iload dX11_walk_144 rfl ?_
          refine am_istore dX11_walk_146 (am_lb rfl) ?_
          change am_At _ _ _ 148 [_, _, _, _, _, _, _, _, _, _, _] [] _ _
          refine am_iload dX11_walk_148 rfl ?_
          refine am_istore dX11_walk_150 (am_lb rfl) ?_
          change am_At _ _ _ 152 [_, _, _, _, _, _, _, _, _, _, _] [] _ _
          refine am_iinc dX11_walk_152 rfl (am_ix _) ?_
          change am_At _ _ _ 155 [_, _, _, _, _, _, _, _, _, _, _] [] _ _
          refine am_goto (-78) 77 dX11_walk_155 rfl ?_
          cases hyp
          refine am_At.drop 10 ?_
          exact hx
theorem ef_X11_walk_25 {d : Nat} {h : am_H} (g : lay h) (hW : h.2.2 23 0 = some 25 ∧ h.2.2 23 2 = some 24) {x1 x2 x3 : Int32} {M : Mem} {y : (Int32 ⊕ String) × Mem} (hyp : f_X11_walk 25 24 x1 x2 x3 M = some y) : am_Ev (d + 6) mX11_walk [.inr (0, 0), am_I x1, am_I x2, am_I x3] (am_hM h M) (am_o1 h y) := by
  unfold f_X11_walk at hyp
  refine am_Ev.mk (by decide +kernel) rfl rfl (am_oc1 h y) (am_os1 h y) ?_
  change am_At _ _ _ 0 [_, _, _, _, _, _, _, _, _, _, _] [] _ _
  refine am_aload_n dX11_walk_0 rfl ?_
  refine am_iload_n dX11_walk_1 rfl ?_
  obtain ⟨⟨y1, M1⟩, hk1, hyp⟩ := bd_some hyp
  rcases y1 with v1 | E1
  rotate_left
  · try dsimp only at hyp
    cases hyp
    exact am_callVX [_] dX11_walk_2 ml_X11_209 vm_X11_needBoard (sh_0 g) rfl (fun _ => Nat.le_of_ble_eq_true rfl) (by omega) rfl (am_o0t (ef_X11_needBoard (d := d + 4) (h := h) g hk1)) rfl
  try dsimp only at hyp
  refine am_callV [_] dX11_walk_2 ml_X11_209 vm_X11_needBoard (sh_0 g) rfl (fun _ => Nat.le_of_ble_eq_true rfl) (by omega) rfl (am_o0v (ef_X11_needBoard (d := d + 4) (h := h) g hk1)) rfl ?_
  change am_At _ _ _ 5 [_, _, _, _, _, _, _, _, _, _, _] [] _ _
  refine am_aload_n dX11_walk_5 rfl ?_
  refine am_iload_n dX11_walk_6 rfl ?_
  obtain ⟨⟨y2, M2⟩, hk2, hyp⟩ := bd_some hyp
  rcases y2 with v2 | E2
  rotate_left
  · try dsimp only at hyp
    cases hyp
    exact am_callVX [_] dX11_walk_7 ml_X11_209 vm_X11_needBoard (sh_0 g) rfl (fun _ => Nat.le_of_ble_eq_true rfl) (by omega) rfl (am_o0t (ef_X11_needBoard (d := d + 4) (h := h) g hk2)) rfl
  try dsimp only at hyp
  refine am_callV [_] dX11_walk_7 ml_X11_209 vm_X11_needBoard (sh_0 g) rfl (fun _ => Nat.le_of_ble_eq_true rfl) (by omega) rfl (am_o0v (ef_X11_needBoard (d := d + 4) (h := h) g hk2)) rfl ?_
  change am_At _ _ _ 10 [_, _, _, _, _, _, _, _, _, _, _] [] _ _
  refine am_aload_n dX11_walk_10 rfl ?_
  refine am_iload_n dX11_walk_11 rfl ?_
  refine am_iconst 0 (v := 0) dX11_walk_12 (by decide) ?_
  refine am_bipush 20 (v := 20) dX11_walk_13 (by decide) ?_
  obtain ⟨⟨y3, M3⟩, hk3, hyp⟩ := bd_some hyp
  rcases y3 with v3 | E3
  rotate_left
  · try dsimp only at hyp
    cases hyp
    exact am_callVX [_, _, _] dX11_walk_15 ml_X11_178 vm_X11_needFit (sh_0 g) rfl (fun _ => Nat.le_of_ble_eq_true rfl) (by omega) rfl (am_o0t (ef_X11_needFit (d := d + 5) (h := h) g hk3)) rfl
  try dsimp only at hyp
  refine am_callV [_, _, _] dX11_walk_15 ml_X11_178 vm_X11_needFit (sh_0 g) rfl (fun _ => Nat.le_of_ble_eq_true rfl) (by omega) rfl (am_o0v (ef_X11_needFit (d := d + 5) (h := h) g hk3)) rfl ?_
  change am_At _ _ _ 18 [_, _, _, _, _, _, _, _, _, _, _] [] _ _
  refine am_aload_n dX11_walk_18 rfl ?_
  refine am_getR 11 1 3 dX11_walk_19 fg_X11_19 (sh_0 g) (by decide) rfl (rf_0_1 g) ?_
  refine am_iload_n dX11_walk_22 rfl ?_
  obtain ⟨v4, hk4, hyp⟩ := bd_some hyp
  try dsimp only at hyp
  refine am_callV [_] dX11_walk_23 ml_X11_377 vm_X1_bearing (sh_3 g) rfl (fun _ => Nat.le_of_ble_eq_true rfl) (by omega) rfl (ef_X1_bearing (d := d + 5) (h := h) g hk4) rfl ?_
  change am_At _ _ _ 26 [_, _, _, _, _, _, _, _, _, _, _] [_] _ _
  refine am_aload_n dX11_walk_26 rfl ?_
  obtain ⟨⟨v5, M5⟩, hk5, hyp⟩ := bd_some hyp
  try dsimp only at hyp
  refine am_callV [] dX11_walk_27 ml_X11_191 vm_X11_openNow (sh_0 g) rfl (fun _ => Nat.le_of_ble_eq_true rfl) (by omega) rfl (ef_X11_openNow_25 (d := d + 0) (h := h) g hW hk5) rfl ?_
  change am_At _ _ _ 30 [_, _, _, _, _, _, _, _, _, _, _] [_, _] _ _
  refine am_iconst (-1) (v := (-1)) dX11_walk_30 (by decide) ?_
  refine am_ixor dX11_walk_31 ?_
  refine am_iand dX11_walk_32 ?_
  refine am_istore dX11_walk_33 (am_lb rfl) ?_
  change am_At _ _ _ 35 [_, _, _, _, _, _, _, _, _, _, _] [] _ _
  refine am_iload_n dX11_walk_35 rfl ?_
  refine am_iload_n dX11_walk_36 rfl ?_
  refine am_icmp_ge (7) 44 dX11_walk_37 rfl ?_ ?_
  · intro hc6
    have hc6 : x1 ≤ x2 := hc6
    replace hyp := it_pos hc6 hyp
    refine am_iconst 1 (v := 1) dX11_walk_44 (by decide) ?_
    refine am_istore dX11_walk_45 (am_lb rfl) ?_
    change am_At _ _ _ 47 [_, _, _, _, _, _, _, _, _, _, _] [] _ _
    refine am_iload_n dX11_walk_47 rfl ?_
    refine am_iload_n dX11_walk_48 rfl ?_
    refine am_isub dX11_walk_49 ?_
    refine am_abs dX11_walk_50 ml_X11_380 (fun _ => Nat.le_of_ble_eq_true rfl) ?_
    refine am_istore dX11_walk_53 (am_lb rfl) ?_
    change am_At _ _ _ 55 [_, _, _, _, _, _, _, _, _, _, _] [] _ _
    refine am_iconst (-1) (v := (-1)) dX11_walk_55 (by decide) ?_
    refine am_istore dX11_walk_56 (am_lb rfl) ?_
    change am_At _ _ _ 58 [_, _, _, _, _, _, _, _, _, _, _] [] _ _
    refine am_iload dX11_walk_58 rfl ?_
    refine am_iload_n dX11_walk_60 rfl ?_
    refine am_callS (c := 0) (k := 0) (n := 0) (w := 0) [_, _] dX11_walk_61 ml_X11_281 sm_X11_isBitOf rfl (fun _ => Nat.le_of_ble_eq_true rfl) (by omega) rfl (ef_X11_isBitOf (d := d + 5) (h := am_hM h M5) (x0 := (v4 &&& (v5 ^^^ (-1 : Int32)))) (x1 := x1)  rfl) rfl ?_
    change am_At _ _ _ 64 [_, _, _, _, _, _, _, _, _, _, _] [_] _ _
    refine am_if_eq (7) 71 dX11_walk_64 rfl ?_ ?_
    · intro hc7
      have hc7 : (f_X11_isBitOf (v4 &&& (v5 ^^^ (-1 : Int32))) x1) = 0 := hc7
      replace hyp := it_pos hc7 hyp
      refine am_iconst (-1) (v := (-1)) dX11_walk_71 (by decide) ?_
      refine am_istore dX11_walk_72 (am_lb rfl) ?_
      change am_At _ _ _ 74 [_, _, _, _, _, _, _, _, _, _, _] [] _ _
      refine am_iconst 1 (v := 1) dX11_walk_74 (by decide) ?_
      refine am_istore dX11_walk_75 (am_lb rfl) ?_
      change am_At _ _ _ 77 [_, _, _, _, _, _, _, _, _, _, _] [] _ _
      obtain ⟨x8_14, hw14, hyp⟩ := bd_some hyp
      refine am_At.drop 2 ?_
      refine am_At.drop 3 ?_
      try dsimp only at hyp
      refine eL_X11_walk_77_25 (d := d) (h := h) g hW (M := M5) FU ((-1 : Int32), (-1 : Int32), (1 : Int32)) x8_14 hw14 ?_
      change am_At _ _ _ 158 [_, _, _, _, _, _, _, _, _, _, _] [] _ _
      refine am_iload dX11_walk_158 rfl ?_
      cases hyp
      exact am_iret dX11_walk_160 rfl
    · intro hc7n
      have hc7n : ¬ ((f_X11_isBitOf (v4 &&& (v5 ^^^ (-1 : Int32))) x1) = 0) := hc7n
      replace hyp := it_neg hc7n hyp
      refine am_iconst 1 (v := 1) dX11_walk_67 (by decide) ?_
      refine am_goto (4) 72 dX11_walk_68 rfl ?_
      refine am_istore dX11_walk_72 (am_lb rfl) ?_
      change am_At _ _ _ 74 [_, _, _, _, _, _, _, _, _, _, _] [] _ _
      refine am_iconst 1 (v := 1) dX11_walk_74 (by decide) ?_
      refine am_istore dX11_walk_75 (am_lb rfl) ?_
      change am_At _ _ _ 77 [_, _, _, _, _, _, _, _, _, _, _] [] _ _
      obtain ⟨x8_15, hw15, hyp⟩ := bd_some hyp
      refine am_At.drop 2 ?_
      refine am_At.drop 3 ?_
      try dsimp only at hyp
      refine eL_X11_walk_77_25 (d := d) (h := h) g hW (M := M5) FU ((-1 : Int32), (1 : Int32), (1 : Int32)) x8_15 hw15 ?_
      change am_At _ _ _ 158 [_, _, _, _, _, _, _, _, _, _, _] [] _ _
      refine am_iload dX11_walk_158 rfl ?_
      cases hyp
      exact am_iret dX11_walk_160 rfl
  · intro hc6n
    have hc6n : ¬ (x1 ≤ x2) := hc6n
    replace hyp := it_neg hc6n hyp
    refine am_iconst (-1) (v := (-1)) dX11_walk_40 (by decide) ?_
    refine am_goto (4) 45 dX11_walk_41 rfl ?_
    refine am_istore dX11_walk_45 (am_lb rfl) ?_
    change am_At _ _ _ 47 [_, _, _, _, _, _, _, _, _, _, _] [] _ _
    refine am_iload_n dX11_walk_47 rfl ?_
    refine am_iload_n dX11_walk_48 rfl ?_
    refine am_isub dX11_walk_49 ?_
    refine am_abs dX11_walk_50 ml_X11_380 (fun _ => Nat.le_of_ble_eq_true rfl) ?_
    refine am_istore dX11_walk_53 (am_lb rfl) ?_
    change am_At _ _ _ 55 [_, _, _, _, _, _, _, _, _, _, _] [] _ _
    refine am_iconst (-1) (v := (-1)) dX11_walk_55 (by decide) ?_
    refine am_istore dX11_walk_56 (am_lb rfl) ?_
    change am_At _ _ _ 58 [_, _, _, _, _, _, _, _, _, _, _] [] _ _
    refine am_iload dX11_walk_58 rfl ?_
    refine am_iload_n dX11_walk_60 rfl ?_
    refine am_callS (c := 0) (k := 0) (n := 0) (w := 0) [_, _] dX11_walk_61 ml_X11_281 sm_X11_isBitOf rfl (fun _ => Nat.le_of_ble_eq_true rfl) (by omega) rfl (ef_X11_isBitOf (d := d + 5) (h := am_hM h M5) (x0 := (v4 &&& (v5 ^^^ (-1 : Int32)))) (x1 := x1)  rfl) rfl ?_
    change am_At _ _ _ 64 [_, _, _, _, _, _, _, _, _, _, _] [_] _ _
    refine am_if_eq (7) 71 dX11_walk_64 rfl ?_ ?_
    · intro hc16
      have hc16 : (f_X11_isBitOf (v4 &&& (v5 ^^^ (-1 : Int32))) x1) = 0 := hc16
      replace hyp := it_pos hc16 hyp
      refine am_iconst (-1) (v := (-1)) dX11_walk_71 (by decide) ?_
      refine am_istore dX11_walk_72 (am_lb rfl) ?_
      change am_At _ _ _ 74 [_, _, _, _, _, _, _, _, _, _, _] [] _ _
      refine am_iconst 1 (v := 1) dX11_walk_74 (by decide) ?_
      refine am_istore dX11_walk_75 (am_lb rfl) ?_
      change am_At _ _ _ 77 [_, _, _, _, _, _, _, _, _, _, _] [] _ _
      obtain ⟨x8_17, hw17, hyp⟩ := bd_some hyp
      refine am_At.drop 2 ?_
      refine am_At.drop 3 ?_
      try dsimp only at hyp
      refine eL_X11_walk_77_25 (d := d) (h := h) g hW (M := M5) FU ((-1 : Int32), (-1 : Int32), (1 : Int32)) x8_17 hw17 ?_
      change am_At _ _ _ 158 [_, _, _, _, _, _, _, _, _, _, _] [] _ _
      refine am_iload dX11_walk_158 rfl ?_
      cases hyp
      exact am_iret dX11_walk_160 rfl
    · intro hc16n
      have hc16n : ¬ ((f_X11_isBitOf (v4 &&& (v5 ^^^ (-1 : Int32))) x1) = 0) := hc16n
      replace hyp := it_neg hc16n hyp
      refine am_iconst 1 (v := 1) dX11_walk_67 (by decide) ?_
      refine am_goto (4) 72 dX11_walk_68 rfl ?_
      refine am_istore dX11_walk_72 (am_lb rfl) ?_
      change am_At _ _ _ 74 [_, _, _, _, _, _, _, _, _, _, _] [] _ _
      refine am_iconst 1 (v := 1) dX11_walk_74 (by decide) ?_
      refine am_istore dX11_walk_75 (am_lb rfl) ?_
      change am_At _ _ _ 77 [_, _, _, _, _, _, _, _, _, _, _] [] _ _
      obtain ⟨x8_18, hw18, hyp⟩ := bd_some hyp
      refine am_At.drop 2 ?_
      refine am_At.drop 3 ?_
      try dsimp only at hyp
      refine eL_X11_walk_77_25 (d := d) (h := h) g hW (M := M5) FU ((-1 : Int32), (1 : Int32), (1 : Int32)) x8_18 hw18 ?_
      change am_At _ _ _ 158 [_, _, _, _, _, _, _, _, _, _, _] [] _ _
      refine am_iload dX11_walk_158 rfl ?_
      cases hyp
      exact am_iret dX11_walk_160 rfl
theorem eL_X12_anglers_58 {d : Nat} {h : am_H} (g : lay h) {M : Mem} {r : am_R} (n : Nat) : ∀ (s : Int32 × Int32) (e : Int32), wh (L_X12_anglers_58 M) n s = some e → ((fun (x3 : Int32) => am_At am_X0 (d + 32) mX12_anglers 117 [some (.inr (54, 0)), none, none, some (am_I (x3)), none] [] (am_hM h M) r) e) → (match s with | (x3, x4) => am_At am_X0 (d + 32) mX12_anglers 58 [some (.inr (54, 0)), none, none, some (am_I (x3)), some (am_I (x4))] [] (am_hM h M) r) := by
  refine am_wh (At := fun (s : Int32 × Int32) => match s with | (x3, x4) => am_At am_X0 (d + 32) mX12_anglers 58 [some (.inr (54, 0)), none, none, some (am_I (x3)), some (am_I (x4))] [] (am_hM h M) r) (Ex := fun (e : Int32) => (fun (x3 : Int32) => am_At am_X0 (d + 32) mX12_anglers 117 [some (.inr (54, 0)), none, none, some (am_I (x3)), none] [] (am_hM h M) r) e) ?_ n
  rintro ⟨x3, x4⟩ y hyp hx
  unfold L_X12_anglers_58 at hyp
  try dsimp only at hyp
  change am_At _ _ _ 58 [_, _, _, _, _] [] _ _
  refine am_iload dX12_anglers_58 rfl ?_
  refine am_aload_n dX12_anglers_60 rfl ?_
  refine am_getR 12 12 58 dX12_anglers_61 fg_X12_23 (sh_54 g) (by decide) rfl (rf_54_12 g) ?_
  refine am_iconst 0 (v := 0) dX12_anglers_64 (by decide) ?_
  refine am_iald dX12_anglers_65 (am_ia.one (sh_58 g)) (am_lit rfl) ?_
  refine am_icmp_ge (51) 117 dX12_anglers_66 rfl ?_ ?_
  · intro hc6
    have hc6 : (M 58 0 0) ≤ x4 := hc6
    replace hyp := it_pos hc6 hyp
    cases hyp
    refine am_At.drop 4 ?_
    exact hx
  · intro hc6n
    have hc6n : ¬ ((M 58 0 0) ≤ x4) := hc6n
    replace hyp := it_neg hc6n hyp
    refine am_iload_n dX12_anglers_69 rfl ?_
    refine am_aload_n dX12_anglers_70 rfl ?_
    refine am_getR 12 45 80 dX12_anglers_71 fg_X12_91 (sh_54 g) (by decide) rfl (rf_54_45 g) ?_
    refine am_iload dX12_anglers_74 rfl ?_
    obtain ⟨hg7, hyp⟩ := gd_some hyp
    refine am_iald dX12_anglers_76 (am_ia.one (sh_80 g)) (am_lit hg7) ?_
    refine am_if_ne (7) 84 dX12_anglers_77 rfl ?_ ?_
    · intro hc8n
      have hc8n : ¬ ((M 80 0 x4.toNatClampNeg) = 0) := hc8n
      replace hyp := it_neg hc8n hyp
      refine am_aload_n dX12_anglers_84 rfl ?_
      refine am_getR 12 45 80 dX12_anglers_85 fg_X12_91 (sh_54 g) (by decide) rfl (rf_54_45 g) ?_
      refine am_iload dX12_anglers_88 rfl ?_
      refine am_iald dX12_anglers_90 (am_ia.one (sh_80 g)) (am_lit hg7) ?_
      refine am_aload_n dX12_anglers_91 rfl ?_
      refine am_getR 12 14 60 dX12_anglers_92 fg_X12_31 (sh_54 g) (by decide) rfl (rf_54_14 g) ?_
      refine am_iload dX12_anglers_95 rfl ?_
      refine am_aald dX12_anglers_97 (sh_60 g) (am_lit hg7) ?_
      refine am_iconst 3 (v := 3) dX12_anglers_98 (by decide) ?_
      refine am_iald dX12_anglers_99 (am_ia.row (sh_60 g) (by omega) (am_vlt (am_lit hg7))) (am_lit rfl) ?_
      refine am_aload_n dX12_anglers_100 rfl ?_
      refine am_getR 12 45 80 dX12_anglers_101 fg_X12_91 (sh_54 g) (by decide) rfl (rf_54_45 g) ?_
      refine am_iload dX12_anglers_104 rfl ?_
      refine am_iald dX12_anglers_106 (am_ia.one (sh_80 g)) (am_lit hg7) ?_
      obtain ⟨hg9, hyp⟩ := gd_some hyp
      refine am_idiv dX12_anglers_107 hg9 ?_
      refine am_imul dX12_anglers_108 ?_
      refine am_iadd dX12_anglers_109 ?_
      refine am_istore_n dX12_anglers_110 (am_lb rfl) ?_
      change am_At _ _ _ 111 [_, _, _, _, _] [] _ _
      refine am_iinc dX12_anglers_111 rfl (am_ix _) ?_
      change am_At _ _ _ 114 [_, _, _, _, _] [] _ _
      refine am_goto (-56) 58 dX12_anglers_114 rfl ?_
      cases hyp
      exact hx
    · intro hc8
      have hc8 : (M 80 0 x4.toNatClampNeg) = 0 := hc8
      replace hyp := it_pos hc8 hyp
      refine am_iconst 0 (v := 0) dX12_anglers_80 (by decide) ?_
      refine am_goto (28) 109 dX12_anglers_81 rfl ?_
      refine am_iadd dX12_anglers_109 ?_
      refine am_istore_n dX12_anglers_110 (am_lb rfl) ?_
      change am_At _ _ _ 111 [_, _, _, _, _] [] _ _
      refine am_iinc dX12_anglers_111 rfl (am_ix _) ?_
      change am_At _ _ _ 114 [_, _, _, _, _] [] _ _
      refine am_goto (-56) 58 dX12_anglers_114 rfl ?_
      cases hyp
      exact hx
theorem ef_X12_anglers {d : Nat} {h : am_H} (g : lay h) {x1 x2 : Int32} {M : Mem} {v : Int32} {M' : Mem} (hyp : f_X12_anglers x1 x2 M = some (v, M')) : am_Ev (d + 32) mX12_anglers [.inr (54, 0), am_I x1, am_I x2] (am_hM h M) (.inl (some (am_I v), am_hM h M')) := by
  unfold f_X12_anglers at hyp
  refine am_Ev.mk (by decide +kernel) rfl rfl (Nat.le_refl _) (Nat.le_refl _) ?_
  change am_At _ _ _ 0 [_, _, _, _, _] [] _ _
  refine am_aload_n dX12_anglers_0 rfl ?_
  refine am_iconst 0 (v := 0) dX12_anglers_1 (by decide) ?_
  refine am_putI 12 0 dX12_anglers_2 (Or.inl fp_X12_103) (sh_54 g) (by decide) rfl rfl rfl ?_
  refine am_aload_n dX12_anglers_5 rfl ?_
  refine am_iload_n dX12_anglers_6 rfl ?_
  refine am_iconst 0 (v := 0) dX12_anglers_7 (by decide) ?_
  refine am_iconst 4 (v := 4) dX12_anglers_8 (by decide) ?_
  refine am_callS (c := 0) (k := 0) (n := 0) (w := 0) [_, _, _] dX12_anglers_9 ml_X12_137 sm_X12_in rfl (fun _ => Nat.le_of_ble_eq_true rfl) (by omega) rfl (ef_X12_in (d := d + 31) (h := am_hM h (am_u3 M 54 0 0 (0 : Int32))) (x0 := x1) (x1 := (0 : Int32)) (x2 := (4 : Int32))  rfl) rfl ?_
  change am_At _ _ _ 12 [_, _, _, _, _] [_, _] _ _
  refine am_if_eq (12) 24 dX12_anglers_12 rfl ?_ ?_
  · intro hc1
    have hc1 : (f_X12_in x1 (0 : Int32) (4 : Int32)) = 0 := hc1
    replace hyp := it_pos hc1 hyp
    refine am_iconst 1 (v := 1) dX12_anglers_24 (by decide) ?_
    refine am_goto (4) 29 dX12_anglers_25 rfl ?_
    refine am_iconst 1 (v := 1) dX12_anglers_29 (by decide) ?_
    refine am_iconst 1 (v := 1) dX12_anglers_30 (by decide) ?_
    obtain ⟨⟨v2, M2⟩, hk2, hyp⟩ := bd_some hyp
    try dsimp only at hyp
    refine am_callV [_, _, _] dX12_anglers_31 ml_X12_179 vm_X12_bad (sh_54 g) rfl (fun _ => Nat.le_of_ble_eq_true rfl) (by omega) rfl (ef_X12_bad (d := d + 31) (h := h) g hk2) rfl ?_
    change am_At _ _ _ 34 [_, _, _, _, _] [_] _ _
    refine am_if_eq (5) 39 dX12_anglers_34 rfl ?_ ?_
    · intro hc3
      have hc3 : v2 = 0 := hc3
      replace hyp := it_pos hc3 hyp
      refine am_aload_n dX12_anglers_39 rfl ?_
      refine am_iload_n dX12_anglers_40 rfl ?_
      obtain ⟨M4, hk4, hyp⟩ := bd_some hyp
      try dsimp only at hyp
      refine am_callV [_] dX12_anglers_41 ml_X12_360 vm_X12_laysAnglers (sh_54 g) rfl (fun _ => Nat.le_of_ble_eq_true rfl) (by omega) rfl (ef_X12_laysAnglers (d := d + 0) (h := h) g hk4) rfl ?_
      change am_At _ _ _ 44 [_, _, _, _, _] [] _ _
      refine am_iload_n dX12_anglers_44 rfl ?_
      refine am_if_ne (8) 53 dX12_anglers_45 rfl ?_ ?_
      · intro hc5n
        have hc5n : ¬ (x2 = 0) := hc5n
        replace hyp := it_neg hc5n hyp
        refine am_iconst 0 (v := 0) dX12_anglers_53 (by decide) ?_
        refine am_istore_n dX12_anglers_54 (am_lb rfl) ?_
        change am_At _ _ _ 55 [_, _, _, _, _] [] _ _
        refine am_iconst 0 (v := 0) dX12_anglers_55 (by decide) ?_
        refine am_istore dX12_anglers_56 (am_lb rfl) ?_
        change am_At _ _ _ 58 [_, _, _, _, _] [] _ _
        obtain ⟨x3_10, hw10, hyp⟩ := bd_some hyp
        refine am_At.drop 1 ?_
        refine am_At.drop 2 ?_
        try dsimp only at hyp
        refine eL_X12_anglers_58 (d := d) (h := h) g (M := M4) FU ((0 : Int32), (0 : Int32)) x3_10 hw10 ?_
        change am_At _ _ _ 117 [_, _, _, _, _] [] _ _
        refine am_aload_n dX12_anglers_117 rfl ?_
        refine am_getI 12 46 dX12_anglers_118 fg_X12_354 (sh_54 g) (by decide) rfl ?_
        refine am_if_ne (7) 128 dX12_anglers_121 rfl ?_ ?_
        · intro hc11n
          have hc11n : ¬ ((M4 54 0 46) = 0) := hc11n
          replace hyp := it_neg hc11n hyp
          refine am_iload_n dX12_anglers_128 rfl ?_
          cases hyp
          exact am_iret dX12_anglers_129 rfl
        · intro hc11
          have hc11 : (M4 54 0 46) = 0 := hc11
          replace hyp := it_pos hc11 hyp
          refine am_iconst (-1) (v := (-1)) dX12_anglers_124 (by decide) ?_
          refine am_goto (4) 129 dX12_anglers_125 rfl ?_
          cases hyp
          exact am_iret dX12_anglers_129 rfl
      · intro hc5
        have hc5 : x2 = 0 := hc5
        replace hyp := it_pos hc5 hyp
        refine am_aload_n dX12_anglers_48 rfl ?_
        refine am_getI 12 46 dX12_anglers_49 fg_X12_354 (sh_54 g) (by decide) rfl ?_
        cases hyp
        exact am_iret dX12_anglers_52 rfl
    · intro hc3n
      have hc3n : ¬ (v2 = 0) := hc3n
      replace hyp := it_neg hc3n hyp
      refine am_iconst 0 (v := 0) dX12_anglers_37 (by decide) ?_
      cases hyp
      exact am_iret dX12_anglers_38 rfl
  · intro hc1n
    have hc1n : ¬ ((f_X12_in x1 (0 : Int32) (4 : Int32)) = 0) := hc1n
    replace hyp := it_neg hc1n hyp
    refine am_iload_n dX12_anglers_15 rfl ?_
    refine am_iconst 0 (v := 0) dX12_anglers_16 (by decide) ?_
    refine am_iconst 1 (v := 1) dX12_anglers_17 (by decide) ?_
    refine am_callS (c := 0) (k := 0) (n := 0) (w := 0) [_, _, _] dX12_anglers_18 ml_X12_137 sm_X12_in rfl (fun _ => Nat.le_of_ble_eq_true rfl) (by omega) rfl (ef_X12_in (d := d + 31) (h := am_hM h (am_u3 M 54 0 0 (0 : Int32))) (x0 := x2) (x1 := (0 : Int32)) (x2 := (1 : Int32))  rfl) rfl ?_
    change am_At _ _ _ 21 [_, _, _, _, _] [_, _] _ _
    refine am_if_ne (7) 28 dX12_anglers_21 rfl ?_ ?_
    · intro hc12n
      have hc12n : ¬ ((f_X12_in x2 (0 : Int32) (1 : Int32)) = 0) := hc12n
      replace hyp := it_neg hc12n hyp
      refine am_iconst 0 (v := 0) dX12_anglers_28 (by decide) ?_
      refine am_iconst 1 (v := 1) dX12_anglers_29 (by decide) ?_
      refine am_iconst 1 (v := 1) dX12_anglers_30 (by decide) ?_
      obtain ⟨⟨v13, M13⟩, hk13, hyp⟩ := bd_some hyp
      try dsimp only at hyp
      refine am_callV [_, _, _] dX12_anglers_31 ml_X12_179 vm_X12_bad (sh_54 g) rfl (fun _ => Nat.le_of_ble_eq_true rfl) (by omega) rfl (ef_X12_bad (d := d + 31) (h := h) g hk13) rfl ?_
      change am_At _ _ _ 34 [_, _, _, _, _] [_] _ _
      refine am_if_eq (5) 39 dX12_anglers_34 rfl ?_ ?_
      · intro hc14
        have hc14 : v13 = 0 := hc14
        replace hyp := it_pos hc14 hyp
        refine am_aload_n dX12_anglers_39 rfl ?_
        refine am_iload_n dX12_anglers_40 rfl ?_
        obtain ⟨M15, hk15, hyp⟩ := bd_some hyp
        try dsimp only at hyp
        refine am_callV [_] dX12_anglers_41 ml_X12_360 vm_X12_laysAnglers (sh_54 g) rfl (fun _ => Nat.le_of_ble_eq_true rfl) (by omega) rfl (ef_X12_laysAnglers (d := d + 0) (h := h) g hk15) rfl ?_
        change am_At _ _ _ 44 [_, _, _, _, _] [] _ _
        refine am_iload_n dX12_anglers_44 rfl ?_
        refine am_if_ne (8) 53 dX12_anglers_45 rfl ?_ ?_
        · intro hc16n
          have hc16n : ¬ (x2 = 0) := hc16n
          replace hyp := it_neg hc16n hyp
          refine am_iconst 0 (v := 0) dX12_anglers_53 (by decide) ?_
          refine am_istore_n dX12_anglers_54 (am_lb rfl) ?_
          change am_At _ _ _ 55 [_, _, _, _, _] [] _ _
          refine am_iconst 0 (v := 0) dX12_anglers_55 (by decide) ?_
          refine am_istore dX12_anglers_56 (am_lb rfl) ?_
          change am_At _ _ _ 58 [_, _, _, _, _] [] _ _
          obtain ⟨x3_17, hw17, hyp⟩ := bd_some hyp
          refine am_At.drop 1 ?_
          refine am_At.drop 2 ?_
          try dsimp only at hyp
          refine eL_X12_anglers_58 (d := d) (h := h) g (M := M15) FU ((0 : Int32), (0 : Int32)) x3_17 hw17 ?_
          change am_At _ _ _ 117 [_, _, _, _, _] [] _ _
          refine am_aload_n dX12_anglers_117 rfl ?_
          refine am_getI 12 46 dX12_anglers_118 fg_X12_354 (sh_54 g) (by decide) rfl ?_
          refine am_if_ne (7) 128 dX12_anglers_121 rfl ?_ ?_
          · intro hc18n
            have hc18n : ¬ ((M15 54 0 46) = 0) := hc18n
            replace hyp := it_neg hc18n hyp
            refine am_iload_n dX12_anglers_128 rfl ?_
            cases hyp
            exact am_iret dX12_anglers_129 rfl
          · intro hc18
            have hc18 : (M15 54 0 46) = 0 := hc18
            replace hyp := it_pos hc18 hyp
            refine am_iconst (-1) (v := (-1)) dX12_anglers_124 (by decide) ?_
            refine am_goto (4) 129 dX12_anglers_125 rfl ?_
            cases hyp
            exact am_iret dX12_anglers_129 rfl
        · intro hc16
          have hc16 : x2 = 0 := hc16
          replace hyp := it_pos hc16 hyp
          refine am_aload_n dX12_anglers_48 rfl ?_
          refine am_getI 12 46 dX12_anglers_49 fg_X12_354 (sh_54 g) (by decide) rfl ?_
          cases hyp
          exact am_iret dX12_anglers_52 rfl
      · intro hc14n
        have hc14n : ¬ (v13 = 0) := hc14n
        replace hyp := it_neg hc14n hyp
        refine am_iconst 0 (v := 0) dX12_anglers_37 (by decide) ?_
        cases hyp
        exact am_iret dX12_anglers_38 rfl
    · intro hc12
      have hc12 : (f_X12_in x2 (0 : Int32) (1 : Int32)) = 0 := hc12
      replace hyp := it_pos hc12 hyp
      refine am_iconst 1 (v := 1) dX12_anglers_24 (by decide) ?_
      refine am_goto (4) 29 dX12_anglers_25 rfl ?_
      refine am_iconst 1 (v := 1) dX12_anglers_29 (by decide) ?_
      refine am_iconst 1 (v := 1) dX12_anglers_30 (by decide) ?_
      obtain ⟨⟨v19, M19⟩, hk19, hyp⟩ := bd_some hyp
      try dsimp only at hyp
      refine am_callV [_, _, _] dX12_anglers_31 ml_X12_179 vm_X12_bad (sh_54 g) rfl (fun _ => Nat.le_of_ble_eq_true rfl) (by omega) rfl (ef_X12_bad (d := d + 31) (h := h) g hk19) rfl ?_
      change am_At _ _ _ 34 [_, _, _, _, _] [_] _ _
      refine am_if_eq (5) 39 dX12_anglers_34 rfl ?_ ?_
      · intro hc20
        have hc20 : v19 = 0 := hc20
        replace hyp := it_pos hc20 hyp
        refine am_aload_n dX12_anglers_39 rfl ?_
        refine am_iload_n dX12_anglers_40 rfl ?_
        obtain ⟨M21, hk21, hyp⟩ := bd_some hyp
        try dsimp only at hyp
        refine am_callV [_] dX12_anglers_41 ml_X12_360 vm_X12_laysAnglers (sh_54 g) rfl (fun _ => Nat.le_of_ble_eq_true rfl) (by omega) rfl (ef_X12_laysAnglers (d := d + 0) (h := h) g hk21) rfl ?_
        change am_At _ _ _ 44 [_, _, _, _, _] [] _ _
        refine am_iload_n dX12_anglers_44 rfl ?_
        refine am_if_ne (8) 53 dX12_anglers_45 rfl ?_ ?_
        · intro hc22n
          have hc22n : ¬ (x2 = 0) := hc22n
          replace hyp := it_neg hc22n hyp
          refine am_iconst 0 (v := 0) dX12_anglers_53 (by decide) ?_
          refine am_istore_n dX12_anglers_54 (am_lb rfl) ?_
          change am_At _ _ _ 55 [_, _, _, _, _] [] _ _
          refine am_iconst 0 (v := 0) dX12_anglers_55 (by decide) ?_
          refine am_istore dX12_anglers_56 (am_lb rfl) ?_
          change am_At _ _ _ 58 [_, _, _, _, _] [] _ _
          obtain ⟨x3_23, hw23, hyp⟩ := bd_some hyp
          refine am_At.drop 1 ?_
          refine am_At.drop 2 ?_
          try dsimp only at hyp
          refine eL_X12_anglers_58 (d := d) (h := h) g (M := M21) FU ((0 : Int32), (0 : Int32)) x3_23 hw23 ?_
          change am_At _ _ _ 117 [_, _, _, _, _] [] _ _
          refine am_aload_n dX12_anglers_117 rfl ?_
          refine am_getI 12 46 dX12_anglers_118 fg_X12_354 (sh_54 g) (by decide) rfl ?_
          refine am_if_ne (7) 128 dX12_anglers_121 rfl ?_ ?_
          · intro hc24n
            have hc24n : ¬ ((M21 54 0 46) = 0) := hc24n
            replace hyp := it_neg hc24n hyp
            refine am_iload_n dX12_anglers_128 rfl ?_
            cases hyp
            exact am_iret dX12_anglers_129 rfl
          · intro hc24
            have hc24 : (M21 54 0 46) = 0 := hc24
            replace hyp := it_pos hc24 hyp
            refine am_iconst (-1) (v := (-1)) dX12_anglers_124 (by decide) ?_
            refine am_goto (4) 129 dX12_anglers_125 rfl ?_
            cases hyp
            exact am_iret dX12_anglers_129 rfl
        · intro hc22
          have hc22 : x2 = 0 := hc22
          replace hyp := it_pos hc22 hyp
          refine am_aload_n dX12_anglers_48 rfl ?_
          refine am_getI 12 46 dX12_anglers_49 fg_X12_354 (sh_54 g) (by decide) rfl ?_
          cases hyp
          exact am_iret dX12_anglers_52 rfl
      · intro hc20n
        have hc20n : ¬ (v19 = 0) := hc20n
        replace hyp := it_neg hc20n hyp
        refine am_iconst 0 (v := 0) dX12_anglers_37 (by decide) ?_
        cases hyp
        exact am_iret dX12_anglers_38 rfl
theorem eL_X12_book_48 {d : Nat} {h : am_H} (g : lay h) {r : am_R} (n : Nat) : ∀ (s : Int32 × Int32 × Mem) (e : Int32 × Mem), wh (L_X12_book_48) n s = some e → (match e with | (x2, M) => am_At am_X0 (d + 3) mX12_book 189 [some (.inr (54, 0)), none, some (am_I (x2)), none, none, none, none] [] (am_hM h M) r) → (match s with | (x2, x3, M) => am_At am_X0 (d + 3) mX12_book 48 [some (.inr (54, 0)), none, some (am_I (x2)), some (am_I (x3)), none, none, none] [] (am_hM h M) r) := by
  refine am_wh (At := fun (s : Int32 × Int32 × Mem) => match s with | (x2, x3, M) => am_At am_X0 (d + 3) mX12_book 48 [some (.inr (54, 0)), none, some (am_I (x2)), some (am_I (x3)), none, none, none] [] (am_hM h M) r) (Ex := fun (e : Int32 × Mem) => match e with | (x2, M) => am_At am_X0 (d + 3) mX12_book 189 [some (.inr (54, 0)), none, some (am_I (x2)), none, none, none, none] [] (am_hM h M) r) ?_ n
  rintro ⟨x2, x3, M⟩ y hyp hx
  unfold L_X12_book_48 at hyp
  try dsimp only at hyp
  change am_At _ _ _ 48 [_, _, _, _, _, _, _] [] _ _
  refine am_aload_n dX12_book_48 rfl ?_
  refine am_getI 12 5 dX12_book_49 fg_X12_119 (sh_54 g) (by decide) rfl ?_
  refine am_if_ne (137) 189 dX12_book_52 rfl ?_ ?_
  · intro hc5n
    have hc5n : ¬ ((M 54 0 5) = 0) := hc5n
    replace hyp := it_neg hc5n hyp
    cases hyp
    refine am_At.drop 3 ?_
    exact hx
  · intro hc5
    have hc5 : (M 54 0 5) = 0 := hc5
    replace hyp := it_pos hc5 hyp
    refine am_aload_n dX12_book_55 rfl ?_
    refine am_getI 12 4 dX12_book_56 fg_X12_112 (sh_54 g) (by decide) rfl ?_
    refine am_aload_n dX12_book_59 rfl ?_
    refine am_getI 12 2 dX12_book_60 fg_X12_109 (sh_54 g) (by decide) rfl ?_
    refine am_icmp_ge (126) 189 dX12_book_63 rfl ?_ ?_
    · intro hc6
      have hc6 : (M 54 0 2) ≤ (M 54 0 4) := hc6
      replace hyp := it_pos hc6 hyp
      cases hyp
      refine am_At.drop 3 ?_
      exact hx
    · intro hc6n
      have hc6n : ¬ ((M 54 0 2) ≤ (M 54 0 4)) := hc6n
      replace hyp := it_neg hc6n hyp
      refine am_aload_n dX12_book_66 rfl ?_
      refine am_getI 12 4 dX12_book_67 fg_X12_112 (sh_54 g) (by decide) rfl ?_
      refine am_istore dX12_book_70 (am_lb rfl) ?_
      change am_At _ _ _ 72 [_, _, _, _, _, _, _] [] _ _
      refine am_aload_n dX12_book_72 rfl ?_
      refine am_iconst 0 (v := 0) dX12_book_73 (by decide) ?_
      refine am_aload_n dX12_book_74 rfl ?_
      refine am_getR 12 12 58 dX12_book_75 fg_X12_23 (sh_54 g) (by decide) rfl (rf_54_12 g) ?_
      refine am_iconst 0 (v := 0) dX12_book_78 (by decide) ?_
      refine am_iald dX12_book_79 (am_ia.one (sh_58 g)) (am_lit rfl) ?_
      refine am_iconst 1 (v := 1) dX12_book_80 (by decide) ?_
      refine am_isub dX12_book_81 ?_
      obtain ⟨⟨v7, M7⟩, hk7, hyp⟩ := bd_some hyp
      try dsimp only at hyp
      refine am_callV [_, _] dX12_book_82 ml_X12_171 vm_X12_number (sh_54 g) rfl (fun _ => Nat.le_of_ble_eq_true rfl) (by omega) rfl (ef_X12_number (d := d + 0) (h := h) g hk7) rfl ?_
      change am_At _ _ _ 85 [_, _, _, _, _, _, _] [_] _ _
      refine am_istore dX12_book_85 (am_lb rfl) ?_
      change am_At _ _ _ 87 [_, _, _, _, _, _, _] [] _ _
      refine am_aload_n dX12_book_87 rfl ?_
      refine am_getI 12 5 dX12_book_88 fg_X12_119 (sh_54 g) (by decide) rfl ?_
      refine am_if_ne (19) 110 dX12_book_91 rfl ?_ ?_
      · intro hc8n
        have hc8n : ¬ ((M7 54 0 5) = 0) := hc8n
        replace hyp := it_neg hc8n hyp
        refine am_aload_n dX12_book_110 rfl ?_
        refine am_getI 12 5 dX12_book_111 fg_X12_119 (sh_54 g) (by decide) rfl ?_
        refine am_if_neT (16) 130 dX12_book_114 rfl hc8n ?_
        refine am_aload_n dX12_book_130 rfl ?_
        refine am_iconst 0 (v := 0) dX12_book_131 (by decide) ?_
        refine am_bipush 99 (v := 99) dX12_book_132 (by decide) ?_
        obtain ⟨⟨v9, M9⟩, hk9, hyp⟩ := bd_some hyp
        try dsimp only at hyp
        refine am_callV [_, _] dX12_book_134 ml_X12_171 vm_X12_number (sh_54 g) rfl (fun _ => Nat.le_of_ble_eq_true rfl) (by omega) rfl (ef_X12_number (d := d + 0) (h := h) g hk9) rfl ?_
        change am_At _ _ _ 137 [_, _, _, _, _, _, _] [_] _ _
        refine am_istore dX12_book_137 (am_lb rfl) ?_
        change am_At _ _ _ 139 [_, _, _, _, _, _, _] [] _ _
        refine am_aload_n dX12_book_139 rfl ?_
        refine am_bipush 59 (v := 59) dX12_book_140 (by decide) ?_
        obtain ⟨M10, hk10, hyp⟩ := bd_some hyp
        try dsimp only at hyp
        refine am_callV [_] dX12_book_142 ml_X12_175 vm_X12_sign (sh_54 g) rfl (fun _ => Nat.le_of_ble_eq_true rfl) (by omega) rfl (ef_X12_sign (d := d + 0) (h := h) g hk10) rfl ?_
        change am_At _ _ _ 145 [_, _, _, _, _, _, _] [] _ _
        refine am_aload_n dX12_book_145 rfl ?_
        refine am_getI 12 5 dX12_book_146 fg_X12_119 (sh_54 g) (by decide) rfl ?_
        refine am_if_ne (33) 182 dX12_book_149 rfl ?_ ?_
        · intro hc11n
          have hc11n : ¬ ((M10 54 0 5) = 0) := hc11n
          replace hyp := it_neg hc11n hyp
          refine am_aload_n dX12_book_182 rfl ?_
          obtain ⟨M12, hk12, hyp⟩ := bd_some hyp
          try dsimp only at hyp
          refine am_callV [] dX12_book_183 ml_X12_125 vm_X12_blanks (sh_54 g) rfl (fun _ => Nat.le_of_ble_eq_true rfl) (by omega) rfl (ef_X12_blanks (d := d + 1) (h := h) g hk12) rfl ?_
          change am_At _ _ _ 186 [_, _, _, _, _, _, _] [] _ _
          refine am_goto (-138) 48 dX12_book_186 rfl ?_
          cases hyp
          refine am_At.drop 4 ?_
          refine am_At.drop 5 ?_
          refine am_At.drop 6 ?_
          exact hx
        · intro hc11
          have hc11 : (M10 54 0 5) = 0 := hc11
          replace hyp := it_pos hc11 hyp
          refine am_iload_n dX12_book_152 rfl ?_
          refine am_iconst 1 (v := 1) dX12_book_153 (by decide) ?_
          refine am_iload dX12_book_154 rfl ?_
          refine am_ishl dX12_book_156 ?_
          refine am_ior dX12_book_157 ?_
          refine am_istore_n dX12_book_158 (am_lb rfl) ?_
          change am_At _ _ _ 159 [_, _, _, _, _, _, _] [] _ _
          refine am_aload_n dX12_book_159 rfl ?_
          refine am_getR 12 24 68 dX12_book_160 fg_X12_55 (sh_54 g) (by decide) rfl (rf_54_24 g) ?_
          refine am_iload_n dX12_book_163 rfl ?_
          obtain ⟨hg13, hyp⟩ := gd_some hyp
          refine am_aald dX12_book_164 (sh_68 g) (am_lit hg13) ?_
          refine am_iconst 0 (v := 0) dX12_book_165 (by decide) ?_
          refine am_iload dX12_book_166 rfl ?_
          refine am_iast dX12_book_168 (am_ia.row (sh_68 g) (by omega) (am_vlt (am_lit hg13))) (am_lit rfl) ?_
          refine am_aload_n dX12_book_169 rfl ?_
          refine am_getR 12 24 68 dX12_book_170 fg_X12_55 (sh_54 g) (by decide) rfl (rf_54_24 g) ?_
          refine am_iload_n dX12_book_173 rfl ?_
          refine am_aald dX12_book_174 (sh_68 g) (am_lit hg13) ?_
          refine am_iconst 1 (v := 1) dX12_book_175 (by decide) ?_
          refine am_iload dX12_book_176 rfl ?_
          refine am_iast dX12_book_178 (am_ia.row (sh_68 g) (by omega) (am_vlt (am_lit hg13))) (am_lit rfl) ?_
          refine am_iinc dX12_book_179 rfl (am_ix _) ?_
          change am_At _ _ _ 182 [_, _, _, _, _, _, _] [] _ _
          refine am_aload_n dX12_book_182 rfl ?_
          obtain ⟨M14, hk14, hyp⟩ := bd_some hyp
          try dsimp only at hyp
          refine am_callV [] dX12_book_183 ml_X12_125 vm_X12_blanks (sh_54 g) rfl (fun _ => Nat.le_of_ble_eq_true rfl) (by omega) rfl (ef_X12_blanks (d := d + 1) (h := h) g hk14) rfl ?_
          change am_At _ _ _ 186 [_, _, _, _, _, _, _] [] _ _
          refine am_goto (-138) 48 dX12_book_186 rfl ?_
          cases hyp
          refine am_At.drop 4 ?_
          refine am_At.drop 5 ?_
          refine am_At.drop 6 ?_
          exact hx
      · intro hc8
        have hc8 : (M7 54 0 5) = 0 := hc8
        replace hyp := it_pos hc8 hyp
        refine am_iload_n dX12_book_94 rfl ?_
        refine am_iload dX12_book_95 rfl ?_
        refine am_callS (c := 0) (k := 0) (n := 0) (w := 0) [_, _] dX12_book_97 ml_X12_258 sm_X12_has rfl (fun _ => Nat.le_of_ble_eq_true rfl) (by omega) rfl (ef_X12_has (d := d + 2) (h := am_hM h M7) (x0 := x3) (x1 := v7)  rfl) rfl ?_
        change am_At _ _ _ 100 [_, _, _, _, _, _, _] [_] _ _
        refine am_if_eq (10) 110 dX12_book_100 rfl ?_ ?_
        · intro hc15
          have hc15 : (f_X12_has x3 v7) = 0 := hc15
          replace hyp := it_pos hc15 hyp
          refine am_aload_n dX12_book_110 rfl ?_
          refine am_getI 12 5 dX12_book_111 fg_X12_119 (sh_54 g) (by decide) rfl ?_
          refine am_if_neF (16) 130 dX12_book_114 rfl hc8 ?_
          refine am_iload_n dX12_book_117 rfl ?_
          refine am_bipush 12 (v := 12) dX12_book_118 (by decide) ?_
          refine am_icmp_ne (10) 130 dX12_book_120 rfl ?_ ?_
          · intro hc16n
            have hc16n : ¬ (x2 = (12 : Int32)) := hc16n
            replace hyp := it_neg hc16n hyp
            refine am_aload_n dX12_book_130 rfl ?_
            refine am_iconst 0 (v := 0) dX12_book_131 (by decide) ?_
            refine am_bipush 99 (v := 99) dX12_book_132 (by decide) ?_
            obtain ⟨⟨v17, M17⟩, hk17, hyp⟩ := bd_some hyp
            try dsimp only at hyp
            refine am_callV [_, _] dX12_book_134 ml_X12_171 vm_X12_number (sh_54 g) rfl (fun _ => Nat.le_of_ble_eq_true rfl) (by omega) rfl (ef_X12_number (d := d + 0) (h := h) g hk17) rfl ?_
            change am_At _ _ _ 137 [_, _, _, _, _, _, _] [_] _ _
            refine am_istore dX12_book_137 (am_lb rfl) ?_
            change am_At _ _ _ 139 [_, _, _, _, _, _, _] [] _ _
            refine am_aload_n dX12_book_139 rfl ?_
            refine am_bipush 59 (v := 59) dX12_book_140 (by decide) ?_
            obtain ⟨M18, hk18, hyp⟩ := bd_some hyp
            try dsimp only at hyp
            refine am_callV [_] dX12_book_142 ml_X12_175 vm_X12_sign (sh_54 g) rfl (fun _ => Nat.le_of_ble_eq_true rfl) (by omega) rfl (ef_X12_sign (d := d + 0) (h := h) g hk18) rfl ?_
            change am_At _ _ _ 145 [_, _, _, _, _, _, _] [] _ _
            refine am_aload_n dX12_book_145 rfl ?_
            refine am_getI 12 5 dX12_book_146 fg_X12_119 (sh_54 g) (by decide) rfl ?_
            refine am_if_ne (33) 182 dX12_book_149 rfl ?_ ?_
            · intro hc19n
              have hc19n : ¬ ((M18 54 0 5) = 0) := hc19n
              replace hyp := it_neg hc19n hyp
              refine am_aload_n dX12_book_182 rfl ?_
              obtain ⟨M20, hk20, hyp⟩ := bd_some hyp
              try dsimp only at hyp
              refine am_callV [] dX12_book_183 ml_X12_125 vm_X12_blanks (sh_54 g) rfl (fun _ => Nat.le_of_ble_eq_true rfl) (by omega) rfl (ef_X12_blanks (d := d + 1) (h := h) g hk20) rfl ?_
              change am_At _ _ _ 186 [_, _, _, _, _, _, _] [] _ _
              refine am_goto (-138) 48 dX12_book_186 rfl ?_
              cases hyp
              refine am_At.drop 4 ?_
              refine am_At.drop 5 ?_
              refine am_At.drop 6 ?_
              exact hx
            · intro hc19
              have hc19 : (M18 54 0 5) = 0 := hc19
              replace hyp := it_pos hc19 hyp
              refine am_iload_n dX12_book_152 rfl ?_
              refine am_iconst 1 (v := 1) dX12_book_153 (by decide) ?_
              refine am_iload dX12_book_154 rfl ?_
              refine am_ishl dX12_book_156 ?_
              refine am_ior dX12_book_157 ?_
              refine am_istore_n dX12_book_158 (am_lb rfl) ?_
              change am_At _ _ _ 159 [_, _, _, _, _, _, _] [] _ _
              refine am_aload_n dX12_book_159 rfl ?_
              refine am_getR 12 24 68 dX12_book_160 fg_X12_55 (sh_54 g) (by decide) rfl (rf_54_24 g) ?_
              refine am_iload_n dX12_book_163 rfl ?_
              obtain ⟨hg21, hyp⟩ := gd_some hyp
              refine am_aald dX12_book_164 (sh_68 g) (am_lit hg21) ?_
              refine am_iconst 0 (v := 0) dX12_book_165 (by decide) ?_
              refine am_iload dX12_book_166 rfl ?_
              refine am_iast dX12_book_168 (am_ia.row (sh_68 g) (by omega) (am_vlt (am_lit hg21))) (am_lit rfl) ?_
              refine am_aload_n dX12_book_169 rfl ?_
              refine am_getR 12 24 68 dX12_book_170 fg_X12_55 (sh_54 g) (by decide) rfl (rf_54_24 g) ?_
              refine am_iload_n dX12_book_173 rfl ?_
              refine am_aald dX12_book_174 (sh_68 g) (am_lit hg21) ?_
              refine am_iconst 1 (v := 1) dX12_book_175 (by decide) ?_
              refine am_iload dX12_book_176 rfl ?_
              refine am_iast dX12_book_178 (am_ia.row (sh_68 g) (by omega) (am_vlt (am_lit hg21))) (am_lit rfl) ?_
              refine am_iinc dX12_book_179 rfl (am_ix _) ?_
              change am_At _ _ _ 182 [_, _, _, _, _, _, _] [] _ _
              refine am_aload_n dX12_book_182 rfl ?_
              obtain ⟨M22, hk22, hyp⟩ := bd_some hyp
              try dsimp only at hyp
              refine am_callV [] dX12_book_183 ml_X12_125 vm_X12_blanks (sh_54 g) rfl (fun _ => Nat.le_of_ble_eq_true rfl) (by omega) rfl (ef_X12_blanks (d := d + 1) (h := h) g hk22) rfl ?_
              change am_At _ _ _ 186 [_, _, _, _, _, _, _] [] _ _
              refine am_goto (-138) 48 dX12_book_186 rfl ?_
              cases hyp
              refine am_At.drop 4 ?_
              refine am_At.drop 5 ?_
              refine am_At.drop 6 ?_
              exact hx
          · intro hc16
            have hc16 : x2 = (12 : Int32) := hc16
            replace hyp := it_pos hc16 hyp
            refine am_aload_n dX12_book_123 rfl ?_
            refine am_iconst 3 (v := 3) dX12_book_124 (by decide) ?_
            refine am_iload dX12_book_125 rfl ?_
            refine am_callV [_, _] dX12_book_127 ml_X12_132 vm_X12_wrong (sh_54 g) rfl (fun _ => Nat.le_of_ble_eq_true rfl) (by omega) rfl (ef_X12_wrong (d := d + 2) (h := h) g (x1 := (3 : Int32)) (x2 := (M 54 0 4)) (M := M7) rfl) rfl ?_
            change am_At _ _ _ 130 [_, _, _, _, _, _, _] [] _ _
            refine am_aload_n dX12_book_130 rfl ?_
            refine am_iconst 0 (v := 0) dX12_book_131 (by decide) ?_
            refine am_bipush 99 (v := 99) dX12_book_132 (by decide) ?_
            obtain ⟨⟨v23, M23⟩, hk23, hyp⟩ := bd_some hyp
            try dsimp only at hyp
            refine am_callV [_, _] dX12_book_134 ml_X12_171 vm_X12_number (sh_54 g) rfl (fun _ => Nat.le_of_ble_eq_true rfl) (by omega) rfl (ef_X12_number (d := d + 0) (h := h) g hk23) rfl ?_
            change am_At _ _ _ 137 [_, _, _, _, _, _, _] [_] _ _
            refine am_istore dX12_book_137 (am_lb rfl) ?_
            change am_At _ _ _ 139 [_, _, _, _, _, _, _] [] _ _
            refine am_aload_n dX12_book_139 rfl ?_
            refine am_bipush 59 (v := 59) dX12_book_140 (by decide) ?_
            obtain ⟨M24, hk24, hyp⟩ := bd_some hyp
            try dsimp only at hyp
            refine am_callV [_] dX12_book_142 ml_X12_175 vm_X12_sign (sh_54 g) rfl (fun _ => Nat.le_of_ble_eq_true rfl) (by omega) rfl (ef_X12_sign (d := d + 0) (h := h) g hk24) rfl ?_
            change am_At _ _ _ 145 [_, _, _, _, _, _, _] [] _ _
            refine am_aload_n dX12_book_145 rfl ?_
            refine am_getI 12 5 dX12_book_146 fg_X12_119 (sh_54 g) (by decide) rfl ?_
            refine am_if_ne (33) 182 dX12_book_149 rfl ?_ ?_
            · intro hc25n
              have hc25n : ¬ ((M24 54 0 5) = 0) := hc25n
              replace hyp := it_neg hc25n hyp
              refine am_aload_n dX12_book_182 rfl ?_
              obtain ⟨M26, hk26, hyp⟩ := bd_some hyp
              try dsimp only at hyp
              refine am_callV [] dX12_book_183 ml_X12_125 vm_X12_blanks (sh_54 g) rfl (fun _ => Nat.le_of_ble_eq_true rfl) (by omega) rfl (ef_X12_blanks (d := d + 1) (h := h) g hk26) rfl ?_
              change am_At _ _ _ 186 [_, _, _, _, _, _, _] [] _ _
              refine am_goto (-138) 48 dX12_book_186 rfl ?_
              cases hyp
              refine am_At.drop 4 ?_
              refine am_At.drop 5 ?_
              refine am_At.drop 6 ?_
              exact hx
            · intro hc25
              have hc25 : (M24 54 0 5) = 0 := hc25
              replace hyp := it_pos hc25 hyp
              refine am_iload_n dX12_book_152 rfl ?_
              refine am_iconst 1 (v := 1) dX12_book_153 (by decide) ?_
              refine am_iload dX12_book_154 rfl ?_
              refine am_ishl dX12_book_156 ?_
              refine am_ior dX12_book_157 ?_
              refine am_istore_n dX12_book_158 (am_lb rfl) ?_
              change am_At _ _ _ 159 [_, _, _, _, _, _, _] [] _ _
              refine am_aload_n dX12_book_159 rfl ?_
              refine am_getR 12 24 68 dX12_book_160 fg_X12_55 (sh_54 g) (by decide) rfl (rf_54_24 g) ?_
              refine am_iload_n dX12_book_163 rfl ?_
              obtain ⟨hg27, hyp⟩ := gd_some hyp
              refine am_aald dX12_book_164 (sh_68 g) (am_lit hg27) ?_
              refine am_iconst 0 (v := 0) dX12_book_165 (by decide) ?_
              refine am_iload dX12_book_166 rfl ?_
              refine am_iast dX12_book_168 (am_ia.row (sh_68 g) (by omega) (am_vlt (am_lit hg27))) (am_lit rfl) ?_
              refine am_aload_n dX12_book_169 rfl ?_
              refine am_getR 12 24 68 dX12_book_170 fg_X12_55 (sh_54 g) (by decide) rfl (rf_54_24 g) ?_
              refine am_iload_n dX12_book_173 rfl ?_
              refine am_aald dX12_book_174 (sh_68 g) (am_lit hg27) ?_
              refine am_iconst 1 (v := 1) dX12_book_175 (by decide) ?_
              refine am_iload dX12_book_176 rfl ?_
              refine am_iast dX12_book_178 (am_ia.row (sh_68 g) (by omega) (am_vlt (am_lit hg27))) (am_lit rfl) ?_
              refine am_iinc dX12_book_179 rfl (am_ix _) ?_
              change am_At _ _ _ 182 [_, _, _, _, _, _, _] [] _ _
              refine am_aload_n dX12_book_182 rfl ?_
              obtain ⟨M28, hk28, hyp⟩ := bd_some hyp
              try dsimp only at hyp
              refine am_callV [] dX12_book_183 ml_X12_125 vm_X12_blanks (sh_54 g) rfl (fun _ => Nat.le_of_ble_eq_true rfl) (by omega) rfl (ef_X12_blanks (d := d + 1) (h := h) g hk28) rfl ?_
              change am_At _ _ _ 186 [_, _, _, _, _, _, _] [] _ _
              refine am_goto (-138) 48 dX12_book_186 rfl ?_
              cases hyp
              refine am_At.drop 4 ?_
              refine am_At.drop 5 ?_
              refine am_At.drop 6 ?_
              exact hx
        · intro hc15n
          have hc15n : ¬ ((f_X12_has x3 v7) = 0) := hc15n
          replace hyp := it_neg hc15n hyp
          refine am_aload_n dX12_book_103 rfl ?_
          refine am_iconst 2 (v := 2) dX12_book_104 (by decide) ?_
          refine am_iload dX12_book_105 rfl ?_
          refine am_callV [_, _] dX12_book_107 ml_X12_132 vm_X12_wrong (sh_54 g) rfl (fun _ => Nat.le_of_ble_eq_true rfl) (by omega) rfl (ef_X12_wrong (d := d + 2) (h := h) g (x1 := (2 : Int32)) (x2 := (M 54 0 4)) (M := M7) rfl) rfl ?_
          change am_At _ _ _ 110 [_, _, _, _, _, _, _] [] _ _
          refine am_aload_n dX12_book_110 rfl ?_
          refine am_getI 12 5 dX12_book_111 fg_X12_119 (sh_54 g) (by decide) rfl ?_
          refine am_if_ne (16) 130 dX12_book_114 rfl ?_ ?_
          · intro hc29n
            have hc29n : ¬ (((f_X12_wrong (2 : Int32) (M 54 0 4) M7) 54 0 5) = 0) := hc29n
            replace hyp := it_neg hc29n hyp
            refine am_aload_n dX12_book_130 rfl ?_
            refine am_iconst 0 (v := 0) dX12_book_131 (by decide) ?_
            refine am_bipush 99 (v := 99) dX12_book_132 (by decide) ?_
            obtain ⟨⟨v30, M30⟩, hk30, hyp⟩ := bd_some hyp
            try dsimp only at hyp
            refine am_callV [_, _] dX12_book_134 ml_X12_171 vm_X12_number (sh_54 g) rfl (fun _ => Nat.le_of_ble_eq_true rfl) (by omega) rfl (ef_X12_number (d := d + 0) (h := h) g hk30) rfl ?_
            change am_At _ _ _ 137 [_, _, _, _, _, _, _] [_] _ _
            refine am_istore dX12_book_137 (am_lb rfl) ?_
            change am_At _ _ _ 139 [_, _, _, _, _, _, _] [] _ _
            refine am_aload_n dX12_book_139 rfl ?_
            refine am_bipush 59 (v := 59) dX12_book_140 (by decide) ?_
            obtain ⟨M31, hk31, hyp⟩ := bd_some hyp
            try dsimp only at hyp
            refine am_callV [_] dX12_book_142 ml_X12_175 vm_X12_sign (sh_54 g) rfl (fun _ => Nat.le_of_ble_eq_true rfl) (by omega) rfl (ef_X12_sign (d := d + 0) (h := h) g hk31) rfl ?_
            change am_At _ _ _ 145 [_, _, _, _, _, _, _] [] _ _
            refine am_aload_n dX12_book_145 rfl ?_
            refine am_getI 12 5 dX12_book_146 fg_X12_119 (sh_54 g) (by decide) rfl ?_
            refine am_if_ne (33) 182 dX12_book_149 rfl ?_ ?_
            · intro hc32n
              have hc32n : ¬ ((M31 54 0 5) = 0) := hc32n
              replace hyp := it_neg hc32n hyp
              refine am_aload_n dX12_book_182 rfl ?_
              obtain ⟨M33, hk33, hyp⟩ := bd_some hyp
              try dsimp only at hyp
              refine am_callV [] dX12_book_183 ml_X12_125 vm_X12_blanks (sh_54 g) rfl (fun _ => Nat.le_of_ble_eq_true rfl) (by omega) rfl (ef_X12_blanks (d := d + 1) (h := h) g hk33) rfl ?_
              change am_At _ _ _ 186 [_, _, _, _, _, _, _] [] _ _
              refine am_goto (-138) 48 dX12_book_186 rfl ?_
              cases hyp
              refine am_At.drop 4 ?_
              refine am_At.drop 5 ?_
              refine am_At.drop 6 ?_
              exact hx
            · intro hc32
              have hc32 : (M31 54 0 5) = 0 := hc32
              replace hyp := it_pos hc32 hyp
              refine am_iload_n dX12_book_152 rfl ?_
              refine am_iconst 1 (v := 1) dX12_book_153 (by decide) ?_
              refine am_iload dX12_book_154 rfl ?_
              refine am_ishl dX12_book_156 ?_
              refine am_ior dX12_book_157 ?_
              refine am_istore_n dX12_book_158 (am_lb rfl) ?_
              change am_At _ _ _ 159 [_, _, _, _, _, _, _] [] _ _
              refine am_aload_n dX12_book_159 rfl ?_
              refine am_getR 12 24 68 dX12_book_160 fg_X12_55 (sh_54 g) (by decide) rfl (rf_54_24 g) ?_
              refine am_iload_n dX12_book_163 rfl ?_
              obtain ⟨hg34, hyp⟩ := gd_some hyp
              refine am_aald dX12_book_164 (sh_68 g) (am_lit hg34) ?_
              refine am_iconst 0 (v := 0) dX12_book_165 (by decide) ?_
              refine am_iload dX12_book_166 rfl ?_
              refine am_iast dX12_book_168 (am_ia.row (sh_68 g) (by omega) (am_vlt (am_lit hg34))) (am_lit rfl) ?_
              refine am_aload_n dX12_book_169 rfl ?_
              refine am_getR 12 24 68 dX12_book_170 fg_X12_55 (sh_54 g) (by decide) rfl (rf_54_24 g) ?_
              refine am_iload_n dX12_book_173 rfl ?_
              refine am_aald dX12_book_174 (sh_68 g) (am_lit hg34) ?_
              refine am_iconst 1 (v := 1) dX12_book_175 (by decide) ?_
              refine am_iload dX12_book_176 rfl ?_
              refine am_iast dX12_book_178 (am_ia.row (sh_68 g) (by omega) (am_vlt (am_lit hg34))) (am_lit rfl) ?_
              refine am_iinc dX12_book_179 rfl (am_ix _) ?_
              change am_At _ _ _ 182 [_, _, _, _, _, _, _] [] _ _
              refine am_aload_n dX12_book_182 rfl ?_
              obtain ⟨M35, hk35, hyp⟩ := bd_some hyp
              try dsimp only at hyp
              refine am_callV [] dX12_book_183 ml_X12_125 vm_X12_blanks (sh_54 g) rfl (fun _ => Nat.le_of_ble_eq_true rfl) (by omega) rfl (ef_X12_blanks (d := d + 1) (h := h) g hk35) rfl ?_
              change am_At _ _ _ 186 [_, _, _, _, _, _, _] [] _ _
              refine am_goto (-138) 48 dX12_book_186 rfl ?_
              cases hyp
              refine am_At.drop 4 ?_
              refine am_At.drop 5 ?_
              refine am_At.drop 6 ?_
              exact hx
          · intro hc29
            have hc29 : ((f_X12_wrong (2 : Int32) (M 54 0 4) M7) 54 0 5) = 0 := hc29
            replace hyp := it_pos hc29 hyp
            refine am_iload_n dX12_book_117 rfl ?_
            refine am_bipush 12 (v := 12) dX12_book_118 (by decide) ?_
            refine am_icmp_ne (10) 130 dX12_book_120 rfl ?_ ?_
            · intro hc36n
              have hc36n : ¬ (x2 = (12 : Int32)) := hc36n
              replace hyp := it_neg hc36n hyp
              refine am_aload_n dX12_book_130 rfl ?_
              refine am_iconst 0 (v := 0) dX12_book_131 (by decide) ?_
              refine am_bipush 99 (v := 99) dX12_book_132 (by decide) ?_
              obtain ⟨⟨v37, M37⟩, hk37, hyp⟩ := bd_some hyp
              try dsimp only at hyp
              refine am_callV [_, _] dX12_book_134 ml_X12_171 vm_X12_number (sh_54 g) rfl (fun _ => Nat.le_of_ble_eq_true rfl) (by omega) rfl (ef_X12_number (d := d + 0) (h := h) g hk37) rfl ?_
              change am_At _ _ _ 137 [_, _, _, _, _, _, _] [_] _ _
              refine am_istore dX12_book_137 (am_lb rfl) ?_
              change am_At _ _ _ 139 [_, _, _, _, _, _, _] [] _ _
              refine am_aload_n dX12_book_139 rfl ?_
              refine am_bipush 59 (v := 59) dX12_book_140 (by decide) ?_
              obtain ⟨M38, hk38, hyp⟩ := bd_some hyp
              try dsimp only at hyp
              refine am_callV [_] dX12_book_142 ml_X12_175 vm_X12_sign (sh_54 g) rfl (fun _ => Nat.le_of_ble_eq_true rfl) (by omega) rfl (ef_X12_sign (d := d + 0) (h := h) g hk38) rfl ?_
              change am_At _ _ _ 145 [_, _, _, _, _, _, _] [] _ _
              refine am_aload_n dX12_book_145 rfl ?_
              refine am_getI 12 5 dX12_book_146 fg_X12_119 (sh_54 g) (by decide) rfl ?_
              refine am_if_ne (33) 182 dX12_book_149 rfl ?_ ?_
              · intro hc39n
                have hc39n : ¬ ((M38 54 0 5) = 0) := hc39n
                replace hyp := it_neg hc39n hyp
                refine am_aload_n dX12_book_182 rfl ?_
                obtain ⟨M40, hk40, hyp⟩ := bd_some hyp
                try dsimp only at hyp
                refine am_callV [] dX12_book_183 ml_X12_125 vm_X12_blanks (sh_54 g) rfl (fun _ => Nat.le_of_ble_eq_true rfl) (by omega) rfl (ef_X12_blanks (d := d + 1) (h := h) g hk40) rfl ?_
                change am_At _ _ _ 186 [_, _, _, _, _, _, _] [] _ _
                refine am_goto (-138) 48 dX12_book_186 rfl ?_
                cases hyp
                refine am_At.drop 4 ?_
                refine am_At.drop 5 ?_
                refine am_At.drop 6 ?_
                exact hx
              · intro hc39
                have hc39 : (M38 54 0 5) = 0 := hc39
                replace hyp := it_pos hc39 hyp
                refine am_iload_n dX12_book_152 rfl ?_
                refine am_iconst 1 (v := 1) dX12_book_153 (by decide) ?_
                refine am_iload dX12_book_154 rfl ?_
                refine am_ishl dX12_book_156 ?_
                refine am_ior dX12_book_157 ?_
                refine am_istore_n dX12_book_158 (am_lb rfl) ?_
                change am_At _ _ _ 159 [_, _, _, _, _, _, _] [] _ _
                refine am_aload_n dX12_book_159 rfl ?_
                refine am_getR 12 24 68 dX12_book_160 fg_X12_55 (sh_54 g) (by decide) rfl (rf_54_24 g) ?_
                refine am_iload_n dX12_book_163 rfl ?_
                obtain ⟨hg41, hyp⟩ := gd_some hyp
                refine am_aald dX12_book_164 (sh_68 g) (am_lit hg41) ?_
                refine am_iconst 0 (v := 0) dX12_book_165 (by decide) ?_
                refine am_iload dX12_book_166 rfl ?_
                refine am_iast dX12_book_168 (am_ia.row (sh_68 g) (by omega) (am_vlt (am_lit hg41))) (am_lit rfl) ?_
                refine am_aload_n dX12_book_169 rfl ?_
                refine am_getR 12 24 68 dX12_book_170 fg_X12_55 (sh_54 g) (by decide) rfl (rf_54_24 g) ?_
                refine am_iload_n dX12_book_173 rfl ?_
                refine am_aald dX12_book_174 (sh_68 g) (am_lit hg41) ?_
                refine am_iconst 1 (v := 1) dX12_book_175 (by decide) ?_
                refine am_iload dX12_book_176 rfl ?_
                refine am_iast dX12_book_178 (am_ia.row (sh_68 g) (by omega) (am_vlt (am_lit hg41))) (am_lit rfl) ?_
                refine am_iinc dX12_book_179 rfl (am_ix _) ?_
                change am_At _ _ _ 182 [_, _, _, _, _, _, _] [] _ _
                refine am_aload_n dX12_book_182 rfl ?_
                obtain ⟨M42, hk42, hyp⟩ := bd_some hyp
                try dsimp only at hyp
                refine am_callV [] dX12_book_183 ml_X12_125 vm_X12_blanks (sh_54 g) rfl (fun _ => Nat.le_of_ble_eq_true rfl) (by omega) rfl (ef_X12_blanks (d := d + 1) (h := h) g hk42) rfl ?_
                change am_At _ _ _ 186 [_, _, _, _, _, _, _] [] _ _
                refine am_goto (-138) 48 dX12_book_186 rfl ?_
                cases hyp
                refine am_At.drop 4 ?_
                refine am_At.drop 5 ?_
                refine am_At.drop 6 ?_
                exact hx
            · intro hc36
              have hc36 : x2 = (12 : Int32) := hc36
              replace hyp := it_pos hc36 hyp
              refine am_aload_n dX12_book_123 rfl ?_
              refine am_iconst 3 (v := 3) dX12_book_124 (by decide) ?_
              refine am_iload dX12_book_125 rfl ?_
              refine am_callV [_, _] dX12_book_127 ml_X12_132 vm_X12_wrong (sh_54 g) rfl (fun _ => Nat.le_of_ble_eq_true rfl) (by omega) rfl (ef_X12_wrong (d := d + 2) (h := h) g (x1 := (3 : Int32)) (x2 := (M 54 0 4)) (M := (f_X12_wrong (2 : Int32) (M 54 0 4) M7)) rfl) rfl ?_
              change am_At _ _ _ 130 [_, _, _, _, _, _, _] [] _ _
              refine am_aload_n dX12_book_130 rfl ?_
              refine am_iconst 0 (v := 0) dX12_book_131 (by decide) ?_
              refine am_bipush 99 (v := 99) dX12_book_132 (by decide) ?_
              obtain ⟨⟨v43, M43⟩, hk43, hyp⟩ := bd_some hyp
              try dsimp only at hyp
              refine am_callV [_, _] dX12_book_134 ml_X12_171 vm_X12_number (sh_54 g) rfl (fun _ => Nat.le_of_ble_eq_true rfl) (by omega) rfl (ef_X12_number (d := d + 0) (h := h) g hk43) rfl ?_
              change am_At _ _ _ 137 [_, _, _, _, _, _, _] [_] _ _
              refine am_istore dX12_book_137 (am_lb rfl) ?_
              change am_At _ _ _ 139 [_, _, _, _, _, _, _] [] _ _
              refine am_aload_n dX12_book_139 rfl ?_
              refine am_bipush 59 (v := 59) dX12_book_140 (by decide) ?_
              obtain ⟨M44, hk44, hyp⟩ := bd_some hyp
              try dsimp only at hyp
              refine am_callV [_] dX12_book_142 ml_X12_175 vm_X12_sign (sh_54 g) rfl (fun _ => Nat.le_of_ble_eq_true rfl) (by omega) rfl (ef_X12_sign (d := d + 0) (h := h) g hk44) rfl ?_
              change am_At _ _ _ 145 [_, _, _, _, _, _, _] [] _ _
              refine am_aload_n dX12_book_145 rfl ?_
              refine am_getI 12 5 dX12_book_146 fg_X12_119 (sh_54 g) (by decide) rfl ?_
              refine am_if_ne (33) 182 dX12_book_149 rfl ?_ ?_
              · intro hc45n
                have hc45n : ¬ ((M44 54 0 5) = 0) := hc45n
                replace hyp := it_neg hc45n hyp
                refine am_aload_n dX12_book_182 rfl ?_
                obtain ⟨M46, hk46, hyp⟩ := bd_some hyp
                try dsimp only at hyp
                refine am_callV [] dX12_book_183 ml_X12_125 vm_X12_blanks (sh_54 g) rfl (fun _ => Nat.le_of_ble_eq_true rfl) (by omega) rfl (ef_X12_blanks (d := d + 1) (h := h) g hk46) rfl ?_
                change am_At _ _ _ 186 [_, _, _, _, _, _, _] [] _ _
                refine am_goto (-138) 48 dX12_book_186 rfl ?_
                cases hyp
                refine am_At.drop 4 ?_
                refine am_At.drop 5 ?_
                refine am_At.drop 6 ?_
                exact hx
              · intro hc45
                have hc45 : (M44 54 0 5) = 0 := hc45
                replace hyp := it_pos hc45 hyp
                refine am_iload_n dX12_book_152 rfl ?_
                refine am_iconst 1 (v := 1) dX12_book_153 (by decide) ?_
                refine am_iload dX12_book_154 rfl ?_
                refine am_ishl dX12_book_156 ?_
                refine am_ior dX12_book_157 ?_
                refine am_istore_n dX12_book_158 (am_lb rfl) ?_
                change am_At _ _ _ 159 [_, _, _, _, _, _, _] [] _ _
                refine am_aload_n dX12_book_159 rfl ?_
                refine am_getR 12 24 68 dX12_book_160 fg_X12_55 (sh_54 g) (by decide) rfl (rf_54_24 g) ?_
                refine am_iload_n dX12_book_163 rfl ?_
                obtain ⟨hg47, hyp⟩ := gd_some hyp
                refine am_aald dX12_book_164 (sh_68 g) (am_lit hg47) ?_
                refine am_iconst 0 (v := 0) dX12_book_165 (by decide) ?_
                refine am_iload dX12_book_166 rfl ?_
                refine am_iast dX12_book_168 (am_ia.row (sh_68 g) (by omega) (am_vlt (am_lit hg47))) (am_lit rfl) ?_
                refine am_aload_n dX12_book_169 rfl ?_
                refine am_getR 12 24 68 dX12_book_170 fg_X12_55 (sh_54 g) (by decide) rfl (rf_54_24 g) ?_
                refine am_iload_n dX12_book_173 rfl ?_
                refine am_aald dX12_book_174 (sh_68 g) (am_lit hg47) ?_
                refine am_iconst 1 (v := 1) dX12_book_175 (by decide) ?_
                refine am_iload dX12_book_176 rfl ?_
                refine am_iast dX12_book_178 (am_ia.row (sh_68 g) (by omega) (am_vlt (am_lit hg47))) (am_lit rfl) ?_
                refine am_iinc dX12_book_179 rfl (am_ix _) ?_
                change am_At _ _ _ 182 [_, _, _, _, _, _, _] [] _ _
                refine am_aload_n dX12_book_182 rfl ?_
                obtain ⟨M48, hk48, hyp⟩ := bd_some hyp
                try dsimp only at hyp
                refine am_callV [] dX12_book_183 ml_X12_125 vm_X12_blanks (sh_54 g) rfl (fun _ => Nat.le_of_ble_eq_true rfl) (by omega) rfl (ef_X12_blanks (d := d + 1) (h := h) g hk48) rfl ?_
                change am_At _ _ _ 186 [_, _, _, _, _, _, _] [] _ _
                refine am_goto (-138) 48 dX12_book_186 rfl ?_
                cases hyp
                refine am_At.drop 4 ?_
                refine am_At.drop 5 ?_
                refine am_At.drop 6 ?_
                exact hx
theorem ef_X12_book {d : Nat} {h : am_H} (g : lay h) {x1 : Int32} {M : Mem} {v : Int32} {M' : Mem} (hyp : f_X12_book x1 M = some (v, M')) : am_Ev (d + 3) mX12_book [.inr (54, 0), am_I x1] (am_hM h M) (.inl (some (am_I v), am_hM h M')) := by
  unfold f_X12_book at hyp
  refine am_Ev.mk (by decide +kernel) rfl rfl (Nat.le_refl _) (Nat.le_refl _) ?_
  change am_At _ _ _ 0 [_, _, _, _, _, _, _] [] _ _
  refine am_aload_n dX12_book_0 rfl ?_
  refine am_iconst 0 (v := 0) dX12_book_1 (by decide) ?_
  refine am_putI 12 0 dX12_book_2 (Or.inl fp_X12_103) (sh_54 g) (by decide) rfl rfl rfl ?_
  refine am_aload_n dX12_book_5 rfl ?_
  refine am_iload_n dX12_book_6 rfl ?_
  refine am_iconst 0 (v := 0) dX12_book_7 (by decide) ?_
  refine am_aload_n dX12_book_8 rfl ?_
  refine am_getI 12 1 dX12_book_9 fg_X12_106 (sh_54 g) (by decide) rfl ?_
  refine am_callS (c := 0) (k := 0) (n := 0) (w := 0) [_, _, _] dX12_book_12 ml_X12_137 sm_X12_in rfl (fun _ => Nat.le_of_ble_eq_true rfl) (by omega) rfl (ef_X12_in (d := d + 2) (h := am_hM h (am_u3 M 54 0 0 (0 : Int32))) (x0 := x1) (x1 := (0 : Int32)) (x2 := (M 54 0 1))  rfl) rfl ?_
  change am_At _ _ _ 15 [_, _, _, _, _, _, _] [_, _] _ _
  refine am_if_eq (9) 24 dX12_book_15 rfl ?_ ?_
  · intro hc1
    have hc1 : (f_X12_in x1 (0 : Int32) (M 54 0 1)) = 0 := hc1
    replace hyp := it_pos hc1 hyp
    refine am_iconst 1 (v := 1) dX12_book_24 (by decide) ?_
    refine am_goto (4) 29 dX12_book_25 rfl ?_
    refine am_iconst 1 (v := 1) dX12_book_29 (by decide) ?_
    refine am_iconst 1 (v := 1) dX12_book_30 (by decide) ?_
    obtain ⟨⟨v2, M2⟩, hk2, hyp⟩ := bd_some hyp
    try dsimp only at hyp
    refine am_callV [_, _, _] dX12_book_31 ml_X12_179 vm_X12_bad (sh_54 g) rfl (fun _ => Nat.le_of_ble_eq_true rfl) (by omega) rfl (ef_X12_bad (d := d + 2) (h := h) g hk2) rfl ?_
    change am_At _ _ _ 34 [_, _, _, _, _, _, _] [_] _ _
    refine am_if_eq (5) 39 dX12_book_34 rfl ?_ ?_
    · intro hc3
      have hc3 : v2 = 0 := hc3
      replace hyp := it_pos hc3 hyp
      refine am_aload_n dX12_book_39 rfl ?_
      refine am_iload_n dX12_book_40 rfl ?_
      obtain ⟨M4, hk4, hyp⟩ := bd_some hyp
      try dsimp only at hyp
      refine am_callV [_] dX12_book_41 ml_X12_183 vm_X12_starts (sh_54 g) rfl (fun _ => Nat.le_of_ble_eq_true rfl) (by omega) rfl (ef_X12_starts (d := d + 0) (h := h) g hk4) rfl ?_
      change am_At _ _ _ 44 [_, _, _, _, _, _, _] [] _ _
      refine am_iconst 0 (v := 0) dX12_book_44 (by decide) ?_
      refine am_istore_n dX12_book_45 (am_lb rfl) ?_
      change am_At _ _ _ 46 [_, _, _, _, _, _, _] [] _ _
      refine am_iconst 0 (v := 0) dX12_book_46 (by decide) ?_
      refine am_istore_n dX12_book_47 (am_lb rfl) ?_
      change am_At _ _ _ 48 [_, _, _, _, _, _, _] [] _ _
      obtain ⟨⟨x2_49, M49⟩, hw49, hyp⟩ := bd_some hyp
      refine am_At.drop 1 ?_
      try dsimp only at hyp
      refine eL_X12_book_48 (d := d) (h := h) g  FU ((0 : Int32), (0 : Int32), M4) (x2_49, M49) hw49 ?_
      change am_At _ _ _ 189 [_, _, _, _, _, _, _] [] _ _
      refine am_aload_n dX12_book_189 rfl ?_
      refine am_getI 12 5 dX12_book_190 fg_X12_119 (sh_54 g) (by decide) rfl ?_
      refine am_if_eq (8) 201 dX12_book_193 rfl ?_ ?_
      · intro hc50
        have hc50 : (M49 54 0 5) = 0 := hc50
        replace hyp := it_pos hc50 hyp
        refine am_aload_n dX12_book_201 rfl ?_
        refine am_iconst (-1) (v := (-1)) dX12_book_202 (by decide) ?_
        refine am_putI 12 3 dX12_book_203 (Or.inl fp_X12_9) (sh_54 g) (by decide) rfl rfl rfl ?_
        refine am_aload_n dX12_book_206 rfl ?_
        refine am_iload_n dX12_book_207 rfl ?_
        refine am_putI 12 34 dX12_book_208 (Or.inl fp_X12_199) (sh_54 g) (by decide) rfl rfl rfl ?_
        refine am_aload_n dX12_book_211 rfl ?_
        refine am_getR 12 24 68 dX12_book_212 fg_X12_55 (sh_54 g) (by decide) rfl (rf_54_24 g) ?_
        refine am_aload_n dX12_book_215 rfl ?_
        refine am_getR 12 23 67 dX12_book_216 fg_X12_52 (sh_54 g) (by decide) rfl (rf_54_23 g) ?_
        refine am_iload_n dX12_book_219 rfl ?_
        obtain ⟨M51, hk51, hyp⟩ := bd_some hyp
        try dsimp only at hyp
        refine am_callS (c := 0) (k := 0) (n := 0) (w := 0) [_, _, _] dX12_book_220 ml_X12_192 sm_X12_lays rfl (fun _ => Nat.le_of_ble_eq_true rfl) (by omega) rfl (ef_X12_lays_k (d := d + 2) (h := h) g hk51) rfl ?_
        change am_At _ _ _ 223 [_, _, _, _, _, _, _] [] _ _
        refine am_iload_n dX12_book_223 rfl ?_
        cases hyp
        exact am_iret dX12_book_224 rfl
      · intro hc50n
        have hc50n : ¬ ((M49 54 0 5) = 0) := hc50n
        replace hyp := it_neg hc50n hyp
        refine am_aload_n dX12_book_196 rfl ?_
        refine am_callV [] dX12_book_197 ml_X12_189 vm_X12_ends (sh_54 g) rfl (fun _ => Nat.le_of_ble_eq_true rfl) (by omega) rfl (ef_X12_ends (d := d + 2) (h := h) g  (M := M49) rfl) rfl ?_
        change am_At _ _ _ 200 [_, _, _, _, _, _, _] [_] _ _
        cases hyp
        exact am_iret dX12_book_200 rfl
    · intro hc3n
      have hc3n : ¬ (v2 = 0) := hc3n
      replace hyp := it_neg hc3n hyp
      refine am_iconst 0 (v := 0) dX12_book_37 (by decide) ?_
      cases hyp
      exact am_iret dX12_book_38 rfl
  · intro hc1n
    have hc1n : ¬ ((f_X12_in x1 (0 : Int32) (M 54 0 1)) = 0) := hc1n
    replace hyp := it_neg hc1n hyp
    refine am_iload_n dX12_book_18 rfl ?_
    refine am_bipush 100 (v := 100) dX12_book_19 (by decide) ?_
    refine am_icmp_le (7) 28 dX12_book_21 rfl ?_ ?_
    · intro hc52
      have hc52 : x1 ≤ (100 : Int32) := hc52
      replace hyp := it_pos hc52 hyp
      refine am_iconst 0 (v := 0) dX12_book_28 (by decide) ?_
      refine am_iconst 1 (v := 1) dX12_book_29 (by decide) ?_
      refine am_iconst 1 (v := 1) dX12_book_30 (by decide) ?_
      obtain ⟨⟨v53, M53⟩, hk53, hyp⟩ := bd_some hyp
      try dsimp only at hyp
      refine am_callV [_, _, _] dX12_book_31 ml_X12_179 vm_X12_bad (sh_54 g) rfl (fun _ => Nat.le_of_ble_eq_true rfl) (by omega) rfl (ef_X12_bad (d := d + 2) (h := h) g hk53) rfl ?_
      change am_At _ _ _ 34 [_, _, _, _, _, _, _] [_] _ _
      refine am_if_eq (5) 39 dX12_book_34 rfl ?_ ?_
      · intro hc54
        have hc54 : v53 = 0 := hc54
        replace hyp := it_pos hc54 hyp
        refine am_aload_n dX12_book_39 rfl ?_
        refine am_iload_n dX12_book_40 rfl ?_
        obtain ⟨M55, hk55, hyp⟩ := bd_some hyp
        try dsimp only at hyp
        refine am_callV [_] dX12_book_41 ml_X12_183 vm_X12_starts (sh_54 g) rfl (fun _ => Nat.le_of_ble_eq_true rfl) (by omega) rfl (ef_X12_starts (d := d + 0) (h := h) g hk55) rfl ?_
        change am_At _ _ _ 44 [_, _, _, _, _, _, _] [] _ _
        refine am_iconst 0 (v := 0) dX12_book_44 (by decide) ?_
        refine am_istore_n dX12_book_45 (am_lb rfl) ?_
        change am_At _ _ _ 46 [_, _, _, _, _, _, _] [] _ _
        refine am_iconst 0 (v := 0) dX12_book_46 (by decide) ?_
        refine am_istore_n dX12_book_47 (am_lb rfl) ?_
        change am_At _ _ _ 48 [_, _, _, _, _, _, _] [] _ _
        obtain ⟨⟨x2_56, M56⟩, hw56, hyp⟩ := bd_some hyp
        refine am_At.drop 1 ?_
        try dsimp only at hyp
        refine eL_X12_book_48 (d := d) (h := h) g  FU ((0 : Int32), (0 : Int32), M55) (x2_56, M56) hw56 ?_
        change am_At _ _ _ 189 [_, _, _, _, _, _, _] [] _ _
        refine am_aload_n dX12_book_189 rfl ?_
        refine am_getI 12 5 dX12_book_190 fg_X12_119 (sh_54 g) (by decide) rfl ?_
        refine am_if_eq (8) 201 dX12_book_193 rfl ?_ ?_
        · intro hc57
          have hc57 : (M56 54 0 5) = 0 := hc57
          replace hyp := it_pos hc57 hyp
          refine am_aload_n dX12_book_201 rfl ?_
          refine am_iconst (-1) (v := (-1)) dX12_book_202 (by decide) ?_
          refine am_putI 12 3 dX12_book_203 (Or.inl fp_X12_9) (sh_54 g) (by decide) rfl rfl rfl ?_
          refine am_aload_n dX12_book_206 rfl ?_
          refine am_iload_n dX12_book_207 rfl ?_
          refine am_putI 12 34 dX12_book_208 (Or.inl fp_X12_199) (sh_54 g) (by decide) rfl rfl rfl ?_
          refine am_aload_n dX12_book_211 rfl ?_
          refine am_getR 12 24 68 dX12_book_212 fg_X12_55 (sh_54 g) (by decide) rfl (rf_54_24 g) ?_
          refine am_aload_n dX12_book_215 rfl ?_
          refine am_getR 12 23 67 dX12_book_216 fg_X12_52 (sh_54 g) (by decide) rfl (rf_54_23 g) ?_
          refine am_iload_n dX12_book_219 rfl ?_
          obtain ⟨M58, hk58, hyp⟩ := bd_some hyp
          try dsimp only at hyp
          refine am_callS (c := 0) (k := 0) (n := 0) (w := 0) [_, _, _] dX12_book_220 ml_X12_192 sm_X12_lays rfl (fun _ => Nat.le_of_ble_eq_true rfl) (by omega) rfl (ef_X12_lays_k (d := d + 2) (h := h) g hk58) rfl ?_
          change am_At _ _ _ 223 [_, _, _, _, _, _, _] [] _ _
          refine am_iload_n dX12_book_223 rfl ?_
          cases hyp
          exact am_iret dX12_book_224 rfl
        · intro hc57n
          have hc57n : ¬ ((M56 54 0 5) = 0) := hc57n
          replace hyp := it_neg hc57n hyp
          refine am_aload_n dX12_book_196 rfl ?_
          refine am_callV [] dX12_book_197 ml_X12_189 vm_X12_ends (sh_54 g) rfl (fun _ => Nat.le_of_ble_eq_true rfl) (by omega) rfl (ef_X12_ends (d := d + 2) (h := h) g  (M := M56) rfl) rfl ?_
          change am_At _ _ _ 200 [_, _, _, _, _, _, _] [_] _ _
          cases hyp
          exact am_iret dX12_book_200 rfl
      · intro hc54n
        have hc54n : ¬ (v53 = 0) := hc54n
        replace hyp := it_neg hc54n hyp
        refine am_iconst 0 (v := 0) dX12_book_37 (by decide) ?_
        cases hyp
        exact am_iret dX12_book_38 rfl
    · intro hc52n
      have hc52n : ¬ (x1 ≤ (100 : Int32)) := hc52n
      replace hyp := it_neg hc52n hyp
      refine am_iconst 1 (v := 1) dX12_book_24 (by decide) ?_
      refine am_goto (4) 29 dX12_book_25 rfl ?_
      refine am_iconst 1 (v := 1) dX12_book_29 (by decide) ?_
      refine am_iconst 1 (v := 1) dX12_book_30 (by decide) ?_
      obtain ⟨⟨v59, M59⟩, hk59, hyp⟩ := bd_some hyp
      try dsimp only at hyp
      refine am_callV [_, _, _] dX12_book_31 ml_X12_179 vm_X12_bad (sh_54 g) rfl (fun _ => Nat.le_of_ble_eq_true rfl) (by omega) rfl (ef_X12_bad (d := d + 2) (h := h) g hk59) rfl ?_
      change am_At _ _ _ 34 [_, _, _, _, _, _, _] [_] _ _
      refine am_if_eq (5) 39 dX12_book_34 rfl ?_ ?_
      · intro hc60
        have hc60 : v59 = 0 := hc60
        replace hyp := it_pos hc60 hyp
        refine am_aload_n dX12_book_39 rfl ?_
        refine am_iload_n dX12_book_40 rfl ?_
        obtain ⟨M61, hk61, hyp⟩ := bd_some hyp
        try dsimp only at hyp
        refine am_callV [_] dX12_book_41 ml_X12_183 vm_X12_starts (sh_54 g) rfl (fun _ => Nat.le_of_ble_eq_true rfl) (by omega) rfl (ef_X12_starts (d := d + 0) (h := h) g hk61) rfl ?_
        change am_At _ _ _ 44 [_, _, _, _, _, _, _] [] _ _
        refine am_iconst 0 (v := 0) dX12_book_44 (by decide) ?_
        refine am_istore_n dX12_book_45 (am_lb rfl) ?_
        change am_At _ _ _ 46 [_, _, _, _, _, _, _] [] _ _
        refine am_iconst 0 (v := 0) dX12_book_46 (by decide) ?_
        refine am_istore_n dX12_book_47 (am_lb rfl) ?_
        change am_At _ _ _ 48 [_, _, _, _, _, _, _] [] _ _
        obtain ⟨⟨x2_62, M62⟩, hw62, hyp⟩ := bd_some hyp
        refine am_At.drop 1 ?_
        try dsimp only at hyp
        refine eL_X12_book_48 (d := d) (h := h) g  FU ((0 : Int32), (0 : Int32), M61) (x2_62, M62) hw62 ?_
        change am_At _ _ _ 189 [_, _, _, _, _, _, _] [] _ _
        refine am_aload_n dX12_book_189 rfl ?_
        refine am_getI 12 5 dX12_book_190 fg_X12_119 (sh_54 g) (by decide) rfl ?_
        refine am_if_eq (8) 201 dX12_book_193 rfl ?_ ?_
        · intro hc63
          have hc63 : (M62 54 0 5) = 0 := hc63
          replace hyp := it_pos hc63 hyp
          refine am_aload_n dX12_book_201 rfl ?_
          refine am_iconst (-1) (v := (-1)) dX12_book_202 (by decide) ?_
          refine am_putI 12 3 dX12_book_203 (Or.inl fp_X12_9) (sh_54 g) (by decide) rfl rfl rfl ?_
          refine am_aload_n dX12_book_206 rfl ?_
          refine am_iload_n dX12_book_207 rfl ?_
          refine am_putI 12 34 dX12_book_208 (Or.inl fp_X12_199) (sh_54 g) (by decide) rfl rfl rfl ?_
          refine am_aload_n dX12_book_211 rfl ?_
          refine am_getR 12 24 68 dX12_book_212 fg_X12_55 (sh_54 g) (by decide) rfl (rf_54_24 g) ?_
          refine am_aload_n dX12_book_215 rfl ?_
          refine am_getR 12 23 67 dX12_book_216 fg_X12_52 (sh_54 g) (by decide) rfl (rf_54_23 g) ?_
          refine am_iload_n dX12_book_219 rfl ?_
          obtain ⟨M64, hk64, hyp⟩ := bd_some hyp
          try dsimp only at hyp
          refine am_callS (c := 0) (k := 0) (n := 0) (w := 0) [_, _, _] dX12_book_220 ml_X12_192 sm_X12_lays rfl (fun _ => Nat.le_of_ble_eq_true rfl) (by omega) rfl (ef_X12_lays_k (d := d + 2) (h := h) g hk64) rfl ?_
          change am_At _ _ _ 223 [_, _, _, _, _, _, _] [] _ _
          refine am_iload_n dX12_book_223 rfl ?_
          cases hyp
          exact am_iret dX12_book_224 rfl
        · intro hc63n
          have hc63n : ¬ ((M62 54 0 5) = 0) := hc63n
          replace hyp := it_neg hc63n hyp
          refine am_aload_n dX12_book_196 rfl ?_
          refine am_callV [] dX12_book_197 ml_X12_189 vm_X12_ends (sh_54 g) rfl (fun _ => Nat.le_of_ble_eq_true rfl) (by omega) rfl (ef_X12_ends (d := d + 2) (h := h) g  (M := M62) rfl) rfl ?_
          change am_At _ _ _ 200 [_, _, _, _, _, _, _] [_] _ _
          cases hyp
          exact am_iret dX12_book_200 rfl
      · intro hc60n
        have hc60n : ¬ (v59 = 0) := hc60n
        replace hyp := it_neg hc60n hyp
        refine am_iconst 0 (v := 0) dX12_book_37 (by decide) ?_
        cases hyp
        exact am_iret dX12_book_38 rfl
