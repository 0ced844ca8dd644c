theorem eL_X11_nose_21_46 {d : Nat} {h : am_H} (g : lay h) (hN : h.2.2 45 1 = some 46 ∧ h.2.2 45 2 = some 47) {x1 : Int32} {r : am_R} (n : Nat) : ∀ (s : Int32 × Int32 × Int32 × Mem) (e : Int32 × Int32 × Mem), wh (L_X11_nose_21 46 47) n s = some e → (match e with | (x2, x3, M) => am_At am_X0 (d + 5) mX11_nose 89 [some (.inr (0, 0)), some (am_I (x1)), some (am_I (x2)), some (am_I (x3)), none, none] [] (am_hM h M) r) → (match s with | (x2, x3, x4, M) => am_At am_X0 (d + 5) mX11_nose 21 [some (.inr (0, 0)), some (am_I (x1)), some (am_I (x2)), some (am_I (x3)), some (am_I (x4)), none] [] (am_hM h M) r) := by
  refine am_wh (At := fun (s : Int32 × Int32 × Int32 × Mem) => match s with | (x2, x3, x4, M) => am_At am_X0 (d + 5) mX11_nose 21 [some (.inr (0, 0)), some (am_I (x1)), some (am_I (x2)), some (am_I (x3)), some (am_I (x4)), none] [] (am_hM h M) r) (Ex := fun (e : Int32 × Int32 × Mem) => match e with | (x2, x3, M) => am_At am_X0 (d + 5) mX11_nose 89 [some (.inr (0, 0)), some (am_I (x1)), some (am_I (x2)), some (am_I (x3)), none, none] [] (am_hM h M) r) ?_ n
  rintro ⟨x2, x3, x4, M⟩ y hyp hx
  unfold L_X11_nose_21 at hyp
  try dsimp only at hyp
  change am_At _ _ _ 21 [_, _, _, _, _, _] [] _ _
  refine am_iload dX11_nose_21 rfl ?_
  refine am_aload_n dX11_nose_23 rfl ?_
  refine am_getR 11 1 3 dX11_nose_24 fg_X11_19 (sh_0 g) (by decide) rfl (rf_0_1 g) ?_
  refine am_getI 1 0 dX11_nose_27 fg_X11_142 (sh_3 g) (by decide) rfl ?_
  refine am_icmp_ge (59) 89 dX11_nose_30 rfl ?_ ?_
  · intro hc3
    have hc3 : (M 3 0 0) ≤ x4 := hc3
    replace hyp := it_pos hc3 hyp
    cases hyp
    refine am_At.drop 4 ?_
    exact hx
  · intro hc3n
    have hc3n : ¬ ((M 3 0 0) ≤ x4) := hc3n
    replace hyp := it_neg hc3n hyp
    refine am_aload_n dX11_nose_33 rfl ?_
    refine am_getR 11 10 45 dX11_nose_34 fg_X11_84 (sh_0 g) (by decide) rfl (rf_0_10 g) ?_
    refine am_iload dX11_nose_37 rfl ?_
    obtain ⟨v4, hk4, hyp⟩ := bd_some hyp
    try dsimp only at hyp
    refine am_callV [_] dX11_nose_39 ml_X11_359 vm_X5_isInBook (sh_45 g) rfl (fun _ => Nat.le_of_ble_eq_true rfl) (by omega) rfl (ef_X5_isInBook_46 (d := d + 4) (h := h) g hN hk4) rfl ?_
    change am_At _ _ _ 42 [_, _, _, _, _, _] [_] _ _
    refine am_if_eq (7) 49 dX11_nose_42 rfl ?_ ?_
    · intro hc5
      have hc5 : v4 = 0 := hc5
      replace hyp := it_pos hc5 hyp
      refine am_aload_n dX11_nose_49 rfl ?_
      refine am_getR 11 10 45 dX11_nose_50 fg_X11_84 (sh_0 g) (by decide) rfl (rf_0_10 g) ?_
      refine am_iload dX11_nose_53 rfl ?_
      obtain ⟨⟨v6, M6⟩, hk6, hyp⟩ := bd_some hyp
      try dsimp only at hyp
      refine am_callV [_] dX11_nose_55 ml_X11_362 vm_X5_mostLeftBy (sh_45 g) rfl (fun _ => Nat.le_of_ble_eq_true rfl) (by omega) rfl (ef_X5_mostLeftBy (d := d + 2) (h := h) g hk6) rfl ?_
      change am_At _ _ _ 58 [_, _, _, _, _, _] [_] _ _
      refine am_istore dX11_nose_58 (am_lb rfl) ?_
      change am_At _ _ _ 60 [_, _, _, _, _, _] [] _ _
      refine am_iload dX11_nose_60 rfl ?_
      refine am_iconst (-1) (v := (-1)) dX11_nose_62 (by decide) ?_
      refine am_icmp_eq (20) 83 dX11_nose_63 rfl ?_ ?_
      · intro hc7
        have hc7 : v6 = (-1 : Int32) := hc7
        replace hyp := it_pos hc7 hyp
        refine am_iinc dX11_nose_83 rfl (am_ix _) ?_
        change am_At _ _ _ 86 [_, _, _, _, _, _] [] _ _
        refine am_goto (-65) 21 dX11_nose_86 rfl ?_
        cases hyp
        refine am_At.drop 5 ?_
        exact hx
      · intro hc7n
        have hc7n : ¬ (v6 = (-1 : Int32)) := hc7n
        replace hyp := it_neg hc7n hyp
        refine am_iload_n dX11_nose_66 rfl ?_
        refine am_iconst (-1) (v := (-1)) dX11_nose_67 (by decide) ?_
        refine am_icmp_eq (9) 77 dX11_nose_68 rfl ?_ ?_
        · intro hc8
          have hc8 : x2 = (-1 : Int32) := hc8
          replace hyp := it_pos hc8 hyp
          refine am_iload dX11_nose_77 rfl ?_
          refine am_istore_n dX11_nose_79 (am_lb rfl) ?_
          change am_At _ _ _ 80 [_, _, _, _, _, _] [] _ _
          refine am_iload dX11_nose_80 rfl ?_
          refine am_istore_n dX11_nose_82 (am_lb rfl) ?_
          change am_At _ _ _ 83 [_, _, _, _, _, _] [] _ _
          refine am_iinc dX11_nose_83 rfl (am_ix _) ?_
          change am_At _ _ _ 86 [_, _, _, _, _, _] [] _ _
          refine am_goto (-65) 21 dX11_nose_86 rfl ?_
          cases hyp
          refine am_At.drop 5 ?_
          exact hx
        · intro hc8n
          have hc8n : ¬ (x2 = (-1 : Int32)) := hc8n
          replace hyp := it_neg hc8n hyp
          refine am_iload dX11_nose_71 rfl ?_
          refine am_iload_n dX11_nose_73 rfl ?_
          refine am_icmp_ge (9) 83 dX11_nose_74 rfl ?_ ?_
          · intro hc9
            have hc9 : x3 ≤ v6 := hc9
            replace hyp := it_pos hc9 hyp
            refine am_iinc dX11_nose_83 rfl (am_ix _) ?_
            change am_At _ _ _ 86 [_, _, _, _, _, _] [] _ _
            refine am_goto (-65) 21 dX11_nose_86 rfl ?_
            cases hyp
            refine am_At.drop 5 ?_
            exact hx
          · intro hc9n
            have hc9n : ¬ (x3 ≤ v6) := hc9n
            replace hyp := it_neg hc9n hyp
            refine am_iload dX11_nose_77 rfl ?_
            refine am_istore_n dX11_nose_79 (am_lb rfl) ?_
            change am_At _ _ _ 80 [_, _, _, _, _, _] [] _ _
            refine am_iload dX11_nose_80 rfl ?_
            refine am_istore_n dX11_nose_82 (am_lb rfl) ?_
            change am_At _ _ _ 83 [_, _, _, _, _, _] [] _ _
            refine am_iinc dX11_nose_83 rfl (am_ix _) ?_
            change am_At _ _ _ 86 [_, _, _, _, _, _] [] _ _
            refine am_goto (-65) 21 dX11_nose_86 rfl ?_
            cases hyp
            refine am_At.drop 5 ?_
            exact hx
    · intro hc5n
      have hc5n : ¬ (v4 = 0) := hc5n
      replace hyp := it_neg hc5n hyp
      refine am_iconst (-1) (v := (-1)) dX11_nose_45 (by decide) ?_
      refine am_goto (12) 58 dX11_nose_46 rfl ?_
      refine am_istore dX11_nose_58 (am_lb rfl) ?_
      change am_At _ _ _ 60 [_, _, _, _, _, _] [] _ _
      refine am_iload dX11_nose_60 rfl ?_
      refine am_iconst (-1) (v := (-1)) dX11_nose_62 (by decide) ?_
      refine am_icmp_eqT (20) 83 dX11_nose_63 rfl (by decide) ?_
      refine am_iinc dX11_nose_83 rfl (am_ix _) ?_
      change am_At _ _ _ 86 [_, _, _, _, _, _] [] _ _
      refine am_goto (-65) 21 dX11_nose_86 rfl ?_
      cases hyp
      refine am_At.drop 5 ?_
      exact hx
theorem ef_X11_nose_46 {d : Nat} {h : am_H} (g : lay h) (hN : h.2.2 45 1 = some 46 ∧ h.2.2 45 2 = some 47) {x1 : Int32} {M : Mem} {y : (Int32 ⊕ String) × Mem} (hyp : f_X11_nose 46 47 x1 M = some y) : am_Ev (d + 5) mX11_nose [.inr (0, 0), am_I x1] (am_hM h M) (am_o1 h y) := by
  unfold f_X11_nose at hyp
  refine am_Ev.mk (by decide +kernel) rfl rfl (am_oc1 h y) (am_os1 h y) ?_
  change am_At _ _ _ 0 [_, _, _, _, _, _] [] _ _
  refine am_aload_n dX11_nose_0 rfl ?_
  refine am_iload_n dX11_nose_1 rfl ?_
  refine am_iconst 0 (v := 0) dX11_nose_2 (by decide) ?_
  refine am_iconst 1 (v := 1) dX11_nose_3 (by decide) ?_
  obtain ⟨⟨y1, M1⟩, hk1, hyp⟩ := bd_some hyp
  rcases y1 with v1 | E1
  rotate_left
  · try dsimp only at hyp
    cases hyp
    exact am_callVX [_, _, _] dX11_nose_4 ml_X11_178 vm_X11_needFit (sh_0 g) rfl (fun _ => Nat.le_of_ble_eq_true rfl) (by omega) rfl (am_o0t (ef_X11_needFit (d := d + 4) (h := h) g hk1)) rfl
  try dsimp only at hyp
  refine am_callV [_, _, _] dX11_nose_4 ml_X11_178 vm_X11_needFit (sh_0 g) rfl (fun _ => Nat.le_of_ble_eq_true rfl) (by omega) rfl (am_o0v (ef_X11_needFit (d := d + 4) (h := h) g hk1)) rfl ?_
  change am_At _ _ _ 7 [_, _, _, _, _, _] [] _ _
  refine am_aload_n dX11_nose_7 rfl ?_
  refine am_getR 11 10 45 dX11_nose_8 fg_X11_84 (sh_0 g) (by decide) rfl (rf_0_10 g) ?_
  obtain ⟨M2, hk2, hyp⟩ := bd_some hyp
  try dsimp only at hyp
  refine am_callV [] dX11_nose_11 ml_X11_344 vm_X5_weigh (sh_45 g) rfl (fun _ => Nat.le_of_ble_eq_true rfl) (by omega) rfl (ef_X5_weigh_46 (d := d + 0) (h := h) g hN hk2) rfl ?_
  change am_At _ _ _ 14 [_, _, _, _, _, _] [] _ _
  refine am_iconst (-1) (v := (-1)) dX11_nose_14 (by decide) ?_
  refine am_istore_n dX11_nose_15 (am_lb rfl) ?_
  change am_At _ _ _ 16 [_, _, _, _, _, _] [] _ _
  refine am_iconst (-1) (v := (-1)) dX11_nose_16 (by decide) ?_
  refine am_istore_n dX11_nose_17 (am_lb rfl) ?_
  change am_At _ _ _ 18 [_, _, _, _, _, _] [] _ _
  refine am_iconst 0 (v := 0) dX11_nose_18 (by decide) ?_
  refine am_istore dX11_nose_19 (am_lb rfl) ?_
  change am_At _ _ _ 21 [_, _, _, _, _, _] [] _ _
  obtain ⟨⟨x2_10, x3_10, M10⟩, hw10, hyp⟩ := bd_some hyp
  try dsimp only at hyp
  refine eL_X11_nose_21_46 (d := d) (h := h) g hN  FU ((-1 : Int32), (-1 : Int32), (0 : Int32), M2) (x2_10, x3_10, M10) hw10 ?_
  change am_At _ _ _ 89 [_, _, _, _, _, _] [] _ _
  refine am_iload_n dX11_nose_89 rfl ?_
  refine am_if_ne (7) 97 dX11_nose_90 rfl ?_ ?_
  · intro hc11n
    have hc11n : ¬ (x1 = 0) := hc11n
    replace hyp := it_neg hc11n hyp
    refine am_iload_n dX11_nose_97 rfl ?_
    cases hyp
    exact am_iret dX11_nose_98 rfl
  · intro hc11
    have hc11 : x1 = 0 := hc11
    replace hyp := it_pos hc11 hyp
    refine am_iload_n dX11_nose_93 rfl ?_
    refine am_goto (4) 98 dX11_nose_94 rfl ?_
    cases hyp
    exact am_iret dX11_nose_98 rfl
theorem eL_X11_nose_21_47 {d : Nat} {h : am_H} (g : lay h) (hN : h.2.2 45 1 = some 47 ∧ h.2.2 45 2 = some 46) {x1 : Int32} {r : am_R} (n : Nat) : ∀ (s : Int32 × Int32 × Int32 × Mem) (e : Int32 × Int32 × Mem), wh (L_X11_nose_21 47 46) n s = some e → (match e with | (x2, x3, M) => am_At am_X0 (d + 5) mX11_nose 89 [some (.inr (0, 0)), some (am_I (x1)), some (am_I (x2)), some (am_I (x3)), none, none] [] (am_hM h M) r) → (match s with | (x2, x3, x4, M) => am_At am_X0 (d + 5) mX11_nose 21 [some (.inr (0, 0)), some (am_I (x1)), some (am_I (x2)), some (am_I (x3)), some (am_I (x4)), none] [] (am_hM h M) r) := by
  refine am_wh (At := fun (s : Int32 × Int32 × Int32 × Mem) => match s with | (x2, x3, x4, M) => am_At am_X0 (d + 5) mX11_nose 21 [some (.inr (0, 0)), some (am_I (x1)), some (am_I (x2)), some (am_I (x3)), some (am_I (x4)), none] [] (am_hM h M) r) (Ex := fun (e : Int32 × Int32 × Mem) => match e with | (x2, x3, M) => am_At am_X0 (d + 5) mX11_nose 89 [some (.inr (0, 0)), some (am_I (x1)), some (am_I (x2)), some (am_I (x3)), none, none] [] (am_hM h M) r) ?_ n
  rintro ⟨x2, x3, x4, M⟩ y hyp hx
  unfold L_X11_nose_21 at hyp
  try dsimp only at hyp
  change am_At _ _ _ 21 [_, _, _, _, _, _] [] _ _
  refine am_iload dX11_nose_21 rfl ?_
  refine am_aload_n dX11_nose_23 rfl ?_
  refine am_getR 11 1 3 dX11_nose_24 fg_X11_19 (sh_0 g) (by decide) rfl (rf_0_1 g) ?_
  refine am_getI 1 0 dX11_nose_27 fg_X11_142 (sh_3 g) (by decide) rfl ?_
  refine am_icmp_ge (59) 89 dX11_nose_30 rfl ?_ ?_
  · intro hc3
    have hc3 : (M 3 0 0) ≤ x4 := hc3
    replace hyp := it_pos hc3 hyp
    cases hyp
    refine am_At.drop 4 ?_
    exact hx
  · intro hc3n
    have hc3n : ¬ ((M 3 0 0) ≤ x4) := hc3n
    replace hyp := it_neg hc3n hyp
    refine am_aload_n dX11_nose_33 rfl ?_
    refine am_getR 11 10 45 dX11_nose_34 fg_X11_84 (sh_0 g) (by decide) rfl (rf_0_10 g) ?_
    refine am_iload dX11_nose_37 rfl ?_
    obtain ⟨v4, hk4, hyp⟩ := bd_some hyp
    try dsimp only at hyp
    refine am_callV [_] dX11_nose_39 ml_X11_359 vm_X5_isInBook (sh_45 g) rfl (fun _ => Nat.le_of_ble_eq_true rfl) (by omega) rfl (ef_X5_isInBook_47 (d := d + 4) (h := h) g hN hk4) rfl ?_
    change am_At _ _ _ 42 [_, _, _, _, _, _] [_] _ _
    refine am_if_eq (7) 49 dX11_nose_42 rfl ?_ ?_
    · intro hc5
      have hc5 : v4 = 0 := hc5
      replace hyp := it_pos hc5 hyp
      refine am_aload_n dX11_nose_49 rfl ?_
      refine am_getR 11 10 45 dX11_nose_50 fg_X11_84 (sh_0 g) (by decide) rfl (rf_0_10 g) ?_
      refine am_iload dX11_nose_53 rfl ?_
      obtain ⟨⟨v6, M6⟩, hk6, hyp⟩ := bd_some hyp
      try dsimp only at hyp
      refine am_callV [_] dX11_nose_55 ml_X11_362 vm_X5_mostLeftBy (sh_45 g) rfl (fun _ => Nat.le_of_ble_eq_true rfl) (by omega) rfl (ef_X5_mostLeftBy (d := d + 2) (h := h) g hk6) rfl ?_
      change am_At _ _ _ 58 [_, _, _, _, _, _] [_] _ _
      refine am_istore dX11_nose_58 (am_lb rfl) ?_
      change am_At _ _ _ 60 [_, _, _, _, _, _] [] _ _
      refine am_iload dX11_nose_60 rfl ?_
      refine am_iconst (-1) (v := (-1)) dX11_nose_62 (by decide) ?_
      refine am_icmp_eq (20) 83 dX11_nose_63 rfl ?_ ?_
      · intro hc7
        have hc7 : v6 = (-1 : Int32) := hc7
        replace hyp := it_pos hc7 hyp
        refine am_iinc dX11_nose_83 rfl (am_ix _) ?_
        change am_At _ _ _ 86 [_, _, _, _, _, _] [] _ _
        refine am_goto (-65) 21 dX11_nose_86 rfl ?_
        cases hyp
        refine am_At.drop 5 ?_
        exact hx
      · intro hc7n
        have hc7n : ¬ (v6 = (-1 : Int32)) := hc7n
        replace hyp := it_neg hc7n hyp
        refine am_iload_n dX11_nose_66 rfl ?_
        refine am_iconst (-1) (v := (-1)) dX11_nose_67 (by decide) ?_
        refine am_icmp_eq (9) 77 dX11_nose_68 rfl ?_ ?_
        · intro hc8
          have hc8 : x2 = (-1 : Int32) := hc8
          replace hyp := it_pos hc8 hyp
          refine am_iload dX11_nose_77 rfl ?_
          refine am_istore_n dX11_nose_79 (am_lb rfl) ?_
          change am_At _ _ _ 80 [_, _, _, _, _, _] [] _ _
          refine am_iload dX11_nose_80 rfl ?_
          refine am_istore_n dX11_nose_82 (am_lb rfl) ?_
          change am_At _ _ _ 83 [_, _, _, _, _, _] [] _ _
          refine am_iinc dX11_nose_83 rfl (am_ix _) ?_
          change am_At _ _ _ 86 [_, _, _, _, _, _] [] _ _
          refine am_goto (-65) 21 dX11_nose_86 rfl ?_
          cases hyp
          refine am_At.drop 5 ?_
          exact hx
        · intro hc8n
          have hc8n : ¬ (x2 = (-1 : Int32)) := hc8n
          replace hyp := it_neg hc8n hyp
          refine am_iload dX11_nose_71 rfl ?_
          refine am_iload_n dX11_nose_73 rfl ?_
          refine am_icmp_ge (9) 83 dX11_nose_74 rfl ?_ ?_
          · intro hc9
            have hc9 : x3 ≤ v6 := hc9
            replace hyp := it_pos hc9 hyp
            refine am_iinc dX11_nose_83 rfl (am_ix _) ?_
            change am_At _ _ _ 86 [_, _, _, _, _, _] [] _ _
            refine am_goto (-65) 21 dX11_nose_86 rfl ?_
            cases hyp
            refine am_At.drop 5 ?_
            exact hx
          · intro hc9n
            have hc9n : ¬ (x3 ≤ v6) := hc9n
            replace hyp := it_neg hc9n hyp
            refine am_iload dX11_nose_77 rfl ?_
            refine am_istore_n dX11_nose_79 (am_lb rfl) ?_
            change am_At _ _ _ 80 [_, _, _, _, _, _] [] _ _
            refine am_iload dX11_nose_80 rfl ?_
            refine am_istore_n dX11_nose_82 (am_lb rfl) ?_
            change am_At _ _ _ 83 [_, _, _, _, _, _] [] _ _
            refine am_iinc dX11_nose_83 rfl (am_ix _) ?_
            change am_At _ _ _ 86 [_, _, _, _, _, _] [] _ _
            refine am_goto (-65) 21 dX11_nose_86 rfl ?_
            cases hyp
            refine am_At.drop 5 ?_
            exact hx
    · intro hc5n
      have hc5n : ¬ (v4 = 0) := hc5n
      replace hyp := it_neg hc5n hyp
      refine am_iconst (-1) (v := (-1)) dX11_nose_45 (by decide) ?_
      refine am_goto (12) 58 dX11_nose_46 rfl ?_
      refine am_istore dX11_nose_58 (am_lb rfl) ?_
      change am_At _ _ _ 60 [_, _, _, _, _, _] [] _ _
      refine am_iload dX11_nose_60 rfl ?_
      refine am_iconst (-1) (v := (-1)) dX11_nose_62 (by decide) ?_
      refine am_icmp_eqT (20) 83 dX11_nose_63 rfl (by decide) ?_
      refine am_iinc dX11_nose_83 rfl (am_ix _) ?_
      change am_At _ _ _ 86 [_, _, _, _, _, _] [] _ _
      refine am_goto (-65) 21 dX11_nose_86 rfl ?_
      cases hyp
      refine am_At.drop 5 ?_
      exact hx
theorem ef_X11_nose_47 {d : Nat} {h : am_H} (g : lay h) (hN : h.2.2 45 1 = some 47 ∧ h.2.2 45 2 = some 46) {x1 : Int32} {M : Mem} {y : (Int32 ⊕ String) × Mem} (hyp : f_X11_nose 47 46 x1 M = some y) : am_Ev (d + 5) mX11_nose [.inr (0, 0), am_I x1] (am_hM h M) (am_o1 h y) := by
  unfold f_X11_nose at hyp
  refine am_Ev.mk (by decide +kernel) rfl rfl (am_oc1 h y) (am_os1 h y) ?_
  change am_At _ _ _ 0 [_, _, _, _, _, _] [] _ _
  refine am_aload_n dX11_nose_0 rfl ?_
  refine am_iload_n dX11_nose_1 rfl ?_
  refine am_iconst 0 (v := 0) dX11_nose_2 (by decide) ?_
  refine am_iconst 1 (v := 1) dX11_nose_3 (by decide) ?_
  obtain ⟨⟨y1, M1⟩, hk1, hyp⟩ := bd_some hyp
  rcases y1 with v1 | E1
  rotate_left
  · try dsimp only at hyp
    cases hyp
    exact am_callVX [_, _, _] dX11_nose_4 ml_X11_178 vm_X11_needFit (sh_0 g) rfl (fun _ => Nat.le_of_ble_eq_true rfl) (by omega) rfl (am_o0t (ef_X11_needFit (d := d + 4) (h := h) g hk1)) rfl
  try dsimp only at hyp
  refine am_callV [_, _, _] dX11_nose_4 ml_X11_178 vm_X11_needFit (sh_0 g) rfl (fun _ => Nat.le_of_ble_eq_true rfl) (by omega) rfl (am_o0v (ef_X11_needFit (d := d + 4) (h := h) g hk1)) rfl ?_
  change am_At _ _ _ 7 [_, _, _, _, _, _] [] _ _
  refine am_aload_n dX11_nose_7 rfl ?_
  refine am_getR 11 10 45 dX11_nose_8 fg_X11_84 (sh_0 g) (by decide) rfl (rf_0_10 g) ?_
  obtain ⟨M2, hk2, hyp⟩ := bd_some hyp
  try dsimp only at hyp
  refine am_callV [] dX11_nose_11 ml_X11_344 vm_X5_weigh (sh_45 g) rfl (fun _ => Nat.le_of_ble_eq_true rfl) (by omega) rfl (ef_X5_weigh_47 (d := d + 0) (h := h) g hN hk2) rfl ?_
  change am_At _ _ _ 14 [_, _, _, _, _, _] [] _ _
  refine am_iconst (-1) (v := (-1)) dX11_nose_14 (by decide) ?_
  refine am_istore_n dX11_nose_15 (am_lb rfl) ?_
  change am_At _ _ _ 16 [_, _, _, _, _, _] [] _ _
  refine am_iconst (-1) (v := (-1)) dX11_nose_16 (by decide) ?_
  refine am_istore_n dX11_nose_17 (am_lb rfl) ?_
  change am_At _ _ _ 18 [_, _, _, _, _, _] [] _ _
  refine am_iconst 0 (v := 0) dX11_nose_18 (by decide) ?_
  refine am_istore dX11_nose_19 (am_lb rfl) ?_
  change am_At _ _ _ 21 [_, _, _, _, _, _] [] _ _
  obtain ⟨⟨x2_10, x3_10, M10⟩, hw10, hyp⟩ := bd_some hyp
  try dsimp only at hyp
  refine eL_X11_nose_21_47 (d := d) (h := h) g hN  FU ((-1 : Int32), (-1 : Int32), (0 : Int32), M2) (x2_10, x3_10, M10) hw10 ?_
  change am_At _ _ _ 89 [_, _, _, _, _, _] [] _ _
  refine am_iload_n dX11_nose_89 rfl ?_
  refine am_if_ne (7) 97 dX11_nose_90 rfl ?_ ?_
  · intro hc11n
    have hc11n : ¬ (x1 = 0) := hc11n
    replace hyp := it_neg hc11n hyp
    refine am_iload_n dX11_nose_97 rfl ?_
    cases hyp
    exact am_iret dX11_nose_98 rfl
  · intro hc11
    have hc11 : x1 = 0 := hc11
    replace hyp := it_pos hc11 hyp
    refine am_iload_n dX11_nose_93 rfl ?_
    refine am_goto (4) 98 dX11_nose_94 rfl ?_
    cases hyp
    exact am_iret dX11_nose_98 rfl
theorem ef_X11_openers_46 {d : Nat} {h : am_H} (g : lay h) (hN : h.2.2 45 1 = some 46 ∧ h.2.2 45 2 = some 47) {x1 : Int32} {M : Mem} {y : (Int32 ⊕ String) × Mem} (hyp : f_X11_openers 46 47 x1 M = some y) : am_Ev (d + 5) mX11_openers [.inr (0, 0), am_I x1] (am_hM h M) (am_o1 h y) := by
  unfold f_X11_openers at hyp
  refine am_Ev.mk (by decide +kernel) rfl rfl (am_oc1 h y) (am_os1 h y) ?_
  change am_At _ _ _ 0 [_, _] [] _ _
  refine am_aload_n dX11_openers_0 rfl ?_
  refine am_iload_n dX11_openers_1 rfl ?_
  refine am_iconst 0 (v := 0) dX11_openers_2 (by decide) ?_
  refine am_iconst 3 (v := 3) dX11_openers_3 (by decide) ?_
  obtain ⟨⟨y1, M1⟩, hk1, hyp⟩ := bd_some hyp
  rcases y1 with v1 | E1
  rotate_left
  · try dsimp only at hyp
    cases hyp
    exact am_callVX [_, _, _] dX11_openers_4 ml_X11_178 vm_X11_needFit (sh_0 g) rfl (fun _ => Nat.le_of_ble_eq_true rfl) (by omega) rfl (am_o0t (ef_X11_needFit (d := d + 4) (h := h) g hk1)) rfl
  try dsimp only at hyp
  refine am_callV [_, _, _] dX11_openers_4 ml_X11_178 vm_X11_needFit (sh_0 g) rfl (fun _ => Nat.le_of_ble_eq_true rfl) (by omega) rfl (am_o0v (ef_X11_needFit (d := d + 4) (h := h) g hk1)) rfl ?_
  change am_At _ _ _ 7 [_, _] [] _ _
  refine am_aload_n dX11_openers_7 rfl ?_
  refine am_getR 11 10 45 dX11_openers_8 fg_X11_84 (sh_0 g) (by decide) rfl (rf_0_10 g) ?_
  obtain ⟨M2, hk2, hyp⟩ := bd_some hyp
  try dsimp only at hyp
  refine am_callV [] dX11_openers_11 ml_X11_344 vm_X5_weigh (sh_45 g) rfl (fun _ => Nat.le_of_ble_eq_true rfl) (by omega) rfl (ef_X5_weigh_46 (d := d + 0) (h := h) g hN hk2) rfl ?_
  change am_At _ _ _ 14 [_, _] [] _ _
  refine am_iload_n dX11_openers_14 rfl ?_
  by_cases hc3 : x1 = (0 : Int32)
  · refine am_tabIn (25) 40 dX11_openers_15 (by rw [hc3]; decide) (by rw [hc3]; decide) (by rw [hc3]; rfl) rfl ?_
    replace hyp := it_pos hc3 hyp
    refine am_aload_n dX11_openers_40 rfl ?_
    refine am_getR 11 10 45 dX11_openers_41 fg_X11_84 (sh_0 g) (by decide) rfl (rf_0_10 g) ?_
    refine am_getI 5 7 dX11_openers_44 fg_X11_347 (sh_45 g) (by decide) rfl ?_
    cases hyp
    exact am_iret dX11_openers_47 rfl
  · have hc3n := hc3
    replace hyp := it_neg hc3n hyp
    by_cases hc4 : x1 = (1 : Int32)
    · refine am_tabIn (33) 48 dX11_openers_15 (by rw [hc4]; decide) (by rw [hc4]; decide) (by rw [hc4]; rfl) rfl ?_
      replace hyp := it_pos hc4 hyp
      refine am_aload_n dX11_openers_48 rfl ?_
      refine am_getR 11 10 45 dX11_openers_49 fg_X11_84 (sh_0 g) (by decide) rfl (rf_0_10 g) ?_
      obtain ⟨v5, hk5, hyp⟩ := bd_some hyp
      try dsimp only at hyp
      refine am_callV [] dX11_openers_52 ml_X11_350 vm_X5_firstSet (sh_45 g) rfl (fun _ => Nat.le_of_ble_eq_true rfl) (by omega) rfl (ef_X5_firstSet (d := d + 2) (h := h) g hk5) rfl ?_
      change am_At _ _ _ 55 [_, _] [_] _ _
      cases hyp
      exact am_iret dX11_openers_55 rfl
    · have hc4n := hc4
      replace hyp := it_neg hc4n hyp
      by_cases hc6 : x1 = (2 : Int32)
      · refine am_tabIn (41) 56 dX11_openers_15 (by rw [hc6]; decide) (by rw [hc6]; decide) (by rw [hc6]; rfl) rfl ?_
        replace hyp := it_pos hc6 hyp
        refine am_aload_n dX11_openers_56 rfl ?_
        refine am_getR 11 10 45 dX11_openers_57 fg_X11_84 (sh_0 g) (by decide) rfl (rf_0_10 g) ?_
        obtain ⟨v7, hk7, hyp⟩ := bd_some hyp
        try dsimp only at hyp
        refine am_callV [] dX11_openers_60 ml_X11_353 vm_X5_boardsInAll (sh_45 g) rfl (fun _ => Nat.le_of_ble_eq_true rfl) (by omega) rfl (ef_X5_boardsInAll (d := d + 1) (h := h) g hk7) rfl ?_
        change am_At _ _ _ 63 [_, _] [_] _ _
        cases hyp
        exact am_iret dX11_openers_63 rfl
      · have hc6n := hc6
        replace hyp := it_neg hc6n hyp
        refine am_tabOut 64 dX11_openers_15 (by have q0 := lv_neT (a := 0) hc3n (by decide); have q1 := lv_neT (a := 1) hc4n (by decide); have q2 := lv_neT (a := 2) hc6n (by decide); omega) rfl ?_
        refine am_aload_n dX11_openers_64 rfl ?_
        refine am_getR 11 10 45 dX11_openers_65 fg_X11_84 (sh_0 g) (by decide) rfl (rf_0_10 g) ?_
        obtain ⟨v8, hk8, hyp⟩ := bd_some hyp
        try dsimp only at hyp
        refine am_callV [] dX11_openers_68 ml_X11_356 vm_X5_boardsInNone (sh_45 g) rfl (fun _ => Nat.le_of_ble_eq_true rfl) (by omega) rfl (ef_X5_boardsInNone (d := d + 1) (h := h) g hk8) rfl ?_
        change am_At _ _ _ 71 [_, _] [_] _ _
        cases hyp
        exact am_iret dX11_openers_71 rfl
theorem ef_X11_openers_47 {d : Nat} {h : am_H} (g : lay h) (hN : h.2.2 45 1 = some 47 ∧ h.2.2 45 2 = some 46) {x1 : Int32} {M : Mem} {y : (Int32 ⊕ String) × Mem} (hyp : f_X11_openers 47 46 x1 M = some y) : am_Ev (d + 5) mX11_openers [.inr (0, 0), am_I x1] (am_hM h M) (am_o1 h y) := by
  unfold f_X11_openers at hyp
  refine am_Ev.mk (by decide +kernel) rfl rfl (am_oc1 h y) (am_os1 h y) ?_
  change am_At _ _ _ 0 [_, _] [] _ _
  refine am_aload_n dX11_openers_0 rfl ?_
  refine am_iload_n dX11_openers_1 rfl ?_
  refine am_iconst 0 (v := 0) dX11_openers_2 (by decide) ?_
  refine am_iconst 3 (v := 3) dX11_openers_3 (by decide) ?_
  obtain ⟨⟨y1, M1⟩, hk1, hyp⟩ := bd_some hyp
  rcases y1 with v1 | E1
  rotate_left
  · try dsimp only at hyp
    cases hyp
    exact am_callVX [_, _, _] dX11_openers_4 ml_X11_178 vm_X11_needFit (sh_0 g) rfl (fun _ => Nat.le_of_ble_eq_true rfl) (by omega) rfl (am_o0t (ef_X11_needFit (d := d + 4) (h := h) g hk1)) rfl
  try dsimp only at hyp
  refine am_callV [_, _, _] dX11_openers_4 ml_X11_178 vm_X11_needFit (sh_0 g) rfl (fun _ => Nat.le_of_ble_eq_true rfl) (by omega) rfl (am_o0v (ef_X11_needFit (d := d + 4) (h := h) g hk1)) rfl ?_
  change am_At _ _ _ 7 [_, _] [] _ _
  refine am_aload_n dX11_openers_7 rfl ?_
  refine am_getR 11 10 45 dX11_openers_8 fg_X11_84 (sh_0 g) (by decide) rfl (rf_0_10 g) ?_
  obtain ⟨M2, hk2, hyp⟩ := bd_some hyp
  try dsimp only at hyp
  refine am_callV [] dX11_openers_11 ml_X11_344 vm_X5_weigh (sh_45 g) rfl (fun _ => Nat.le_of_ble_eq_true rfl) (by omega) rfl (ef_X5_weigh_47 (d := d + 0) (h := h) g hN hk2) rfl ?_
  change am_At _ _ _ 14 [_, _] [] _ _
  refine am_iload_n dX11_openers_14 rfl ?_
  by_cases hc3 : x1 = (0 : Int32)
  · refine am_tabIn (25) 40 dX11_openers_15 (by rw [hc3]; decide) (by rw [hc3]; decide) (by rw [hc3]; rfl) rfl ?_
    replace hyp := it_pos hc3 hyp
    refine am_aload_n dX11_openers_40 rfl ?_
    refine am_getR 11 10 45 dX11_openers_41 fg_X11_84 (sh_0 g) (by decide) rfl (rf_0_10 g) ?_
    refine am_getI 5 7 dX11_openers_44 fg_X11_347 (sh_45 g) (by decide) rfl ?_
    cases hyp
    exact am_iret dX11_openers_47 rfl
  · have hc3n := hc3
    replace hyp := it_neg hc3n hyp
    by_cases hc4 : x1 = (1 : Int32)
    · refine am_tabIn (33) 48 dX11_openers_15 (by rw [hc4]; decide) (by rw [hc4]; decide) (by rw [hc4]; rfl) rfl ?_
      replace hyp := it_pos hc4 hyp
      refine am_aload_n dX11_openers_48 rfl ?_
      refine am_getR 11 10 45 dX11_openers_49 fg_X11_84 (sh_0 g) (by decide) rfl (rf_0_10 g) ?_
      obtain ⟨v5, hk5, hyp⟩ := bd_some hyp
      try dsimp only at hyp
      refine am_callV [] dX11_openers_52 ml_X11_350 vm_X5_firstSet (sh_45 g) rfl (fun _ => Nat.le_of_ble_eq_true rfl) (by omega) rfl (ef_X5_firstSet (d := d + 2) (h := h) g hk5) rfl ?_
      change am_At _ _ _ 55 [_, _] [_] _ _
      cases hyp
      exact am_iret dX11_openers_55 rfl
    · have hc4n := hc4
      replace hyp := it_neg hc4n hyp
      by_cases hc6 : x1 = (2 : Int32)
      · refine am_tabIn (41) 56 dX11_openers_15 (by rw [hc6]; decide) (by rw [hc6]; decide) (by rw [hc6]; rfl) rfl ?_
        replace hyp := it_pos hc6 hyp
        refine am_aload_n dX11_openers_56 rfl ?_
        refine am_getR 11 10 45 dX11_openers_57 fg_X11_84 (sh_0 g) (by decide) rfl (rf_0_10 g) ?_
        obtain ⟨v7, hk7, hyp⟩ := bd_some hyp
        try dsimp only at hyp
        refine am_callV [] dX11_openers_60 ml_X11_353 vm_X5_boardsInAll (sh_45 g) rfl (fun _ => Nat.le_of_ble_eq_true rfl) (by omega) rfl (ef_X5_boardsInAll (d := d + 1) (h := h) g hk7) rfl ?_
        change am_At _ _ _ 63 [_, _] [_] _ _
        cases hyp
        exact am_iret dX11_openers_63 rfl
      · have hc6n := hc6
        replace hyp := it_neg hc6n hyp
        refine am_tabOut 64 dX11_openers_15 (by have q0 := lv_neT (a := 0) hc3n (by decide); have q1 := lv_neT (a := 1) hc4n (by decide); have q2 := lv_neT (a := 2) hc6n (by decide); omega) rfl ?_
        refine am_aload_n dX11_openers_64 rfl ?_
        refine am_getR 11 10 45 dX11_openers_65 fg_X11_84 (sh_0 g) (by decide) rfl (rf_0_10 g) ?_
        obtain ⟨v8, hk8, hyp⟩ := bd_some hyp
        try dsimp only at hyp
        refine am_callV [] dX11_openers_68 ml_X11_356 vm_X5_boardsInNone (sh_45 g) rfl (fun _ => Nat.le_of_ble_eq_true rfl) (by omega) rfl (ef_X5_boardsInNone (d := d + 1) (h := h) g hk8) rfl ?_
        change am_At _ _ _ 71 [_, _] [_] _ _
        cases hyp
        exact am_iret dX11_openers_71 rfl
theorem eL_X11_span_35_24 {d : Nat} {h : am_H} (g : lay h) (hW : h.2.2 23 0 = some 24 ∧ h.2.2 23 2 = some 25) {x1 x2 x3 x4 x5 : Int32} {r : am_R} (n : Nat) : ∀ (s : Int32 × Int32 × Int32 × Int32 × Mem) (e : Int32 × Int32 × Int32 × Mem), wh (L_X11_span_35 24 25 x1 x2 x3 x4) n s = some e → (match e with | (x6, x7, x8, M) => am_At am_X0 (d + 6) mX11_span 128 [some (.inr (0, 0)), some (am_I (x1)), some (am_I (x2)), some (am_I (x3)), some (am_I (x4)), some (am_I (x5)), some (am_I (x6)), some (am_I (x7)), some (am_I (x8)), none, none] [] (am_hM h M) r) → (match s with | (x6, x7, x8, x9, M) => am_At am_X0 (d + 6) mX11_span 35 [some (.inr (0, 0)), some (am_I (x1)), some (am_I (x2)), some (am_I (x3)), some (am_I (x4)), some (am_I (x5)), some (am_I (x6)), some (am_I (x7)), some (am_I (x8)), some (am_I (x9)), none] [] (am_hM h M) r) := by
  refine am_wh (At := fun (s : Int32 × Int32 × Int32 × Int32 × Mem) => match s with | (x6, x7, x8, x9, M) => am_At am_X0 (d + 6) mX11_span 35 [some (.inr (0, 0)), some (am_I (x1)), some (am_I (x2)), some (am_I (x3)), some (am_I (x4)), some (am_I (x5)), some (am_I (x6)), some (am_I (x7)), some (am_I (x8)), some (am_I (x9)), none] [] (am_hM h M) r) (Ex := fun (e : Int32 × Int32 × Int32 × Mem) => match e with | (x6, x7, x8, M) => am_At am_X0 (d + 6) mX11_span 128 [some (.inr (0, 0)), some (am_I (x1)), some (am_I (x2)), some (am_I (x3)), some (am_I (x4)), some (am_I (x5)), some (am_I (x6)), some (am_I (x7)), some (am_I (x8)), none, none] [] (am_hM h M) r) ?_ n
  rintro ⟨x6, x7, x8, x9, M⟩ y hyp hx
  unfold L_X11_span_35 at hyp
  try dsimp only at hyp
  change am_At _ _ _ 35 [_, _, _, _, _, _, _, _, _, _, _] [] _ _
  refine am_iload dX11_span_35 rfl ?_
  refine am_iload_n dX11_span_37 rfl ?_
  refine am_icmp_ge (90) 128 dX11_span_38 rfl ?_ ?_
  · intro hc4
    have hc4 : x2 ≤ x9 := hc4
    replace hyp := it_pos hc4 hyp
    cases hyp
    refine am_At.drop 9 ?_
    exact hx
  · intro hc4n
    have hc4n : ¬ (x2 ≤ x9) := hc4n
    replace hyp := it_neg hc4n hyp
    refine am_aload_n dX11_span_41 rfl ?_
    refine am_getR 11 8 38 dX11_span_42 fg_X11_68 (sh_0 g) (by decide) rfl (rf_0_8 g) ?_
    refine am_iload_n dX11_span_45 rfl ?_
    refine am_iload dX11_span_46 rfl ?_
    refine am_iadd dX11_span_48 ?_
    refine am_iload_n dX11_span_49 rfl ?_
    refine am_iload dX11_span_50 rfl ?_
    obtain ⟨M5, hk5, hyp⟩ := bd_some hyp
    try dsimp only at hyp
    refine am_callV [_, _, _] dX11_span_52 ml_X11_314 vm_X6_freeze (sh_38 g) rfl (fun _ => Nat.le_of_ble_eq_true rfl) (by omega) rfl (ef_X6_freeze_24 (d := d + 0) (h := h) g hW hk5) rfl ?_
    change am_At _ _ _ 55 [_, _, _, _, _, _, _, _, _, _, _] [] _ _
    refine am_aload_n dX11_span_55 rfl ?_
    refine am_getR 11 8 38 dX11_span_56 fg_X11_68 (sh_0 g) (by decide) rfl (rf_0_8 g) ?_
    obtain ⟨v6, hk6, hyp⟩ := bd_some hyp
    try dsimp only at hyp
    refine am_callV [] dX11_span_59 ml_X11_317 vm_X6_knocksSince (sh_38 g) rfl (fun _ => Nat.le_of_ble_eq_true rfl) (by omega) rfl (ef_X6_knocksSince (d := d + 3) (h := h) g hk6) rfl ?_
    change am_At _ _ _ 62 [_, _, _, _, _, _, _, _, _, _, _] [_] _ _
    refine am_istore dX11_span_62 (am_lb rfl) ?_
    change am_At _ _ _ 64 [_, _, _, _, _, _, _, _, _, _, _] [] _ _
    refine am_iload dX11_span_64 rfl ?_
    refine am_if_ne (8) 74 dX11_span_66 rfl ?_ ?_
    · intro hc7n
      have hc7n : ¬ (x9 = 0) := hc7n
      replace hyp := it_neg hc7n hyp
      refine am_iload dX11_span_74 rfl ?_
      refine am_iload dX11_span_76 rfl ?_
      refine am_min dX11_span_78 ml_X11_326 (fun _ => Nat.le_of_ble_eq_true rfl) ?_
      refine am_istore dX11_span_81 (am_lb rfl) ?_
      change am_At _ _ _ 83 [_, _, _, _, _, _, _, _, _, _, _] [] _ _
      refine am_iload dX11_span_83 rfl ?_
      refine am_iload dX11_span_85 rfl ?_
      refine am_max dX11_span_87 ml_X11_332 (fun _ => Nat.le_of_ble_eq_true rfl) ?_
      refine am_istore dX11_span_90 (am_lb rfl) ?_
      change am_At _ _ _ 92 [_, _, _, _, _, _, _, _, _, _, _] [] _ _
      refine am_iload dX11_span_92 rfl ?_
      refine am_aload_n dX11_span_94 rfl ?_
      refine am_getR 11 8 38 dX11_span_95 fg_X11_68 (sh_0 g) (by decide) rfl (rf_0_8 g) ?_
      refine am_getR 6 3 39 dX11_span_98 fg_X11_308 (sh_38 g) (by decide) rfl (rf_38_3 g) ?_
      obtain ⟨v8, hk8, hyp⟩ := bd_some hyp
      try dsimp only at hyp
      refine am_callV [] dX11_span_101 ml_X11_206 vm_X8_bargesThrough (sh_39 g) rfl (fun _ => Nat.le_of_ble_eq_true rfl) (by omega) rfl (ef_X8_bargesThrough_40 (d := d + 4) (h := h) g hk8) rfl ?_
      change am_At _ _ _ 104 [_, _, _, _, _, _, _, _, _, _, _] [_, _] _ _
      refine am_aload_n dX11_span_104 rfl ?_
      refine am_getR 11 1 3 dX11_span_105 fg_X11_19 (sh_0 g) (by decide) rfl (rf_0_1 g) ?_
      refine am_getI 1 5 dX11_span_108 fg_X11_182 (sh_3 g) (by decide) rfl ?_
      refine am_icmp_ne (7) 118 dX11_span_111 rfl ?_ ?_
      · intro hc9n
        have hc9n : ¬ (v8 = (M5 3 0 5)) := hc9n
        replace hyp := it_neg hc9n hyp
        refine am_iconst 0 (v := 0) dX11_span_118 (by decide) ?_
        refine am_iadd dX11_span_119 ?_
        refine am_istore dX11_span_120 (am_lb rfl) ?_
        change am_At _ _ _ 122 [_, _, _, _, _, _, _, _, _, _, _] [] _ _
        refine am_iinc dX11_span_122 rfl (am_ix _) ?_
        change am_At _ _ _ 125 [_, _, _, _, _, _, _, _, _, _, _] [] _ _
        refine am_goto (-90) 35 dX11_span_125 rfl ?_
        cases hyp
        refine am_At.drop 10 ?_
        exact hx
      · intro hc9
        have hc9 : v8 = (M5 3 0 5) := hc9
        replace hyp := it_pos hc9 hyp
        refine am_iconst 1 (v := 1) dX11_span_114 (by decide) ?_
        refine am_goto (4) 119 dX11_span_115 rfl ?_
        refine am_iadd dX11_span_119 ?_
        refine am_istore dX11_span_120 (am_lb rfl) ?_
        change am_At _ _ _ 122 [_, _, _, _, _, _, _, _, _, _, _] [] _ _
        refine am_iinc dX11_span_122 rfl (am_ix _) ?_
        change am_At _ _ _ 125 [_, _, _, _, _, _, _, _, _, _, _] [] _ _
        refine am_goto (-90) 35 dX11_span_125 rfl ?_
        cases hyp
        refine am_At.drop 10 ?_
        exact hx
    · intro hc7
      have hc7 : x9 = 0 := hc7
      replace hyp := it_pos hc7 hyp
      refine am_iload dX11_span_69 rfl ?_
      refine am_goto (10) 81 dX11_span_71 rfl ?_
      refine am_istore dX11_span_81 (am_lb rfl) ?_
      change am_At _ _ _ 83 [_, _, _, _, _, _, _, _, _, _, _] [] _ _
      refine am_iload dX11_span_83 rfl ?_
      refine am_iload dX11_span_85 rfl ?_
      refine am_max dX11_span_87 ml_X11_332 (fun _ => Nat.le_of_ble_eq_true rfl) ?_
      refine am_istore dX11_span_90 (am_lb rfl) ?_
      change am_At _ _ _ 92 [_, _, _, _, _, _, _, _, _, _, _] [] _ _
      refine am_iload dX11_span_92 rfl ?_
      refine am_aload_n dX11_span_94 rfl ?_
      refine am_getR 11 8 38 dX11_span_95 fg_X11_68 (sh_0 g) (by decide) rfl (rf_0_8 g) ?_
      refine am_getR 6 3 39 dX11_span_98 fg_X11_308 (sh_38 g) (by decide) rfl (rf_38_3 g) ?_
      obtain ⟨v10, hk10, hyp⟩ := bd_some hyp
      try dsimp only at hyp
      refine am_callV [] dX11_span_101 ml_X11_206 vm_X8_bargesThrough (sh_39 g) rfl (fun _ => Nat.le_of_ble_eq_true rfl) (by omega) rfl (ef_X8_bargesThrough_40 (d := d + 4) (h := h) g hk10) rfl ?_
      change am_At _ _ _ 104 [_, _, _, _, _, _, _, _, _, _, _] [_, _] _ _
      refine am_aload_n dX11_span_104 rfl ?_
      refine am_getR 11 1 3 dX11_span_105 fg_X11_19 (sh_0 g) (by decide) rfl (rf_0_1 g) ?_
      refine am_getI 1 5 dX11_span_108 fg_X11_182 (sh_3 g) (by decide) rfl ?_
      refine am_icmp_ne (7) 118 dX11_span_111 rfl ?_ ?_
      · intro hc11n
        have hc11n : ¬ (v10 = (M5 3 0 5)) := hc11n
        replace hyp := it_neg hc11n hyp
        refine am_iconst 0 (v := 0) dX11_span_118 (by decide) ?_
        refine am_iadd dX11_span_119 ?_
        refine am_istore dX11_span_120 (am_lb rfl) ?_
        change am_At _ _ _ 122 [_, _, _, _, _, _, _, _, _, _, _] [] _ _
        refine am_iinc dX11_span_122 rfl (am_ix _) ?_
        change am_At _ _ _ 125 [_, _, _, _, _, _, _, _, _, _, _] [] _ _
        refine am_goto (-90) 35 dX11_span_125 rfl ?_
        cases hyp
        refine am_At.drop 10 ?_
        exact hx
      · intro hc11
        have hc11 : v10 = (M5 3 0 5) := hc11
        replace hyp := it_pos hc11 hyp
        refine am_iconst 1 (v := 1) dX11_span_114 (by decide) ?_
        refine am_goto (4) 119 dX11_span_115 rfl ?_
        refine am_iadd dX11_span_119 ?_
        refine am_istore dX11_span_120 (am_lb rfl) ?_
        change am_At _ _ _ 122 [_, _, _, _, _, _, _, _, _, _, _] [] _ _
        refine am_iinc dX11_span_122 rfl (am_ix _) ?_
        change am_At _ _ _ 125 [_, _, _, _, _, _, _, _, _, _, _] [] _ _
        refine am_goto (-90) 35 dX11_span_125 rfl ?_
        cases hyp
        refine am_At.drop 10 ?_
        exact hx
theorem ef_X11_span_24 {d : Nat} {h : am_H} (g : lay h) (hW : h.2.2 23 0 = some 24 ∧ h.2.2 23 2 = some 25) {x1 x2 x3 x4 x5 : Int32} {M : Mem} {y : (Int32 ⊕ String) × Mem} (hyp : f_X11_span 24 25 x1 x2 x3 x4 x5 M = some y) : am_Ev (d + 6) mX11_span [.inr (0, 0), am_I x1, am_I x2, am_I x3, am_I x4, am_I x5] (am_hM h M) (am_o1 h y) := by
  unfold f_X11_span at hyp
  refine am_Ev.mk (by decide +kernel) rfl rfl (am_oc1 h y) (am_os1 h y) ?_
  change am_At _ _ _ 0 [_, _, _, _, _, _, _, _, _, _, _] [] _ _
  refine am_aload_n dX11_span_0 rfl ?_
  refine am_iload_n dX11_span_1 rfl ?_
  refine am_iconst 1 (v := 1) dX11_span_2 (by decide) ?_
  refine am_bipush 20 (v := 20) dX11_span_3 (by decide) ?_
  obtain ⟨⟨y1, M1⟩, hk1, hyp⟩ := bd_some hyp
  rcases y1 with v1 | E1
  rotate_left
  · try dsimp only at hyp
    cases hyp
    exact am_callVX [_, _, _] dX11_span_5 ml_X11_178 vm_X11_needFit (sh_0 g) rfl (fun _ => Nat.le_of_ble_eq_true rfl) (by omega) rfl (am_o0t (ef_X11_needFit (d := d + 5) (h := h) g hk1)) rfl
  try dsimp only at hyp
  refine am_callV [_, _, _] dX11_span_5 ml_X11_178 vm_X11_needFit (sh_0 g) rfl (fun _ => Nat.le_of_ble_eq_true rfl) (by omega) rfl (am_o0v (ef_X11_needFit (d := d + 5) (h := h) g hk1)) rfl ?_
  change am_At _ _ _ 8 [_, _, _, _, _, _, _, _, _, _, _] [] _ _
  refine am_aload_n dX11_span_8 rfl ?_
  refine am_iload_n dX11_span_9 rfl ?_
  refine am_iload dX11_span_10 rfl ?_
  obtain ⟨⟨y2, M2⟩, hk2, hyp⟩ := bd_some hyp
  rcases y2 with v2 | E2
  rotate_left
  · try dsimp only at hyp
    cases hyp
    exact am_callVX [_, _] dX11_span_12 ml_X11_311 vm_X11_needWinter (sh_0 g) rfl (fun _ => Nat.le_of_ble_eq_true rfl) (by omega) rfl (am_o0t (ef_X11_needWinter (d := d + 4) (h := h) g hk2)) rfl
  try dsimp only at hyp
  refine am_callV [_, _] dX11_span_12 ml_X11_311 vm_X11_needWinter (sh_0 g) rfl (fun _ => Nat.le_of_ble_eq_true rfl) (by omega) rfl (am_o0v (ef_X11_needWinter (d := d + 4) (h := h) g hk2)) rfl ?_
  change am_At _ _ _ 15 [_, _, _, _, _, _, _, _, _, _, _] [] _ _
  refine am_aload_n dX11_span_15 rfl ?_
  refine am_iload dX11_span_16 rfl ?_
  refine am_iconst 0 (v := 0) dX11_span_18 (by decide) ?_
  refine am_iconst 2 (v := 2) dX11_span_19 (by decide) ?_
  obtain ⟨⟨y3, M3⟩, hk3, hyp⟩ := bd_some hyp
  rcases y3 with v3 | E3
  rotate_left
  · try dsimp only at hyp
    cases hyp
    exact am_callVX [_, _, _] dX11_span_20 ml_X11_178 vm_X11_needFit (sh_0 g) rfl (fun _ => Nat.le_of_ble_eq_true rfl) (by omega) rfl (am_o0t (ef_X11_needFit (d := d + 5) (h := h) g hk3)) rfl
  try dsimp only at hyp
  refine am_callV [_, _, _] dX11_span_20 ml_X11_178 vm_X11_needFit (sh_0 g) rfl (fun _ => Nat.le_of_ble_eq_true rfl) (by omega) rfl (am_o0v (ef_X11_needFit (d := d + 5) (h := h) g hk3)) rfl ?_
  change am_At _ _ _ 23 [_, _, _, _, _, _, _, _, _, _, _] [] _ _
  refine am_iconst 0 (v := 0) dX11_span_23 (by decide) ?_
  refine am_istore dX11_span_24 (am_lb rfl) ?_
  change am_At _ _ _ 26 [_, _, _, _, _, _, _, _, _, _, _] [] _ _
  refine am_iconst 0 (v := 0) dX11_span_26 (by decide) ?_
  refine am_istore dX11_span_27 (am_lb rfl) ?_
  change am_At _ _ _ 29 [_, _, _, _, _, _, _, _, _, _, _] [] _ _
  refine am_iconst 0 (v := 0) dX11_span_29 (by decide) ?_
  refine am_istore dX11_span_30 (am_lb rfl) ?_
  change am_At _ _ _ 32 [_, _, _, _, _, _, _, _, _, _, _] [] _ _
  refine am_iconst 0 (v := 0) dX11_span_32 (by decide) ?_
  refine am_istore dX11_span_33 (am_lb rfl) ?_
  change am_At _ _ _ 35 [_, _, _, _, _, _, _, _, _, _, _] [] _ _
  obtain ⟨⟨x6_12, x7_12, x8_12, M12⟩, hw12, hyp⟩ := bd_some hyp
  try dsimp only at hyp
  refine eL_X11_span_35_24 (d := d) (h := h) g hW  FU ((0 : Int32), (0 : Int32), (0 : Int32), (0 : Int32), M3) (x6_12, x7_12, x8_12, M12) hw12 ?_
  change am_At _ _ _ 128 [_, _, _, _, _, _, _, _, _, _, _] [] _ _
  refine am_iload dX11_span_128 rfl ?_
  refine am_if_ne (6) 136 dX11_span_130 rfl ?_ ?_
  · intro hc13n
    have hc13n : ¬ (x5 = 0) := hc13n
    replace hyp := it_neg hc13n hyp
    refine am_iload dX11_span_136 rfl ?_
    refine am_iconst 1 (v := 1) dX11_span_138 (by decide) ?_
    refine am_icmp_ne (8) 147 dX11_span_139 rfl ?_ ?_
    · intro hc14n
      have hc14n : ¬ (x5 = (1 : Int32)) := hc14n
      replace hyp := it_neg hc14n hyp
      refine am_iload dX11_span_147 rfl ?_
      cases hyp
      exact am_iret dX11_span_149 rfl
    · intro hc14
      have hc14 : x5 = (1 : Int32) := hc14
      replace hyp := it_pos hc14 hyp
      refine am_iload dX11_span_142 rfl ?_
      refine am_goto (5) 149 dX11_span_144 rfl ?_
      cases hyp
      exact am_iret dX11_span_149 rfl
  · intro hc13
    have hc13 : x5 = 0 := hc13
    replace hyp := it_pos hc13 hyp
    refine am_iload dX11_span_133 rfl ?_
    cases hyp
    exact am_iret dX11_span_135 rfl
theorem eL_X11_span_35_25 {d : Nat} {h : am_H} (g : lay h) (hW : h.2.2 23 0 = some 25 ∧ h.2.2 23 2 = some 24) {x1 x2 x3 x4 x5 : Int32} {r : am_R} (n : Nat) : ∀ (s : Int32 × Int32 × Int32 × Int32 × Mem) (e : Int32 × Int32 × Int32 × Mem), wh (L_X11_span_35 25 24 x1 x2 x3 x4) n s = some e → (match e with | (x6, x7, x8, M) => am_At am_X0 (d + 6) mX11_span 128 [some (.inr (0, 0)), some (am_I (x1)), some (am_I (x2)), some (am_I (x3)), some (am_I (x4)), some (am_I (x5)), some (am_I (x6)), some (am_I (x7)), some (am_I (x8)), none, none] [] (am_hM h M) r) → (match s with | (x6, x7, x8, x9, M) => am_At am_X0 (d + 6) mX11_span 35 [some (.inr (0, 0)), some (am_I (x1)), some (am_I (x2)), some (am_I (x3)), some (am_I (x4)), some (am_I (x5)), some (am_I (x6)), some (am_I (x7)), some (am_I (x8)), some (am_I (x9)), none] [] (am_hM h M) r) := by
  refine am_wh (At := fun (s : Int32 × Int32 × Int32 × Int32 × Mem) => match s with | (x6, x7, x8, x9, M) => am_At am_X0 (d + 6) mX11_span 35 [some (.inr (0, 0)), some (am_I (x1)), some (am_I (x2)), some (am_I (x3)), some (am_I (x4)), some (am_I (x5)), some (am_I (x6)), some (am_I (x7)), some (am_I (x8)), some (am_I (x9)), none] [] (am_hM h M) r) (Ex := fun (e : Int32 × Int32 × Int32 × Mem) => match e with | (x6, x7, x8, M) => am_At am_X0 (d + 6) mX11_span 128 [some (.inr (0, 0)), some (am_I (x1)), some (am_I (x2)), some (am_I (x3)), some (am_I (x4)), some (am_I (x5)), some (am_I (x6)), some (am_I (x7)), some (am_I (x8)), none, none] [] (am_hM h M) r) ?_ n
  rintro ⟨x6, x7, x8, x9, M⟩ y hyp hx
  unfold L_X11_span_35 at hyp
  try dsimp only at hyp
  change am_At _ _ _ 35 [_, _, _, _, _, _, _, _, _, _, _] [] _ _
  refine am_iload dX11_span_35 rfl ?_
  refine am_iload_n dX11_span_37 rfl ?_
  refine am_icmp_ge (90) 128 dX11_span_38 rfl ?_ ?_
  · intro hc4
    have hc4 : x2 ≤ x9 := hc4
    replace hyp := it_pos hc4 hyp
    cases hyp
    refine am_At.drop 9 ?_
    exact hx
  · intro hc4n
    have hc4n : ¬ (x2 ≤ x9) := hc4n
    replace hyp := it_neg hc4n hyp
    refine am_aload_n dX11_span_41 rfl ?_
    refine am_getR 11 8 38 dX11_span_42 fg_X11_68 (sh_0 g) (by decide) rfl (rf_0_8 g) ?_
    refine am_iload_n dX11_span_45 rfl ?_
    refine am_iload dX11_span_46 rfl ?_
    refine am_iadd dX11_span_48 ?_
    refine am_iload_n dX11_span_49 rfl ?_
    refine am_iload dX11_span_50 rfl ?_
    obtain ⟨M5, hk5, hyp⟩ := bd_some hyp
    try dsimp only at hyp
    refine am_callV [_, _, _] dX11_span_52 ml_X11_314 vm_X6_freeze (sh_38 g) rfl (fun _ => Nat.le_of_ble_eq_true rfl) (by omega) rfl (ef_X6_freeze_25 (d := d + 0) (h := h) g hW hk5) rfl ?_
    change am_At _ _ _ 55 [_, _, _, _, _, _, _, _, _, _, _] [] _ _
    refine am_aload_n dX11_span_55 rfl ?_
    refine am_getR 11 8 38 dX11_span_56 fg_X11_68 (sh_0 g) (by decide) rfl (rf_0_8 g) ?_
    obtain ⟨v6, hk6, hyp⟩ := bd_some hyp
    try dsimp only at hyp
    refine am_callV [] dX11_span_59 ml_X11_317 vm_X6_knocksSince (sh_38 g) rfl (fun _ => Nat.le_of_ble_eq_true rfl) (by omega) rfl (ef_X6_knocksSince (d := d + 3) (h := h) g hk6) rfl ?_
    change am_At _ _ _ 62 [_, _, _, _, _, _, _, _, _, _, _] [_] _ _
    refine am_istore dX11_span_62 (am_lb rfl) ?_
    change am_At _ _ _ 64 [_, _, _, _, _, _, _, _, _, _, _] [] _ _
    refine am_iload dX11_span_64 rfl ?_
    refine am_if_ne (8) 74 dX11_span_66 rfl ?_ ?_
    · intro hc7n
      have hc7n : ¬ (x9 = 0) := hc7n
      replace hyp := it_neg hc7n hyp
      refine am_iload dX11_span_74 rfl ?_
      refine am_iload dX11_span_76 rfl ?_
      refine am_min dX11_span_78 ml_X11_326 (fun _ => Nat.le_of_ble_eq_true rfl) ?_
      refine am_istore dX11_span_81 (am_lb rfl) ?_
      change am_At _ _ _ 83 [_, _, _, _, _, _, _, _, _, _, _] [] _ _
      refine am_iload dX11_span_83 rfl ?_
      refine am_iload dX11_span_85 rfl ?_
      refine am_max dX11_span_87 ml_X11_332 (fun _ => Nat.le_of_ble_eq_true rfl) ?_
      refine am_istore dX11_span_90 (am_lb rfl) ?_
      change am_At _ _ _ 92 [_, _, _, _, _, _, _, _, _, _, _] [] _ _
      refine am_iload dX11_span_92 rfl ?_
      refine am_aload_n dX11_span_94 rfl ?_
      refine am_getR 11 8 38 dX11_span_95 fg_X11_68 (sh_0 g) (by decide) rfl (rf_0_8 g) ?_
      refine am_getR 6 3 39 dX11_span_98 fg_X11_308 (sh_38 g) (by decide) rfl (rf_38_3 g) ?_
      obtain ⟨v8, hk8, hyp⟩ := bd_some hyp
      try dsimp only at hyp
      refine am_callV [] dX11_span_101 ml_X11_206 vm_X8_bargesThrough (sh_39 g) rfl (fun _ => Nat.le_of_ble_eq_true rfl) (by omega) rfl (ef_X8_bargesThrough_40 (d := d + 4) (h := h) g hk8) rfl ?_
      change am_At _ _ _ 104 [_, _, _, _, _, _, _, _, _, _, _] [_, _] _ _
      refine am_aload_n dX11_span_104 rfl ?_
      refine am_getR 11 1 3 dX11_span_105 fg_X11_19 (sh_0 g) (by decide) rfl (rf_0_1 g) ?_
      refine am_getI 1 5 dX11_span_108 fg_X11_182 (sh_3 g) (by decide) rfl ?_
      refine am_icmp_ne (7) 118 dX11_span_111 rfl ?_ ?_
      · intro hc9n
        have hc9n : ¬ (v8 = (M5 3 0 5)) := hc9n
        replace hyp := it_neg hc9n hyp
        refine am_iconst 0 (v := 0) dX11_span_118 (by decide) ?_
        refine am_iadd dX11_span_119 ?_
        refine am_istore dX11_span_120 (am_lb rfl) ?_
        change am_At _ _ _ 122 [_, _, _, _, _, _, _, _, _, _, _] [] _ _
        refine am_iinc dX11_span_122 rfl (am_ix _) ?_
        change am_At _ _ _ 125 [_, _, _, _, _, _, _, _, _, _, _] [] _ _
        refine am_goto (-90) 35 dX11_span_125 rfl ?_
        cases hyp
        refine am_At.drop 10 ?_
        exact hx
      · intro hc9
        have hc9 : v8 = (M5 3 0 5) := hc9
        replace hyp := it_pos hc9 hyp
        refine am_iconst 1 (v := 1) dX11_span_114 (by decide) ?_
        refine am_goto (4) 119 dX11_span_115 rfl ?_
        refine am_iadd dX11_span_119 ?_
        refine am_istore dX11_span_120 (am_lb rfl) ?_
        change am_At _ _ _ 122 [_, _, _, _, _, _, _, _, _, _, _] [] _ _
        refine am_iinc dX11_span_122 rfl (am_ix _) ?_
        change am_At _ _ _ 125 [_, _, _, _, _, _, _, _, _, _, _] [] _ _
        refine am_goto (-90) 35 dX11_span_125 rfl ?_
        cases hyp
        refine am_At.drop 10 ?_
        exact hx
    · intro hc7
      have hc7 : x9 = 0 := hc7
      replace hyp := it_pos hc7 hyp
      refine am_iload dX11_span_69 rfl ?_
      refine am_goto (10) 81 dX11_span_71 rfl ?_
      refine am_istore dX11_span_81 (am_lb rfl) ?_
      change am_At _ _ _ 83 [_, _, _, _, _, _, _, _, _, _, _] [] _ _
      refine am_iload dX11_span_83 rfl ?_
      refine am_iload dX11_span_85 rfl ?_
      refine am_max dX11_span_87 ml_X11_332 (fun _ => Nat.le_of_ble_eq_true rfl) ?_
      refine am_istore dX11_span_90 (am_lb rfl) ?_
      change am_At _ _ _ 92 [_, _, _, _, _, _, _, _, _, _, _] [] _ _
      refine am_iload dX11_span_92 rfl ?_
      refine am_aload_n dX11_span_94 rfl ?_
      refine am_getR 11 8 38 dX11_span_95 fg_X11_68 (sh_0 g) (by decide) rfl (rf_0_8 g) ?_
      refine am_getR 6 3 39 dX11_span_98 fg_X11_308 (sh_38 g) (by decide) rfl (rf_38_3 g) ?_
      obtain ⟨v10, hk10, hyp⟩ := bd_some hyp
      try dsimp only at hyp
      refine am_callV [] dX11_span_101 ml_X11_206 vm_X8_bargesThrough (sh_39 g) rfl (fun _ => Nat.le_of_ble_eq_true rfl) (by omega) rfl (ef_X8_bargesThrough_40 (d := d + 4) (h := h) g hk10) rfl ?_
      change am_At _ _ _ 104 [_, _, _, _, _, _, _, _, _, _, _] [_, _] _ _
      refine am_aload_n dX11_span_104 rfl ?_
      refine am_getR 11 1 3 dX11_span_105 fg_X11_19 (sh_0 g) (by decide) rfl (rf_0_1 g) ?_
      refine am_getI 1 5 dX11_span_108 fg_X11_182 (sh_3 g) (by decide) rfl ?_
      refine am_icmp_ne (7) 118 dX11_span_111 rfl ?_ ?_
      · intro hc11n
        have hc11n : ¬ (v10 = (M5 3 0 5)) := hc11n
        replace hyp := it_neg hc11n hyp
        refine am_iconst 0 (v := 0) dX11_span_118 (by decide) ?_
        refine am_iadd dX11_span_119 ?_
        refine am_istore dX11_span_120 (am_lb rfl) ?_
        change am_At _ _ _ 122 [_, _, _, _, _, _, _, _, _, _, _] [] _ _
        refine am_iinc dX11_span_122 rfl (am_ix _) ?_
        change am_At _ _ _ 125 [_, _, _, _, _, _, _, _, _, _, _] [] _ _
        refine am_goto (-90) 35 dX11_span_125 rfl ?_
        cases hyp
        refine am_At.drop 10 ?_
        exact hx
      · intro hc11
        have hc11 : v10 = (M5 3 0 5) := hc11
        replace hyp := it_pos hc11 hyp
        refine am_iconst 1 (v := 1) dX11_span_114 (by decide) ?_
        refine am_goto (4) 119 dX11_span_115 rfl ?_
        refine am_iadd dX11_span_119 ?_
        refine am_istore dX11_span_120 (am_lb rfl) ?_
        change am_At _ _ _ 122 [_, _, _, _, _, _, _, _, _, _, _] [] _ _
        refine am_iinc dX11_span_122 rfl (am_ix _) ?_
        change am_At _ _ _ 125 [_, _, _, _, _, _, _, _, _, _, _] [] _ _
        refine am_goto (-90) 35 dX11_span_125 rfl ?_
        cases hyp
        refine am_At.drop 10 ?_
        exact hx
theorem ef_X11_span_25 {d : Nat} {h : am_H} (g : lay h) (hW : h.2.2 23 0 = some 25 ∧ h.2.2 23 2 = some 24) {x1 x2 x3 x4 x5 : Int32} {M : Mem} {y : (Int32 ⊕ String) × Mem} (hyp : f_X11_span 25 24 x1 x2 x3 x4 x5 M = some y) : am_Ev (d + 6) mX11_span [.inr (0, 0), am_I x1, am_I x2, am_I x3, am_I x4, am_I x5] (am_hM h M) (am_o1 h y) := by
  unfold f_X11_span at hyp
  refine am_Ev.mk (by decide +kernel) rfl rfl (am_oc1 h y) (am_os1 h y) ?_
  change am_At _ _ _ 0 [_, _, _, _, _, _, _, _, _, _, _] [] _ _
  refine am_aload_n dX11_span_0 rfl ?_
  refine am_iload_n dX11_span_1 rfl ?_
  refine am_iconst 1 (v := 1) dX11_span_2 (by decide) ?_
  refine am_bipush 20 (v := 20) dX11_span_3 (by decide) ?_
  obtain ⟨⟨y1, M1⟩, hk1, hyp⟩ := bd_some hyp
  rcases y1 with v1 | E1
  rotate_left
  · try dsimp only at hyp
    cases hyp
    exact am_callVX [_, _, _] dX11_span_5 ml_X11_178 vm_X11_needFit (sh_0 g) rfl (fun _ => Nat.le_of_ble_eq_true rfl) (by omega) rfl (am_o0t (ef_X11_needFit (d := d + 5) (h := h) g hk1)) rfl
  try dsimp only at hyp
  refine am_callV [_, _, _] dX11_span_5 ml_X11_178 vm_X11_needFit (sh_0 g) rfl (fun _ => Nat.le_of_ble_eq_true rfl) (by omega) rfl (am_o0v (ef_X11_needFit (d := d + 5) (h := h) g hk1)) rfl ?_
  change am_At _ _ _ 8 [_, _, _, _, _, _, _, _, _, _, _] [] _ _
  refine am_aload_n dX11_span_8 rfl ?_
  refine am_iload_n dX11_span_9 rfl ?_
  refine am_iload dX11_span_10 rfl ?_
  obtain ⟨⟨y2, M2⟩, hk2, hyp⟩ := bd_some hyp
  rcases y2 with v2 | E2
  rotate_left
  · try dsimp only at hyp
    cases hyp
    exact am_callVX [_, _] dX11_span_12 ml_X11_311 vm_X11_needWinter (sh_0 g) rfl (fun _ => Nat.le_of_ble_eq_true rfl) (by omega) rfl (am_o0t (ef_X11_needWinter (d := d + 4) (h := h) g hk2)) rfl
  try dsimp only at hyp
  refine am_callV [_, _] dX11_span_12 ml_X11_311 vm_X11_needWinter (sh_0 g) rfl (fun _ => Nat.le_of_ble_eq_true rfl) (by omega) rfl (am_o0v (ef_X11_needWinter (d := d + 4) (h := h) g hk2)) rfl ?_
  change am_At _ _ _ 15 [_, _, _, _, _, _, _, _, _, _, _] [] _ _
  refine am_aload_n dX11_span_15 rfl ?_
  refine am_iload dX11_span_16 rfl ?_
  refine am_iconst 0 (v := 0) dX11_span_18 (by decide) ?_
  refine am_iconst 2 (v := 2) dX11_span_19 (by decide) ?_
  obtain ⟨⟨y3, M3⟩, hk3, hyp⟩ := bd_some hyp
  rcases y3 with v3 | E3
  rotate_left
  · try dsimp only at hyp
    cases hyp
    exact am_callVX [_, _, _] dX11_span_20 ml_X11_178 vm_X11_needFit (sh_0 g) rfl (fun _ => Nat.le_of_ble_eq_true rfl) (by omega) rfl (am_o0t (ef_X11_needFit (d := d + 5) (h := h) g hk3)) rfl
  try dsimp only at hyp
  refine am_callV [_, _, _] dX11_span_20 ml_X11_178 vm_X11_needFit (sh_0 g) rfl (fun _ => Nat.le_of_ble_eq_true rfl) (by omega) rfl (am_o0v (ef_X11_needFit (d := d + 5) (h := h) g hk3)) rfl ?_
  change am_At _ _ _ 23 [_, _, _, _, _, _, _, _, _, _, _] [] _ _
  refine am_iconst 0 (v := 0) dX11_span_23 (by decide) ?_
  refine am_istore dX11_span_24 (am_lb rfl) ?_
  change am_At _ _ _ 26 [_, _, _, _, _, _, _, _, _, _, _] [] _ _
  refine am_iconst 0 (v := 0) dX11_span_26 (by decide) ?_
  refine am_istore dX11_span_27 (am_lb rfl) ?_
  change am_At _ _ _ 29 [_, _, _, _, _, _, _, _, _, _, _] [] _ _
  refine am_iconst 0 (v := 0) dX11_span_29 (by decide) ?_
  refine am_istore dX11_span_30 (am_lb rfl) ?_
  change am_At _ _ _ 32 [_, _, _, _, _, _, _, _, _, _, _] [] _ _
  refine am_iconst 0 (v := 0) dX11_span_32 (by decide) ?_
  refine am_istore dX11_span_33 (am_lb rfl) ?_
  change am_At _ _ _ 35 [_, _, _, _, _, _, _, _, _, _, _] [] _ _
  obtain ⟨⟨x6_12, x7_12, x8_12, M12⟩, hw12, hyp⟩ := bd_some hyp
  try dsimp only at hyp
  refine eL_X11_span_35_25 (d := d) (h := h) g hW  FU ((0 : Int32), (0 : Int32), (0 : Int32), (0 : Int32), M3) (x6_12, x7_12, x8_12, M12) hw12 ?_
  change am_At _ _ _ 128 [_, _, _, _, _, _, _, _, _, _, _] [] _ _
  refine am_iload dX11_span_128 rfl ?_
  refine am_if_ne (6) 136 dX11_span_130 rfl ?_ ?_
  · intro hc13n
    have hc13n : ¬ (x5 = 0) := hc13n
    replace hyp := it_neg hc13n hyp
    refine am_iload dX11_span_136 rfl ?_
    refine am_iconst 1 (v := 1) dX11_span_138 (by decide) ?_
    refine am_icmp_ne (8) 147 dX11_span_139 rfl ?_ ?_
    · intro hc14n
      have hc14n : ¬ (x5 = (1 : Int32)) := hc14n
      replace hyp := it_neg hc14n hyp
      refine am_iload dX11_span_147 rfl ?_
      cases hyp
      exact am_iret dX11_span_149 rfl
    · intro hc14
      have hc14 : x5 = (1 : Int32) := hc14
      replace hyp := it_pos hc14 hyp
      refine am_iload dX11_span_142 rfl ?_
      refine am_goto (5) 149 dX11_span_144 rfl ?_
      cases hyp
      exact am_iret dX11_span_149 rfl
  · intro hc13
    have hc13 : x5 = 0 := hc13
    replace hyp := it_pos hc13 hyp
    refine am_iload dX11_span_133 rfl ?_
    cases hyp
    exact am_iret dX11_span_135 rfl
theorem ef_X11_winters_24 {d : Nat} {h : am_H} (g : lay h) (hW : h.2.2 23 0 = some 24 ∧ h.2.2 23 2 = some 25) {x1 x2 x3 x4 : Int32} {M : Mem} {y : (Int32 ⊕ String) × Mem} (hyp : f_X11_winters 24 25 x1 x2 x3 x4 M = some y) : am_Ev (d + 6) mX11_winters [.inr (0, 0), am_I x1, am_I x2, am_I x3, am_I x4] (am_hM h M) (am_o1 h y) := by
  unfold f_X11_winters at hyp
  refine am_Ev.mk (by decide +kernel) rfl rfl (am_oc1 h y) (am_os1 h y) ?_
  change am_At _ _ _ 0 [_, _, _, _, _] [] _ _
  refine am_aload_n dX11_winters_0 rfl ?_
  refine am_iload_n dX11_winters_1 rfl ?_
  refine am_iload_n dX11_winters_2 rfl ?_
  obtain ⟨⟨y1, M1⟩, hk1, hyp⟩ := bd_some hyp
  rcases y1 with v1 | E1
  rotate_left
  · try dsimp only at hyp
    cases hyp
    exact am_callVX [_, _] dX11_winters_3 ml_X11_311 vm_X11_needWinter (sh_0 g) rfl (fun _ => Nat.le_of_ble_eq_true rfl) (by omega) rfl (am_o0t (ef_X11_needWinter (d := d + 4) (h := h) g hk1)) rfl
  try dsimp only at hyp
  refine am_callV [_, _] dX11_winters_3 ml_X11_311 vm_X11_needWinter (sh_0 g) rfl (fun _ => Nat.le_of_ble_eq_true rfl) (by omega) rfl (am_o0v (ef_X11_needWinter (d := d + 4) (h := h) g hk1)) rfl ?_
  change am_At _ _ _ 6 [_, _, _, _, _] [] _ _
  refine am_aload_n dX11_winters_6 rfl ?_
  refine am_iload dX11_winters_7 rfl ?_
  refine am_iconst 0 (v := 0) dX11_winters_9 (by decide) ?_
  refine am_iconst 3 (v := 3) dX11_winters_10 (by decide) ?_
  obtain ⟨⟨y2, M2⟩, hk2, hyp⟩ := bd_some hyp
  rcases y2 with v2 | E2
  rotate_left
  · try dsimp only at hyp
    cases hyp
    exact am_callVX [_, _, _] dX11_winters_11 ml_X11_178 vm_X11_needFit (sh_0 g) rfl (fun _ => Nat.le_of_ble_eq_true rfl) (by omega) rfl (am_o0t (ef_X11_needFit (d := d + 5) (h := h) g hk2)) rfl
  try dsimp only at hyp
  refine am_callV [_, _, _] dX11_winters_11 ml_X11_178 vm_X11_needFit (sh_0 g) rfl (fun _ => Nat.le_of_ble_eq_true rfl) (by omega) rfl (am_o0v (ef_X11_needFit (d := d + 5) (h := h) g hk2)) rfl ?_
  change am_At _ _ _ 14 [_, _, _, _, _] [] _ _
  refine am_aload_n dX11_winters_14 rfl ?_
  refine am_getR 11 8 38 dX11_winters_15 fg_X11_68 (sh_0 g) (by decide) rfl (rf_0_8 g) ?_
  refine am_iload_n dX11_winters_18 rfl ?_
  refine am_iload_n dX11_winters_19 rfl ?_
  refine am_iload_n dX11_winters_20 rfl ?_
  obtain ⟨M3, hk3, hyp⟩ := bd_some hyp
  try dsimp only at hyp
  refine am_callV [_, _, _] dX11_winters_21 ml_X11_314 vm_X6_freeze (sh_38 g) rfl (fun _ => Nat.le_of_ble_eq_true rfl) (by omega) rfl (ef_X6_freeze_24 (d := d + 0) (h := h) g hW hk3) rfl ?_
  change am_At _ _ _ 24 [_, _, _, _, _] [] _ _
  refine am_iload dX11_winters_24 rfl ?_
  by_cases hc4 : x4 = (0 : Int32)
  · refine am_tabIn (26) 52 dX11_winters_26 (by rw [hc4]; decide) (by rw [hc4]; decide) (by rw [hc4]; rfl) rfl ?_
    replace hyp := it_pos hc4 hyp
    refine am_aload_n dX11_winters_52 rfl ?_
    refine am_getR 11 8 38 dX11_winters_53 fg_X11_68 (sh_0 g) (by decide) rfl (rf_0_8 g) ?_
    refine am_getR 6 3 39 dX11_winters_56 fg_X11_308 (sh_38 g) (by decide) rfl (rf_38_3 g) ?_
    obtain ⟨v5, hk5, hyp⟩ := bd_some hyp
    try dsimp only at hyp
    refine am_callV [] dX11_winters_59 ml_X11_206 vm_X8_bargesThrough (sh_39 g) rfl (fun _ => Nat.le_of_ble_eq_true rfl) (by omega) rfl (ef_X8_bargesThrough_40 (d := d + 4) (h := h) g hk5) rfl ?_
    change am_At _ _ _ 62 [_, _, _, _, _] [_] _ _
    cases hyp
    exact am_iret dX11_winters_62 rfl
  · have hc4n := hc4
    replace hyp := it_neg hc4n hyp
    by_cases hc6 : x4 = (1 : Int32)
    · refine am_tabIn (37) 63 dX11_winters_26 (by rw [hc6]; decide) (by rw [hc6]; decide) (by rw [hc6]; rfl) rfl ?_
      replace hyp := it_pos hc6 hyp
      refine am_aload_n dX11_winters_63 rfl ?_
      refine am_getR 11 8 38 dX11_winters_64 fg_X11_68 (sh_0 g) (by decide) rfl (rf_0_8 g) ?_
      obtain ⟨v7, hk7, hyp⟩ := bd_some hyp
      try dsimp only at hyp
      refine am_callV [] dX11_winters_67 ml_X11_317 vm_X6_knocksSince (sh_38 g) rfl (fun _ => Nat.le_of_ble_eq_true rfl) (by omega) rfl (ef_X6_knocksSince (d := d + 3) (h := h) g hk7) rfl ?_
      change am_At _ _ _ 70 [_, _, _, _, _] [_] _ _
      cases hyp
      exact am_iret dX11_winters_70 rfl
    · have hc6n := hc6
      replace hyp := it_neg hc6n hyp
      by_cases hc8 : x4 = (2 : Int32)
      · refine am_tabIn (45) 71 dX11_winters_26 (by rw [hc8]; decide) (by rw [hc8]; decide) (by rw [hc8]; rfl) rfl ?_
        replace hyp := it_pos hc8 hyp
        refine am_aload_n dX11_winters_71 rfl ?_
        refine am_getR 11 8 38 dX11_winters_72 fg_X11_68 (sh_0 g) (by decide) rfl (rf_0_8 g) ?_
        refine am_getI 6 10 dX11_winters_75 fg_X11_320 (sh_38 g) (by decide) rfl ?_
        cases hyp
        exact am_iret dX11_winters_78 rfl
      · have hc8n := hc8
        replace hyp := it_neg hc8n hyp
        refine am_tabOut 79 dX11_winters_26 (by have q0 := lv_neT (a := 0) hc4n (by decide); have q1 := lv_neT (a := 1) hc6n (by decide); have q2 := lv_neT (a := 2) hc8n (by decide); omega) rfl ?_
        refine am_aload_n dX11_winters_79 rfl ?_
        refine am_getR 11 8 38 dX11_winters_80 fg_X11_68 (sh_0 g) (by decide) rfl (rf_0_8 g) ?_
        obtain ⟨v9, hk9, hyp⟩ := bd_some hyp
        try dsimp only at hyp
        refine am_callV [] dX11_winters_83 ml_X11_323 vm_X6_finesSince (sh_38 g) rfl (fun _ => Nat.le_of_ble_eq_true rfl) (by omega) rfl (ef_X6_finesSince (d := d + 3) (h := h) g hk9) rfl ?_
        change am_At _ _ _ 86 [_, _, _, _, _] [_] _ _
        cases hyp
        exact am_iret dX11_winters_86 rfl
theorem ef_X11_winters_25 {d : Nat} {h : am_H} (g : lay h) (hW : h.2.2 23 0 = some 25 ∧ h.2.2 23 2 = some 24) {x1 x2 x3 x4 : Int32} {M : Mem} {y : (Int32 ⊕ String) × Mem} (hyp : f_X11_winters 25 24 x1 x2 x3 x4 M = some y) : am_Ev (d + 6) mX11_winters [.inr (0, 0), am_I x1, am_I x2, am_I x3, am_I x4] (am_hM h M) (am_o1 h y) := by
  unfold f_X11_winters at hyp
  refine am_Ev.mk (by decide +kernel) rfl rfl (am_oc1 h y) (am_os1 h y) ?_
  change am_At _ _ _ 0 [_, _, _, _, _] [] _ _
  refine am_aload_n dX11_winters_0 rfl ?_
  refine am_iload_n dX11_winters_1 rfl ?_
  refine am_iload_n dX11_winters_2 rfl ?_
  obtain ⟨⟨y1, M1⟩, hk1, hyp⟩ := bd_some hyp
  rcases y1 with v1 | E1
  rotate_left
  · try dsimp only at hyp
    cases hyp
    exact am_callVX [_, _] dX11_winters_3 ml_X11_311 vm_X11_needWinter (sh_0 g) rfl (fun _ => Nat.le_of_ble_eq_true rfl) (by omega) rfl (am_o0t (ef_X11_needWinter (d := d + 4) (h := h) g hk1)) rfl
  try dsimp only at hyp
  refine am_callV [_, _] dX11_winters_3 ml_X11_311 vm_X11_needWinter (sh_0 g) rfl (fun _ => Nat.le_of_ble_eq_true rfl) (by omega) rfl (am_o0v (ef_X11_needWinter (d := d + 4) (h := h) g hk1)) rfl ?_
  change am_At _ _ _ 6 [_, _, _, _, _] [] _ _
  refine am_aload_n dX11_winters_6 rfl ?_
  refine am_iload dX11_winters_7 rfl ?_
  refine am_iconst 0 (v := 0) dX11_winters_9 (by decide) ?_
  refine am_iconst 3 (v := 3) dX11_winters_10 (by decide) ?_
  obtain ⟨⟨y2, M2⟩, hk2, hyp⟩ := bd_some hyp
  rcases y2 with v2 | E2
  rotate_left
  · try dsimp only at hyp
    cases hyp
    exact am_callVX [_, _, _] dX11_winters_11 ml_X11_178 vm_X11_needFit (sh_0 g) rfl (fun _ => Nat.le_of_ble_eq_true rfl) (by omega) rfl (am_o0t (ef_X11_needFit (d := d + 5) (h := h) g hk2)) rfl
  try dsimp only at hyp
  refine am_callV [_, _, _] dX11_winters_11 ml_X11_178 vm_X11_needFit (sh_0 g) rfl (fun _ => Nat.le_of_ble_eq_true rfl) (by omega) rfl (am_o0v (ef_X11_needFit (d := d + 5) (h := h) g hk2)) rfl ?_
  change am_At _ _ _ 14 [_, _, _, _, _] [] _ _
  refine am_aload_n dX11_winters_14 rfl ?_
  refine am_getR 11 8 38 dX11_winters_15 fg_X11_68 (sh_0 g) (by decide) rfl (rf_0_8 g) ?_
  refine am_iload_n dX11_winters_18 rfl ?_
  refine am_iload_n dX11_winters_19 rfl ?_
  refine am_iload_n dX11_winters_20 rfl ?_
  obtain ⟨M3, hk3, hyp⟩ := bd_some hyp
  try dsimp only at hyp
  refine am_callV [_, _, _] dX11_winters_21 ml_X11_314 vm_X6_freeze (sh_38 g) rfl (fun _ => Nat.le_of_ble_eq_true rfl) (by omega) rfl (ef_X6_freeze_25 (d := d + 0) (h := h) g hW hk3) rfl ?_
  change am_At _ _ _ 24 [_, _, _, _, _] [] _ _
  refine am_iload dX11_winters_24 rfl ?_
  by_cases hc4 : x4 = (0 : Int32)
  · refine am_tabIn (26) 52 dX11_winters_26 (by rw [hc4]; decide) (by rw [hc4]; decide) (by rw [hc4]; rfl) rfl ?_
    replace hyp := it_pos hc4 hyp
    refine am_aload_n dX11_winters_52 rfl ?_
    refine am_getR 11 8 38 dX11_winters_53 fg_X11_68 (sh_0 g) (by decide) rfl (rf_0_8 g) ?_
    refine am_getR 6 3 39 dX11_winters_56 fg_X11_308 (sh_38 g) (by decide) rfl (rf_38_3 g) ?_
    obtain ⟨v5, hk5, hyp⟩ := bd_some hyp
    try dsimp only at hyp
    refine am_callV [] dX11_winters_59 ml_X11_206 vm_X8_bargesThrough (sh_39 g) rfl (fun _ => Nat.le_of_ble_eq_true rfl) (by omega) rfl (ef_X8_bargesThrough_40 (d := d + 4) (h := h) g hk5) rfl ?_
    change am_At _ _ _ 62 [_, _, _, _, _] [_] _ _
    cases hyp
    exact am_iret dX11_winters_62 rfl
  · have hc4n := hc4
    replace hyp := it_neg hc4n hyp
    by_cases hc6 : x4 = (1 : Int32)
    · refine am_tabIn (37) 63 dX11_winters_26 (by rw [hc6]; decide) (by rw [hc6]; decide) (by rw [hc6]; rfl) rfl ?_
      replace hyp := it_pos hc6 hyp
      refine am_aload_n dX11_winters_63 rfl ?_
      refine am_getR 11 8 38 dX11_winters_64 fg_X11_68 (sh_0 g) (by decide) rfl (rf_0_8 g) ?_
      obtain ⟨v7, hk7, hyp⟩ := bd_some hyp
      try dsimp only at hyp
      refine am_callV [] dX11_winters_67 ml_X11_317 vm_X6_knocksSince (sh_38 g) rfl (fun _ => Nat.le_of_ble_eq_true rfl) (by omega) rfl (ef_X6_knocksSince (d := d + 3) (h := h) g hk7) rfl ?_
      change am_At _ _ _ 70 [_, _, _, _, _] [_] _ _
      cases hyp
      exact am_iret dX11_winters_70 rfl
    · have hc6n := hc6
      replace hyp := it_neg hc6n hyp
      by_cases hc8 : x4 = (2 : Int32)
      · refine am_tabIn (45) 71 dX11_winters_26 (by rw [hc8]; decide) (by rw [hc8]; decide) (by rw [hc8]; rfl) rfl ?_
        replace hyp := it_pos hc8 hyp
        refine am_aload_n dX11_winters_71 rfl ?_
        refine am_getR 11 8 38 dX11_winters_72 fg_X11_68 (sh_0 g) (by decide) rfl (rf_0_8 g) ?_
        refine am_getI 6 10 dX11_winters_75 fg_X11_320 (sh_38 g) (by decide) rfl ?_
        cases hyp
        exact am_iret dX11_winters_78 rfl
      · have hc8n := hc8
        replace hyp := it_neg hc8n hyp
        refine am_tabOut 79 dX11_winters_26 (by have q0 := lv_neT (a := 0) hc4n (by decide); have q1 := lv_neT (a := 1) hc6n (by decide); have q2 := lv_neT (a := 2) hc8n (by decide); omega) rfl ?_
        refine am_aload_n dX11_winters_79 rfl ?_
        refine am_getR 11 8 38 dX11_winters_80 fg_X11_68 (sh_0 g) (by decide) rfl (rf_0_8 g) ?_
        obtain ⟨v9, hk9, hyp⟩ := bd_some hyp
        try dsimp only at hyp
        refine am_callV [] dX11_winters_83 ml_X11_323 vm_X6_finesSince (sh_38 g) rfl (fun _ => Nat.le_of_ble_eq_true rfl) (by omega) rfl (ef_X6_finesSince (d := d + 3) (h := h) g hk9) rfl ?_
        change am_At _ _ _ 86 [_, _, _, _, _] [_] _ _
        cases hyp
        exact am_iret dX11_winters_86 rfl
theorem ef_X11_work_24 {d : Nat} {h : am_H} (g : lay h) (hW : h.2.2 23 0 = some 24 ∧ h.2.2 23 2 = some 25) {x1 : Int32} {M : Mem} {y : (Int32 ⊕ String) × Mem} (hyp : f_X11_work 24 25 x1 M = some y) : am_Ev (d + 37) mX11_work [.inr (0, 0), am_I x1] (am_hM h M) (am_o1 h y) := by
  unfold f_X11_work at hyp
  refine am_Ev.mk (by decide +kernel) rfl rfl (am_oc1 h y) (am_os1 h y) ?_
  change am_At _ _ _ 0 [_, _, _] [] _ _
  refine am_aload_n dX11_work_0 rfl ?_
  refine am_iload_n dX11_work_1 rfl ?_
  refine am_sipush 150 (v := 150) dX11_work_2 (by decide) ?_
  obtain ⟨⟨y1, M1⟩, hk1, hyp⟩ := bd_some hyp
  rcases y1 with v1 | E1
  rotate_left
  · try dsimp only at hyp
    cases hyp
    exact am_callVX [_, _] dX11_work_5 ml_X11_107 vm_X11_takeText (sh_0 g) rfl (fun _ => Nat.le_of_ble_eq_true rfl) (by omega) rfl (am_o0t (ef_X11_takeText (d := d + 35) (h := h) g hk1)) rfl
  try dsimp only at hyp
  refine am_callV [_, _] dX11_work_5 ml_X11_107 vm_X11_takeText (sh_0 g) rfl (fun _ => Nat.le_of_ble_eq_true rfl) (by omega) rfl (am_o0v (ef_X11_takeText (d := d + 35) (h := h) g hk1)) rfl ?_
  change am_At _ _ _ 8 [_, _, _] [] _ _
  refine am_aload_n dX11_work_8 rfl ?_
  refine am_getR 11 6 31 dX11_work_9 fg_X11_52 (sh_0 g) (by decide) rfl (rf_0_6 g) ?_
  refine am_callV [] dX11_work_12 ml_X11_146 vm_X7_isFull (sh_31 g) rfl (fun _ => Nat.le_of_ble_eq_true rfl) (by omega) rfl (ef_X7_isFull (d := d + 36) (h := h) g  (M := M1) rfl) rfl ?_
  change am_At _ _ _ 15 [_, _, _] [_] _ _
  refine am_if_eq (6) 21 dX11_work_15 rfl ?_ ?_
  · intro hc2
    have hc2 : (f_X7_isFull M1) = 0 := hc2
    replace hyp := it_pos hc2 hyp
    refine am_aload_n dX11_work_21 rfl ?_
    refine am_getR 11 7 34 dX11_work_22 fg_X11_59 (sh_0 g) (by decide) rfl (rf_0_7 g) ?_
    refine am_aload_n dX11_work_25 rfl ?_
    refine am_getR 11 0 1 dX11_work_26 fg_X11_10 (sh_0 g) (by decide) rfl (rf_0_0 g) ?_
    refine am_aload_n dX11_work_29 rfl ?_
    refine am_getR 11 1 3 dX11_work_30 fg_X11_19 (sh_0 g) (by decide) rfl (rf_0_1 g) ?_
    refine am_getI 1 0 dX11_work_33 fg_X11_142 (sh_3 g) (by decide) rfl ?_
    obtain ⟨M3, hk3, hyp⟩ := bd_some hyp
    try dsimp only at hyp
    refine am_callV [_, _] dX11_work_36 ml_X11_149 vm_X9_read (sh_34 g) rfl (fun _ => Nat.le_of_ble_eq_true rfl) (by omega) rfl (ef_X9_read (d := d + 0) (h := h) g hk3) rfl ?_
    change am_At _ _ _ 39 [_, _, _] [] _ _
    refine am_aload_n dX11_work_39 rfl ?_
    refine am_getR 11 0 1 dX11_work_40 fg_X11_10 (sh_0 g) (by decide) rfl (rf_0_0 g) ?_
    refine am_callV [] dX11_work_43 ml_X11_115 vm_X10_isFaulty (sh_1 g) rfl (fun _ => Nat.le_of_ble_eq_true rfl) (by omega) rfl (ef_X10_isFaulty (d := d + 36) (h := h) g  (M := M3) rfl) rfl ?_
    change am_At _ _ _ 46 [_, _, _] [_] _ _
    refine am_if_eq (11) 57 dX11_work_46 rfl ?_ ?_
    · intro hc4
      have hc4 : (f_X10_isFaulty M3) = 0 := hc4
      replace hyp := it_pos hc4 hyp
      refine am_aload_n dX11_work_57 rfl ?_
      refine am_getR 11 6 31 dX11_work_58 fg_X11_52 (sh_0 g) (by decide) rfl (rf_0_6 g) ?_
      refine am_aload_n dX11_work_61 rfl ?_
      refine am_getR 11 5 29 dX11_work_62 fg_X11_45 (sh_0 g) (by decide) rfl (rf_0_5 g) ?_
      obtain ⟨M5, hk5, hyp⟩ := bd_some hyp
      try dsimp only at hyp
      refine am_callV [_] dX11_work_65 ml_X11_152 vm_X7_keep (sh_31 g) rfl (fun _ => Nat.le_of_ble_eq_true rfl) (by omega) rfl (ef_X7_keep (d := d + 35) (h := h) g hk5) rfl ?_
      change am_At _ _ _ 68 [_, _, _] [] _ _
      refine am_aload_n dX11_work_68 rfl ?_
      refine am_getR 11 7 34 dX11_work_69 fg_X11_59 (sh_0 g) (by decide) rfl (rf_0_7 g) ?_
      refine am_aload_n dX11_work_72 rfl ?_
      refine am_getR 11 5 29 dX11_work_73 fg_X11_45 (sh_0 g) (by decide) rfl (rf_0_5 g) ?_
      refine am_aload_n dX11_work_76 rfl ?_
      refine am_getR 11 4 28 dX11_work_77 fg_X11_38 (sh_0 g) (by decide) rfl (rf_0_4 g) ?_
      obtain ⟨⟨v6, M6⟩, hk6, hyp⟩ := bd_some hyp
      try dsimp only at hyp
      refine am_callV [_, _] dX11_work_80 ml_X11_156 vm_X9_run (sh_34 g) rfl (fun _ => Nat.le_of_ble_eq_true rfl) (by omega) rfl (ef_X9_run_24 (d := d + 1) (h := h) g hW hk6) rfl ?_
      change am_At _ _ _ 83 [_, _, _] [_] _ _
      refine am_istore_n dX11_work_83 (am_lb rfl) ?_
      change am_At _ _ _ 84 [_, _, _] [] _ _
      refine am_aload_n dX11_work_84 rfl ?_
      refine am_aload_n dX11_work_85 rfl ?_
      refine am_getR 11 7 34 dX11_work_86 fg_X11_59 (sh_0 g) (by decide) rfl (rf_0_7 g) ?_
      refine am_getI 9 6 dX11_work_89 fg_X11_160 (sh_34 g) (by decide) rfl ?_
      refine am_putI 11 12 dX11_work_92 (Or.inl fp_X11_135) (sh_0 g) (by decide) rfl rfl rfl ?_
      refine am_aload_n dX11_work_95 rfl ?_
      refine am_getR 11 8 38 dX11_work_96 fg_X11_68 (sh_0 g) (by decide) rfl (rf_0_8 g) ?_
      refine am_callV [] dX11_work_99 ml_X11_139 vm_X6_forget (sh_38 g) rfl (fun _ => Nat.le_of_ble_eq_true rfl) (by omega) rfl (ef_X6_forget (d := d + 36) (h := h) g  (M := (am_u3 M6 0 0 12 (M6 34 0 6))) rfl) rfl ?_
      change am_At _ _ _ 102 [_, _, _] [] _ _
      refine am_iload_n dX11_work_102 rfl ?_
      cases hyp
      exact am_iret dX11_work_103 rfl
    · intro hc4n
      have hc4n : ¬ ((f_X10_isFaulty M3) = 0) := hc4n
      replace hyp := it_neg hc4n hyp
      refine am_aload_n dX11_work_49 rfl ?_
      refine am_getR 11 0 1 dX11_work_50 fg_X11_10 (sh_0 g) (by decide) rfl (rf_0_0 g) ?_
      refine am_callV [] dX11_work_53 ml_X11_119 vm_X10_faultAnswer (sh_1 g) rfl (fun _ => Nat.le_of_ble_eq_true rfl) (by omega) rfl (ef_X10_faultAnswer (d := d + 36) (h := h) g  (M := M3) rfl) rfl ?_
      change am_At _ _ _ 56 [_, _, _] [_] _ _
      cases hyp
      exact am_iret dX11_work_56 rfl
  · intro hc2n
    have hc2n : ¬ ((f_X7_isFull M1) = 0) := hc2n
    replace hyp := it_neg hc2n hyp
    refine am_bipush (-20) (v := (-20)) dX11_work_18 (by decide) ?_
    cases hyp
    exact am_iret dX11_work_20 rfl
theorem ef_X11_work_25 {d : Nat} {h : am_H} (g : lay h) (hW : h.2.2 23 0 = some 25 ∧ h.2.2 23 2 = some 24) {x1 : Int32} {M : Mem} {y : (Int32 ⊕ String) × Mem} (hyp : f_X11_work 25 24 x1 M = some y) : am_Ev (d + 37) mX11_work [.inr (0, 0), am_I x1] (am_hM h M) (am_o1 h y) := by
  unfold f_X11_work at hyp
  refine am_Ev.mk (by decide +kernel) rfl rfl (am_oc1 h y) (am_os1 h y) ?_
  change am_At _ _ _ 0 [_, _, _] [] _ _
  refine am_aload_n dX11_work_0 rfl ?_
  refine am_iload_n dX11_work_1 rfl ?_
  refine am_sipush 150 (v := 150) dX11_work_2 (by decide) ?_
  obtain ⟨⟨y1, M1⟩, hk1, hyp⟩ := bd_some hyp
  rcases y1 with v1 | E1
  rotate_left
  · try dsimp only at hyp
    cases hyp
    exact am_callVX [_, _] dX11_work_5 ml_X11_107 vm_X11_takeText (sh_0 g) rfl (fun _ => Nat.le_of_ble_eq_true rfl) (by omega) rfl (am_o0t (ef_X11_takeText (d := d + 35) (h := h) g hk1)) rfl
  try dsimp only at hyp
  refine am_callV [_, _] dX11_work_5 ml_X11_107 vm_X11_takeText (sh_0 g) rfl (fun _ => Nat.le_of_ble_eq_true rfl) (by omega) rfl (am_o0v (ef_X11_takeText (d := d + 35) (h := h) g hk1)) rfl ?_
  change am_At _ _ _ 8 [_, _, _] [] _ _
  refine am_aload_n dX11_work_8 rfl ?_
  refine am_getR 11 6 31 dX11_work_9 fg_X11_52 (sh_0 g) (by decide) rfl (rf_0_6 g) ?_
  refine am_callV [] dX11_work_12 ml_X11_146 vm_X7_isFull (sh_31 g) rfl (fun _ => Nat.le_of_ble_eq_true rfl) (by omega) rfl (ef_X7_isFull (d := d + 36) (h := h) g  (M := M1) rfl) rfl ?_
  change am_At _ _ _ 15 [_, _, _] [_] _ _
  refine am_if_eq (6) 21 dX11_work_15 rfl ?_ ?_
  · intro hc2
    have hc2 : (f_X7_isFull M1) = 0 := hc2
    replace hyp := it_pos hc2 hyp
    refine am_aload_n dX11_work_21 rfl ?_
    refine am_getR 11 7 34 dX11_work_22 fg_X11_59 (sh_0 g) (by decide) rfl (rf_0_7 g) ?_
    refine am_aload_n dX11_work_25 rfl ?_
    refine am_getR 11 0 1 dX11_work_26 fg_X11_10 (sh_0 g) (by decide) rfl (rf_0_0 g) ?_
    refine am_aload_n dX11_work_29 rfl ?_
    refine am_getR 11 1 3 dX11_work_30 fg_X11_19 (sh_0 g) (by decide) rfl (rf_0_1 g) ?_
    refine am_getI 1 0 dX11_work_33 fg_X11_142 (sh_3 g) (by decide) rfl ?_
    obtain ⟨M3, hk3, hyp⟩ := bd_some hyp
    try dsimp only at hyp
    refine am_callV [_, _] dX11_work_36 ml_X11_149 vm_X9_read (sh_34 g) rfl (fun _ => Nat.le_of_ble_eq_true rfl) (by omega) rfl (ef_X9_read (d := d + 0) (h := h) g hk3) rfl ?_
    change am_At _ _ _ 39 [_, _, _] [] _ _
    refine am_aload_n dX11_work_39 rfl ?_
    refine am_getR 11 0 1 dX11_work_40 fg_X11_10 (sh_0 g) (by decide) rfl (rf_0_0 g) ?_
    refine am_callV [] dX11_work_43 ml_X11_115 vm_X10_isFaulty (sh_1 g) rfl (fun _ => Nat.le_of_ble_eq_true rfl) (by omega) rfl (ef_X10_isFaulty (d := d + 36) (h := h) g  (M := M3) rfl) rfl ?_
    change am_At _ _ _ 46 [_, _, _] [_] _ _
    refine am_if_eq (11) 57 dX11_work_46 rfl ?_ ?_
    · intro hc4
      have hc4 : (f_X10_isFaulty M3) = 0 := hc4
      replace hyp := it_pos hc4 hyp
      refine am_aload_n dX11_work_57 rfl ?_
      refine am_getR 11 6 31 dX11_work_58 fg_X11_52 (sh_0 g) (by decide) rfl (rf_0_6 g) ?_
      refine am_aload_n dX11_work_61 rfl ?_
      refine am_getR 11 5 29 dX11_work_62 fg_X11_45 (sh_0 g) (by decide) rfl (rf_0_5 g) ?_
      obtain ⟨M5, hk5, hyp⟩ := bd_some hyp
      try dsimp only at hyp
      refine am_callV [_] dX11_work_65 ml_X11_152 vm_X7_keep (sh_31 g) rfl (fun _ => Nat.le_of_ble_eq_true rfl) (by omega) rfl (ef_X7_keep (d := d + 35) (h := h) g hk5) rfl ?_
      change am_At _ _ _ 68 [_, _, _] [] _ _
      refine am_aload_n dX11_work_68 rfl ?_
      refine am_getR 11 7 34 dX11_work_69 fg_X11_59 (sh_0 g) (by decide) rfl (rf_0_7 g) ?_
      refine am_aload_n dX11_work_72 rfl ?_
      refine am_getR 11 5 29 dX11_work_73 fg_X11_45 (sh_0 g) (by decide) rfl (rf_0_5 g) ?_
      refine am_aload_n dX11_work_76 rfl ?_
      refine am_getR 11 4 28 dX11_work_77 fg_X11_38 (sh_0 g) (by decide) rfl (rf_0_4 g) ?_
      obtain ⟨⟨v6, M6⟩, hk6, hyp⟩ := bd_some hyp
      try dsimp only at hyp
      refine am_callV [_, _] dX11_work_80 ml_X11_156 vm_X9_run (sh_34 g) rfl (fun _ => Nat.le_of_ble_eq_true rfl) (by omega) rfl (ef_X9_run_25 (d := d + 1) (h := h) g hW hk6) rfl ?_
      change am_At _ _ _ 83 [_, _, _] [_] _ _
      refine am_istore_n dX11_work_83 (am_lb rfl) ?_
      change am_At _ _ _ 84 [_, _, _] [] _ _
      refine am_aload_n dX11_work_84 rfl ?_
      refine am_aload_n dX11_work_85 rfl ?_
      refine am_getR 11 7 34 dX11_work_86 fg_X11_59 (sh_0 g) (by decide) rfl (rf_0_7 g) ?_
      refine am_getI 9 6 dX11_work_89 fg_X11_160 (sh_34 g) (by decide) rfl ?_
      refine am_putI 11 12 dX11_work_92 (Or.inl fp_X11_135) (sh_0 g) (by decide) rfl rfl rfl ?_
      refine am_aload_n dX11_work_95 rfl ?_
      refine am_getR 11 8 38 dX11_work_96 fg_X11_68 (sh_0 g) (by decide) rfl (rf_0_8 g) ?_
      refine am_callV [] dX11_work_99 ml_X11_139 vm_X6_forget (sh_38 g) rfl (fun _ => Nat.le_of_ble_eq_true rfl) (by omega) rfl (ef_X6_forget (d := d + 36) (h := h) g  (M := (am_u3 M6 0 0 12 (M6 34 0 6))) rfl) rfl ?_
      change am_At _ _ _ 102 [_, _, _] [] _ _
      refine am_iload_n dX11_work_102 rfl ?_
      cases hyp
      exact am_iret dX11_work_103 rfl
    · intro hc4n
      have hc4n : ¬ ((f_X10_isFaulty M3) = 0) := hc4n
      replace hyp := it_neg hc4n hyp
      refine am_aload_n dX11_work_49 rfl ?_
      refine am_getR 11 0 1 dX11_work_50 fg_X11_10 (sh_0 g) (by decide) rfl (rf_0_0 g) ?_
      refine am_callV [] dX11_work_53 ml_X11_119 vm_X10_faultAnswer (sh_1 g) rfl (fun _ => Nat.le_of_ble_eq_true rfl) (by omega) rfl (ef_X10_faultAnswer (d := d + 36) (h := h) g  (M := M3) rfl) rfl ?_
      change am_At _ _ _ 56 [_, _, _] [_] _ _
      cases hyp
      exact am_iret dX11_work_56 rfl
  · intro hc2n
    have hc2n : ¬ ((f_X7_isFull M1) = 0) := hc2n
    replace hyp := it_neg hc2n hyp
    refine am_bipush (-20) (v := (-20)) dX11_work_18 (by decide) ?_
    cases hyp
    exact am_iret dX11_work_20 rfl
theorem eL_X12_ahead_47 {d : Nat} {h : am_H} (g : lay h) {x1 x2 : Int32} {r : am_R} (n : Nat) : ∀ (s : Int32 × Mem) (e : Mem), wh (L_X12_ahead_47 x1) n s = some e → ((fun (M : Mem) => am_At am_X0 (d + 8) mX12_ahead 66 [some (.inr (54, 0)), some (am_I (x1)), some (am_I (x2)), none] [] (am_hM h M) r) e) → (match s with | (x3, M) => am_At am_X0 (d + 8) mX12_ahead 47 [some (.inr (54, 0)), some (am_I (x1)), some (am_I (x2)), some (am_I (x3))] [] (am_hM h M) r) := by
  refine am_wh (At := fun (s : Int32 × Mem) => match s with | (x3, M) => am_At am_X0 (d + 8) mX12_ahead 47 [some (.inr (54, 0)), some (am_I (x1)), some (am_I (x2)), some (am_I (x3))] [] (am_hM h M) r) (Ex := fun (e : Mem) => (fun (M : Mem) => am_At am_X0 (d + 8) mX12_ahead 66 [some (.inr (54, 0)), some (am_I (x1)), some (am_I (x2)), none] [] (am_hM h M) r) e) ?_ n
  rintro ⟨x3, M⟩ y hyp hx
  unfold L_X12_ahead_47 at hyp
  try dsimp only at hyp
  change am_At _ _ _ 47 [_, _, _, _] [] _ _
  refine am_iload_n dX12_ahead_47 rfl ?_
  refine am_iload_n dX12_ahead_48 rfl ?_
  refine am_icmp_ge (17) 66 dX12_ahead_49 rfl ?_ ?_
  · intro hc5
    have hc5 : x1 ≤ x3 := hc5
    replace hyp := it_pos hc5 hyp
    cases hyp
    refine am_At.drop 3 ?_
    exact hx
  · intro hc5n
    have hc5n : ¬ (x1 ≤ x3) := hc5n
    replace hyp := it_neg hc5n hyp
    refine am_aload_n dX12_ahead_52 rfl ?_
    refine am_aload_n dX12_ahead_53 rfl ?_
    refine am_getR 12 30 73 dX12_ahead_54 fg_X12_70 (sh_54 g) (by decide) rfl (rf_54_30 g) ?_
    obtain ⟨M6, hk6, hyp⟩ := bd_some hyp
    try dsimp only at hyp
    refine am_callV [_] dX12_ahead_57 ml_X12_297 vm_X12_hourEnds (sh_54 g) rfl (fun _ => Nat.le_of_ble_eq_true rfl) (by omega) rfl (ef_X12_hourEnds_73 (d := d + 0) (h := h) g hk6) rfl ?_
    change am_At _ _ _ 60 [_, _, _, _] [] _ _
    refine am_iinc dX12_ahead_60 rfl (am_ix _) ?_
    change am_At _ _ _ 63 [_, _, _, _] [] _ _
    refine am_goto (-16) 47 dX12_ahead_63 rfl ?_
    cases hyp
    exact hx
theorem ef_X12_ahead {d : Nat} {h : am_H} (g : lay h) {x1 x2 : Int32} {M : Mem} {v : Int32} {M' : Mem} (hyp : f_X12_ahead x1 x2 M = some (v, M')) : am_Ev (d + 8) mX12_ahead [.inr (54, 0), am_I x1, am_I x2] (am_hM h M) (.inl (some (am_I v), am_hM h M')) := by
  unfold f_X12_ahead at hyp
  refine am_Ev.mk (by decide +kernel) rfl rfl (Nat.le_refl _) (Nat.le_refl _) ?_
  change am_At _ _ _ 0 [_, _, _, _] [] _ _
  refine am_aload_n dX12_ahead_0 rfl ?_
  refine am_iconst 0 (v := 0) dX12_ahead_1 (by decide) ?_
  refine am_putI 12 0 dX12_ahead_2 (Or.inl fp_X12_103) (sh_54 g) (by decide) rfl rfl rfl ?_
  refine am_aload_n dX12_ahead_5 rfl ?_
  refine am_iload_n dX12_ahead_6 rfl ?_
  refine am_iconst 0 (v := 0) dX12_ahead_7 (by decide) ?_
  refine am_sipush 240 (v := 240) dX12_ahead_8 (by decide) ?_
  refine am_callS (c := 0) (k := 0) (n := 0) (w := 0) [_, _, _] dX12_ahead_11 ml_X12_137 sm_X12_in rfl (fun _ => Nat.le_of_ble_eq_true rfl) (by omega) rfl (ef_X12_in (d := d + 7) (h := am_hM h (am_u3 M 54 0 0 (0 : Int32))) (x0 := x1) (x1 := (0 : Int32)) (x2 := (240 : Int32))  rfl) rfl ?_
  change am_At _ _ _ 14 [_, _, _, _] [_, _] _ _
  refine am_if_eq (12) 26 dX12_ahead_14 rfl ?_ ?_
  · intro hc1
    have hc1 : (f_X12_in x1 (0 : Int32) (240 : Int32)) = 0 := hc1
    replace hyp := it_pos hc1 hyp
    refine am_iconst 1 (v := 1) dX12_ahead_26 (by decide) ?_
    refine am_goto (4) 31 dX12_ahead_27 rfl ?_
    refine am_iconst 1 (v := 1) dX12_ahead_31 (by decide) ?_
    refine am_iconst 1 (v := 1) dX12_ahead_32 (by decide) ?_
    obtain ⟨⟨v2, M2⟩, hk2, hyp⟩ := bd_some hyp
    try dsimp only at hyp
    refine am_callV [_, _, _] dX12_ahead_33 ml_X12_179 vm_X12_bad (sh_54 g) rfl (fun _ => Nat.le_of_ble_eq_true rfl) (by omega) rfl (ef_X12_bad (d := d + 7) (h := h) g hk2) rfl ?_
    change am_At _ _ _ 36 [_, _, _, _] [_] _ _
    refine am_if_eq (5) 41 dX12_ahead_36 rfl ?_ ?_
    · intro hc3
      have hc3 : v2 = 0 := hc3
      replace hyp := it_pos hc3 hyp
      refine am_aload_n dX12_ahead_41 rfl ?_
      obtain ⟨M4, hk4, hyp⟩ := bd_some hyp
      try dsimp only at hyp
      refine am_callV [] dX12_ahead_42 ml_X12_333 vm_X12_tries (sh_54 g) rfl (fun _ => Nat.le_of_ble_eq_true rfl) (by omega) rfl (ef_X12_tries (d := d + 6) (h := h) g hk4) rfl ?_
      change am_At _ _ _ 45 [_, _, _, _] [] _ _
      refine am_iconst 0 (v := 0) dX12_ahead_45 (by decide) ?_
      refine am_istore_n dX12_ahead_46 (am_lb rfl) ?_
      change am_At _ _ _ 47 [_, _, _, _] [] _ _
      obtain ⟨M7, hw7, hyp⟩ := bd_some hyp
      try dsimp only at hyp
      refine eL_X12_ahead_47 (d := d) (h := h) g  FU ((0 : Int32), M4) M7 hw7 ?_
      change am_At _ _ _ 66 [_, _, _, _] [] _ _
      refine am_iload_n dX12_ahead_66 rfl ?_
      refine am_if_ne (14) 81 dX12_ahead_67 rfl ?_ ?_
      · intro hc8n
        have hc8n : ¬ (x2 = 0) := hc8n
        replace hyp := it_neg hc8n hyp
        refine am_aload_n dX12_ahead_81 rfl ?_
        refine am_aload_n dX12_ahead_82 rfl ?_
        refine am_getR 12 30 73 dX12_ahead_83 fg_X12_70 (sh_54 g) (by decide) rfl (rf_54_30 g) ?_
        refine am_iload_n dX12_ahead_86 rfl ?_
        refine am_iconst 1 (v := 1) dX12_ahead_87 (by decide) ?_
        refine am_icmp_ne (8) 96 dX12_ahead_88 rfl ?_ ?_
        · intro hc9n
          have hc9n : ¬ (x2 = (1 : Int32)) := hc9n
          replace hyp := it_neg hc9n hyp
          refine am_bipush 32 (v := 32) dX12_ahead_96 (by decide) ?_
          obtain ⟨v10, hk10, hyp⟩ := bd_some hyp
          try dsimp only at hyp
          refine am_callV [_, _] dX12_ahead_98 ml_X12_321 vm_X12_sumOf (sh_54 g) rfl (fun _ => Nat.le_of_ble_eq_true rfl) (by omega) rfl (ef_X12_sumOf_73 (d := d + 7) (h := h) g hk10) rfl ?_
          change am_At _ _ _ 101 [_, _, _, _] [_] _ _
          cases hyp
          exact am_iret dX12_ahead_101 rfl
        · intro hc9
          have hc9 : x2 = (1 : Int32) := hc9
          replace hyp := it_pos hc9 hyp
          refine am_bipush 16 (v := 16) dX12_ahead_91 (by decide) ?_
          refine am_goto (5) 98 dX12_ahead_93 rfl ?_
          obtain ⟨v11, hk11, hyp⟩ := bd_some hyp
          try dsimp only at hyp
          refine am_callV [_, _] dX12_ahead_98 ml_X12_321 vm_X12_sumOf (sh_54 g) rfl (fun _ => Nat.le_of_ble_eq_true rfl) (by omega) rfl (ef_X12_sumOf_73 (d := d + 7) (h := h) g hk11) rfl ?_
          change am_At _ _ _ 101 [_, _, _, _] [_] _ _
          cases hyp
          exact am_iret dX12_ahead_101 rfl
      · intro hc8
        have hc8 : x2 = 0 := hc8
        replace hyp := it_pos hc8 hyp
        refine am_aload_n dX12_ahead_70 rfl ?_
        refine am_aload_n dX12_ahead_71 rfl ?_
        refine am_getR 12 30 73 dX12_ahead_72 fg_X12_70 (sh_54 g) (by decide) rfl (rf_54_30 g) ?_
        obtain ⟨v12, hk12, hyp⟩ := bd_some hyp
        try dsimp only at hyp
        refine am_callV [_] dX12_ahead_75 ml_X12_324 vm_X12_throughIn (sh_54 g) rfl (fun _ => Nat.le_of_ble_eq_true rfl) (by omega) rfl (ef_X12_throughIn_73 (d := d + 7) (h := h) g hk12) rfl ?_
        change am_At _ _ _ 78 [_, _, _, _] [_] _ _
        refine am_goto (23) 101 dX12_ahead_78 rfl ?_
        cases hyp
        exact am_iret dX12_ahead_101 rfl
    · intro hc3n
      have hc3n : ¬ (v2 = 0) := hc3n
      replace hyp := it_neg hc3n hyp
      refine am_iconst 0 (v := 0) dX12_ahead_39 (by decide) ?_
      cases hyp
      exact am_iret dX12_ahead_40 rfl
  · intro hc1n
    have hc1n : ¬ ((f_X12_in x1 (0 : Int32) (240 : Int32)) = 0) := hc1n
    replace hyp := it_neg hc1n hyp
    refine am_iload_n dX12_ahead_17 rfl ?_
    refine am_iconst 0 (v := 0) dX12_ahead_18 (by decide) ?_
    refine am_iconst 2 (v := 2) dX12_ahead_19 (by decide) ?_
    refine am_callS (c := 0) (k := 0) (n := 0) (w := 0) [_, _, _] dX12_ahead_20 ml_X12_137 sm_X12_in rfl (fun _ => Nat.le_of_ble_eq_true rfl) (by omega) rfl (ef_X12_in (d := d + 7) (h := am_hM h (am_u3 M 54 0 0 (0 : Int32))) (x0 := x2) (x1 := (0 : Int32)) (x2 := (2 : Int32))  rfl) rfl ?_
    change am_At _ _ _ 23 [_, _, _, _] [_, _] _ _
    refine am_if_ne (7) 30 dX12_ahead_23 rfl ?_ ?_
    · intro hc13n
      have hc13n : ¬ ((f_X12_in x2 (0 : Int32) (2 : Int32)) = 0) := hc13n
      replace hyp := it_neg hc13n hyp
      refine am_iconst 0 (v := 0) dX12_ahead_30 (by decide) ?_
      refine am_iconst 1 (v := 1) dX12_ahead_31 (by decide) ?_
      refine am_iconst 1 (v := 1) dX12_ahead_32 (by decide) ?_
      obtain ⟨⟨v14, M14⟩, hk14, hyp⟩ := bd_some hyp
      try dsimp only at hyp
      refine am_callV [_, _, _] dX12_ahead_33 ml_X12_179 vm_X12_bad (sh_54 g) rfl (fun _ => Nat.le_of_ble_eq_true rfl) (by omega) rfl (ef_X12_bad (d := d + 7) (h := h) g hk14) rfl ?_
      change am_At _ _ _ 36 [_, _, _, _] [_] _ _
      refine am_if_eq (5) 41 dX12_ahead_36 rfl ?_ ?_
      · intro hc15
        have hc15 : v14 = 0 := hc15
        replace hyp := it_pos hc15 hyp
        refine am_aload_n dX12_ahead_41 rfl ?_
        obtain ⟨M16, hk16, hyp⟩ := bd_some hyp
        try dsimp only at hyp
        refine am_callV [] dX12_ahead_42 ml_X12_333 vm_X12_tries (sh_54 g) rfl (fun _ => Nat.le_of_ble_eq_true rfl) (by omega) rfl (ef_X12_tries (d := d + 6) (h := h) g hk16) rfl ?_
        change am_At _ _ _ 45 [_, _, _, _] [] _ _
        refine am_iconst 0 (v := 0) dX12_ahead_45 (by decide) ?_
        refine am_istore_n dX12_ahead_46 (am_lb rfl) ?_
        change am_At _ _ _ 47 [_, _, _, _] [] _ _
        obtain ⟨M17, hw17, hyp⟩ := bd_some hyp
        try dsimp only at hyp
        refine eL_X12_ahead_47 (d := d) (h := h) g  FU ((0 : Int32), M16) M17 hw17 ?_
        change am_At _ _ _ 66 [_, _, _, _] [] _ _
        refine am_iload_n dX12_ahead_66 rfl ?_
        refine am_if_ne (14) 81 dX12_ahead_67 rfl ?_ ?_
        · intro hc18n
          have hc18n : ¬ (x2 = 0) := hc18n
          replace hyp := it_neg hc18n hyp
          refine am_aload_n dX12_ahead_81 rfl ?_
          refine am_aload_n dX12_ahead_82 rfl ?_
          refine am_getR 12 30 73 dX12_ahead_83 fg_X12_70 (sh_54 g) (by decide) rfl (rf_54_30 g) ?_
          refine am_iload_n dX12_ahead_86 rfl ?_
          refine am_iconst 1 (v := 1) dX12_ahead_87 (by decide) ?_
          refine am_icmp_ne (8) 96 dX12_ahead_88 rfl ?_ ?_
          · intro hc19n
            have hc19n : ¬ (x2 = (1 : Int32)) := hc19n
            replace hyp := it_neg hc19n hyp
            refine am_bipush 32 (v := 32) dX12_ahead_96 (by decide) ?_
            obtain ⟨v20, hk20, hyp⟩ := bd_some hyp
            try dsimp only at hyp
            refine am_callV [_, _] dX12_ahead_98 ml_X12_321 vm_X12_sumOf (sh_54 g) rfl (fun _ => Nat.le_of_ble_eq_true rfl) (by omega) rfl (ef_X12_sumOf_73 (d := d + 7) (h := h) g hk20) rfl ?_
            change am_At _ _ _ 101 [_, _, _, _] [_] _ _
            cases hyp
            exact am_iret dX12_ahead_101 rfl
          · intro hc19
            have hc19 : x2 = (1 : Int32) := hc19
            replace hyp := it_pos hc19 hyp
            refine am_bipush 16 (v := 16) dX12_ahead_91 (by decide) ?_
            refine am_goto (5) 98 dX12_ahead_93 rfl ?_
            obtain ⟨v21, hk21, hyp⟩ := bd_some hyp
            try dsimp only at hyp
            refine am_callV [_, _] dX12_ahead_98 ml_X12_321 vm_X12_sumOf (sh_54 g) rfl (fun _ => Nat.le_of_ble_eq_true rfl) (by omega) rfl (ef_X12_sumOf_73 (d := d + 7) (h := h) g hk21) rfl ?_
            change am_At _ _ _ 101 [_, _, _, _] [_] _ _
            cases hyp
            exact am_iret dX12_ahead_101 rfl
        · intro hc18
          have hc18 : x2 = 0 := hc18
          replace hyp := it_pos hc18 hyp
          refine am_aload_n dX12_ahead_70 rfl ?_
          refine am_aload_n dX12_ahead_71 rfl ?_
          refine am_getR 12 30 73 dX12_ahead_72 fg_X12_70 (sh_54 g) (by decide) rfl (rf_54_30 g) ?_
          obtain ⟨v22, hk22, hyp⟩ := bd_some hyp
          try dsimp only at hyp
          refine am_callV [_] dX12_ahead_75 ml_X12_324 vm_X12_throughIn (sh_54 g) rfl (fun _ => Nat.le_of_ble_eq_true rfl) (by omega) rfl (ef_X12_throughIn_73 (d := d + 7) (h := h) g hk22) rfl ?_
          change am_At _ _ _ 78 [_, _, _, _] [_] _ _
          refine am_goto (23) 101 dX12_ahead_78 rfl ?_
          cases hyp
          exact am_iret dX12_ahead_101 rfl
      · intro hc15n
        have hc15n : ¬ (v14 = 0) := hc15n
        replace hyp := it_neg hc15n hyp
        refine am_iconst 0 (v := 0) dX12_ahead_39 (by decide) ?_
        cases hyp
        exact am_iret dX12_ahead_40 rfl
    · intro hc13
      have hc13 : (f_X12_in x2 (0 : Int32) (2 : Int32)) = 0 := hc13
      replace hyp := it_pos hc13 hyp
      refine am_iconst 1 (v := 1) dX12_ahead_26 (by decide) ?_
      refine am_goto (4) 31 dX12_ahead_27 rfl ?_
      refine am_iconst 1 (v := 1) dX12_ahead_31 (by decide) ?_
      refine am_iconst 1 (v := 1) dX12_ahead_32 (by decide) ?_
      obtain ⟨⟨v23, M23⟩, hk23, hyp⟩ := bd_some hyp
      try dsimp only at hyp
      refine am_callV [_, _, _] dX12_ahead_33 ml_X12_179 vm_X12_bad (sh_54 g) rfl (fun _ => Nat.le_of_ble_eq_true rfl) (by omega) rfl (ef_X12_bad (d := d + 7) (h := h) g hk23) rfl ?_
      change am_At _ _ _ 36 [_, _, _, _] [_] _ _
      refine am_if_eq (5) 41 dX12_ahead_36 rfl ?_ ?_
      · intro hc24
        have hc24 : v23 = 0 := hc24
        replace hyp := it_pos hc24 hyp
        refine am_aload_n dX12_ahead_41 rfl ?_
        obtain ⟨M25, hk25, hyp⟩ := bd_some hyp
        try dsimp only at hyp
        refine am_callV [] dX12_ahead_42 ml_X12_333 vm_X12_tries (sh_54 g) rfl (fun _ => Nat.le_of_ble_eq_true rfl) (by omega) rfl (ef_X12_tries (d := d + 6) (h := h) g hk25) rfl ?_
        change am_At _ _ _ 45 [_, _, _, _] [] _ _
        refine am_iconst 0 (v := 0) dX12_ahead_45 (by decide) ?_
        refine am_istore_n dX12_ahead_46 (am_lb rfl) ?_
        change am_At _ _ _ 47 [_, _, _, _] [] _ _
        obtain ⟨M26, hw26, hyp⟩ := bd_some hyp
        try dsimp only at hyp
        refine eL_X12_ahead_47 (d := d) (h := h) g  FU ((0 : Int32), M25) M26 hw26 ?_
        change am_At _ _ _ 66 [_, _, _, _] [] _ _
        refine am_iload_n dX12_ahead_66 rfl ?_
        refine am_if_ne (14) 81 dX12_ahead_67 rfl ?_ ?_
        · intro hc27n
          have hc27n : ¬ (x2 = 0) := hc27n
          replace hyp := it_neg hc27n hyp
          refine am_aload_n dX12_ahead_81 rfl ?_
          refine am_aload_n dX12_ahead_82 rfl ?_
          refine am_getR 12 30 73 dX12_ahead_83 fg_X12_70 (sh_54 g) (by decide) rfl (rf_54_30 g) ?_
          refine am_iload_n dX12_ahead_86 rfl ?_
          refine am_iconst 1 (v := 1) dX12_ahead_87 (by decide) ?_
          refine am_icmp_ne (8) 96 dX12_ahead_88 rfl ?_ ?_
          · intro hc28n
            have hc28n : ¬ (x2 = (1 : Int32)) := hc28n
            replace hyp := it_neg hc28n hyp
            refine am_bipush 32 (v := 32) dX12_ahead_96 (by decide) ?_
            obtain ⟨v29, hk29, hyp⟩ := bd_some hyp
            try dsimp only at hyp
            refine am_callV [_, _] dX12_ahead_98 ml_X12_321 vm_X12_sumOf (sh_54 g) rfl (fun _ => Nat.le_of_ble_eq_true rfl) (by omega) rfl (ef_X12_sumOf_73 (d := d + 7) (h := h) g hk29) rfl ?_
            change am_At _ _ _ 101 [_, _, _, _] [_] _ _
            cases hyp
            exact am_iret dX12_ahead_101 rfl
          · intro hc28
            have hc28 : x2 = (1 : Int32) := hc28
            replace hyp := it_pos hc28 hyp
            refine am_bipush 16 (v := 16) dX12_ahead_91 (by decide) ?_
            refine am_goto (5) 98 dX12_ahead_93 rfl ?_
            obtain ⟨v30, hk30, hyp⟩ := bd_some hyp
            try dsimp only at hyp
            refine am_callV [_, _] dX12_ahead_98 ml_X12_321 vm_X12_sumOf (sh_54 g) rfl (fun _ => Nat.le_of_ble_eq_true rfl) (by omega) rfl (ef_X12_sumOf_73 (d := d + 7) (h := h) g hk30) rfl ?_
            change am_At _ _ _ 101 [_, _, _, _] [_] _ _
            cases hyp
            exact am_iret dX12_ahead_101 rfl
        · intro hc27
          have hc27 : x2 = 0 := hc27
          replace hyp := it_pos hc27 hyp
          refine am_aload_n dX12_ahead_70 rfl ?_
          refine am_aload_n dX12_ahead_71 rfl ?_
          refine am_getR 12 30 73 dX12_ahead_72 fg_X12_70 (sh_54 g) (by decide) rfl (rf_54_30 g) ?_
          obtain ⟨v31, hk31, hyp⟩ := bd_some hyp
          try dsimp only at hyp
          refine am_callV [_] dX12_ahead_75 ml_X12_324 vm_X12_throughIn (sh_54 g) rfl (fun _ => Nat.le_of_ble_eq_true rfl) (by omega) rfl (ef_X12_throughIn_73 (d := d + 7) (h := h) g hk31) rfl ?_
          change am_At _ _ _ 78 [_, _, _, _] [_] _ _
          refine am_goto (23) 101 dX12_ahead_78 rfl ?_
          cases hyp
          exact am_iret dX12_ahead_101 rfl
      · intro hc24n
        have hc24n : ¬ (v23 = 0) := hc24n
        replace hyp := it_neg hc24n hyp
        refine am_iconst 0 (v := 0) dX12_ahead_39 (by decide) ?_
        cases hyp
        exact am_iret dX12_ahead_40 rfl
theorem ef_X12_board {d : Nat} {h : am_H} (g : lay h) {x1 x2 : Int32} {M : Mem} {v : Int32} {M' : Mem} (hyp : f_X12_board x1 x2 M = some (v, M')) : am_Ev (d + 6) mX12_board [.inr (54, 0), am_I x1, am_I x2] (am_hM h M) (.inl (some (am_I v), am_hM h M')) := by
  unfold f_X12_board at hyp
  refine am_Ev.mk (by decide +kernel) rfl rfl (Nat.le_refl _) (Nat.le_refl _) ?_
  change am_At _ _ _ 0 [_, _, _] [] _ _
  refine am_aload_n dX12_board_0 rfl ?_
  refine am_iconst 0 (v := 0) dX12_board_1 (by decide) ?_
  refine am_putI 12 0 dX12_board_2 (Or.inl fp_X12_103) (sh_54 g) (by decide) rfl rfl rfl ?_
  refine am_aload_n dX12_board_5 rfl ?_
  refine am_aload_n dX12_board_6 rfl ?_
  refine am_iload_n dX12_board_7 rfl ?_
  refine am_callV [_] dX12_board_8 ml_X12_327 vm_X12_isBoard (sh_54 g) rfl (fun _ => Nat.le_of_ble_eq_true rfl) (by omega) rfl (ef_X12_isBoard (d := d + 4) (h := h) g (x1 := x1) (M := (am_u3 M 54 0 0 (0 : Int32))) rfl) rfl ?_
  change am_At _ _ _ 11 [_, _, _] [_, _] _ _
  refine am_if_ne (7) 18 dX12_board_11 rfl ?_ ?_
  · intro hc1n
    have hc1n : ¬ ((f_X12_in x1 (0 : Int32) (((am_u3 M 54 0 0 (0 : Int32)) 58 0 0) - (1 : Int32))) = 0) := hc1n
    replace hyp := it_neg hc1n hyp
    refine am_iconst 0 (v := 0) dX12_board_18 (by decide) ?_
    refine am_iconst 1 (v := 1) dX12_board_19 (by decide) ?_
    refine am_iconst 0 (v := 0) dX12_board_20 (by decide) ?_
    obtain ⟨⟨v2, M2⟩, hk2, hyp⟩ := bd_some hyp
    try dsimp only at hyp
    refine am_callV [_, _, _] dX12_board_21 ml_X12_179 vm_X12_bad (sh_54 g) rfl (fun _ => Nat.le_of_ble_eq_true rfl) (by omega) rfl (ef_X12_bad (d := d + 5) (h := h) g hk2) rfl ?_
    change am_At _ _ _ 24 [_, _, _] [_] _ _
    refine am_if_ne (27) 51 dX12_board_24 rfl ?_ ?_
    · intro hc3n
      have hc3n : ¬ (v2 = 0) := hc3n
      replace hyp := it_neg hc3n hyp
      refine am_iconst 0 (v := 0) dX12_board_51 (by decide) ?_
      cases hyp
      exact am_iret dX12_board_52 rfl
    · intro hc3
      have hc3 : v2 = 0 := hc3
      replace hyp := it_pos hc3 hyp
      refine am_aload_n dX12_board_27 rfl ?_
      refine am_iload_n dX12_board_28 rfl ?_
      refine am_iconst 0 (v := 0) dX12_board_29 (by decide) ?_
      refine am_bipush 7 (v := 7) dX12_board_30 (by decide) ?_
      refine am_callS (c := 0) (k := 0) (n := 0) (w := 0) [_, _, _] dX12_board_32 ml_X12_137 sm_X12_in rfl (fun _ => Nat.le_of_ble_eq_true rfl) (by omega) rfl (ef_X12_in (d := d + 5) (h := am_hM h M2) (x0 := x2) (x1 := (0 : Int32)) (x2 := (7 : Int32))  rfl) rfl ?_
      change am_At _ _ _ 35 [_, _, _] [_, _] _ _
      refine am_if_ne (7) 42 dX12_board_35 rfl ?_ ?_
      · intro hc4n
        have hc4n : ¬ ((f_X12_in x2 (0 : Int32) (7 : Int32)) = 0) := hc4n
        replace hyp := it_neg hc4n hyp
        refine am_iconst 0 (v := 0) dX12_board_42 (by decide) ?_
        refine am_iconst 2 (v := 2) dX12_board_43 (by decide) ?_
        refine am_iconst 1 (v := 1) dX12_board_44 (by decide) ?_
        obtain ⟨⟨v5, M5⟩, hk5, hyp⟩ := bd_some hyp
        try dsimp only at hyp
        refine am_callV [_, _, _] dX12_board_45 ml_X12_179 vm_X12_bad (sh_54 g) rfl (fun _ => Nat.le_of_ble_eq_true rfl) (by omega) rfl (ef_X12_bad (d := d + 5) (h := h) g hk5) rfl ?_
        change am_At _ _ _ 48 [_, _, _] [_] _ _
        refine am_if_eq (5) 53 dX12_board_48 rfl ?_ ?_
        · intro hc6
          have hc6 : v5 = 0 := hc6
          replace hyp := it_pos hc6 hyp
          refine am_iload_n dX12_board_53 rfl ?_
          by_cases hc7 : x2 = (0 : Int32)
          · refine am_tabIn (42) 96 dX12_board_54 (by rw [hc7]; decide) (by rw [hc7]; decide) (by rw [hc7]; rfl) rfl ?_
            replace hyp := it_pos hc7 hyp
            refine am_aload_n dX12_board_96 rfl ?_
            refine am_getR 12 14 60 dX12_board_97 fg_X12_31 (sh_54 g) (by decide) rfl (rf_54_14 g) ?_
            refine am_iload_n dX12_board_100 rfl ?_
            obtain ⟨hg8, hyp⟩ := gd_some hyp
            refine am_aald dX12_board_101 (sh_60 g) (am_lit hg8) ?_
            refine am_iload_n dX12_board_102 rfl ?_
            obtain ⟨hg9, hyp⟩ := gd_some hyp
            refine am_iald dX12_board_103 (am_ia.row (sh_60 g) (by omega) (am_vlt (am_lit hg8))) (am_lit hg9) ?_
            cases hyp
            exact am_iret dX12_board_104 rfl
          · have hc7n := hc7
            replace hyp := it_neg hc7n hyp
            by_cases hc10 : x2 = (1 : Int32)
            · refine am_tabIn (42) 96 dX12_board_54 (by rw [hc10]; decide) (by rw [hc10]; decide) (by rw [hc10]; rfl) rfl ?_
              replace hyp := it_pos hc10 hyp
              refine am_aload_n dX12_board_96 rfl ?_
              refine am_getR 12 14 60 dX12_board_97 fg_X12_31 (sh_54 g) (by decide) rfl (rf_54_14 g) ?_
              refine am_iload_n dX12_board_100 rfl ?_
              obtain ⟨hg11, hyp⟩ := gd_some hyp
              refine am_aald dX12_board_101 (sh_60 g) (am_lit hg11) ?_
              refine am_iload_n dX12_board_102 rfl ?_
              obtain ⟨hg12, hyp⟩ := gd_some hyp
              refine am_iald dX12_board_103 (am_ia.row (sh_60 g) (by omega) (am_vlt (am_lit hg11))) (am_lit hg12) ?_
              cases hyp
              exact am_iret dX12_board_104 rfl
            · have hc10n := hc10
              replace hyp := it_neg hc10n hyp
              by_cases hc13 : x2 = (2 : Int32)
              · refine am_tabIn (42) 96 dX12_board_54 (by rw [hc13]; decide) (by rw [hc13]; decide) (by rw [hc13]; rfl) rfl ?_
                replace hyp := it_pos hc13 hyp
                refine am_aload_n dX12_board_96 rfl ?_
                refine am_getR 12 14 60 dX12_board_97 fg_X12_31 (sh_54 g) (by decide) rfl (rf_54_14 g) ?_
                refine am_iload_n dX12_board_100 rfl ?_
                obtain ⟨hg14, hyp⟩ := gd_some hyp
                refine am_aald dX12_board_101 (sh_60 g) (am_lit hg14) ?_
                refine am_iload_n dX12_board_102 rfl ?_
                obtain ⟨hg15, hyp⟩ := gd_some hyp
                refine am_iald dX12_board_103 (am_ia.row (sh_60 g) (by omega) (am_vlt (am_lit hg14))) (am_lit hg15) ?_
                cases hyp
                exact am_iret dX12_board_104 rfl
              · have hc13n := hc13
                replace hyp := it_neg hc13n hyp
                by_cases hc16 : x2 = (3 : Int32)
                · refine am_tabIn (42) 96 dX12_board_54 (by rw [hc16]; decide) (by rw [hc16]; decide) (by rw [hc16]; rfl) rfl ?_
                  replace hyp := it_pos hc16 hyp
                  refine am_aload_n dX12_board_96 rfl ?_
                  refine am_getR 12 14 60 dX12_board_97 fg_X12_31 (sh_54 g) (by decide) rfl (rf_54_14 g) ?_
                  refine am_iload_n dX12_board_100 rfl ?_
                  obtain ⟨hg17, hyp⟩ := gd_some hyp
                  refine am_aald dX12_board_101 (sh_60 g) (am_lit hg17) ?_
                  refine am_iload_n dX12_board_102 rfl ?_
                  obtain ⟨hg18, hyp⟩ := gd_some hyp
                  refine am_iald dX12_board_103 (am_ia.row (sh_60 g) (by omega) (am_vlt (am_lit hg17))) (am_lit hg18) ?_
                  cases hyp
                  exact am_iret dX12_board_104 rfl
                · have hc16n := hc16
                  replace hyp := it_neg hc16n hyp
                  by_cases hc19 : x2 = (4 : Int32)
                  · refine am_tabIn (51) 105 dX12_board_54 (by rw [hc19]; decide) (by rw [hc19]; decide) (by rw [hc19]; rfl) rfl ?_
                    replace hyp := it_pos hc19 hyp
                    refine am_aload_n dX12_board_105 rfl ?_
                    refine am_getR 12 29 72 dX12_board_106 fg_X12_67 (sh_54 g) (by decide) rfl (rf_54_29 g) ?_
                    refine am_iconst 0 (v := 0) dX12_board_109 (by decide) ?_
                    refine am_iload_n dX12_board_110 rfl ?_
                    refine am_iadd dX12_board_111 ?_
                    obtain ⟨hg20, hyp⟩ := gd_some hyp
                    refine am_iald dX12_board_112 (am_ia.one (sh_72 g)) (am_lit hg20) ?_
                    cases hyp
                    exact am_iret dX12_board_113 rfl
                  · have hc19n := hc19
                    replace hyp := it_neg hc19n hyp
                    by_cases hc21 : x2 = (5 : Int32)
                    · refine am_tabIn (60) 114 dX12_board_54 (by rw [hc21]; decide) (by rw [hc21]; decide) (by rw [hc21]; rfl) rfl ?_
                      replace hyp := it_pos hc21 hyp
                      refine am_aload_n dX12_board_114 rfl ?_
                      refine am_aload_n dX12_board_115 rfl ?_
                      refine am_getR 12 29 72 dX12_board_116 fg_X12_67 (sh_54 g) (by decide) rfl (rf_54_29 g) ?_
                      refine am_iload_n dX12_board_119 rfl ?_
                      obtain ⟨⟨v22, M22⟩, hk22, hyp⟩ := bd_some hyp
                      try dsimp only at hyp
                      refine am_callV [_, _] dX12_board_120 ml_X12_273 vm_X12_opensIn (sh_54 g) rfl (fun _ => Nat.le_of_ble_eq_true rfl) (by omega) rfl (ef_X12_opensIn_72 (d := d + 0) (h := h) g hk22) rfl ?_
                      change am_At _ _ _ 123 [_, _, _] [_] _ _
                      refine am_if_eq (7) 130 dX12_board_123 rfl ?_ ?_
                      · intro hc23
                        have hc23 : v22 = 0 := hc23
                        replace hyp := it_pos hc23 hyp
                        refine am_iconst 0 (v := 0) dX12_board_130 (by decide) ?_
                        cases hyp
                        exact am_iret dX12_board_131 rfl
                      · intro hc23n
                        have hc23n : ¬ (v22 = 0) := hc23n
                        replace hyp := it_neg hc23n hyp
                        refine am_iconst 1 (v := 1) dX12_board_126 (by decide) ?_
                        refine am_goto (4) 131 dX12_board_127 rfl ?_
                        cases hyp
                        exact am_iret dX12_board_131 rfl
                    · have hc21n := hc21
                      replace hyp := it_neg hc21n hyp
                      by_cases hc24 : x2 = (6 : Int32)
                      · refine am_tabIn (78) 132 dX12_board_54 (by rw [hc24]; decide) (by rw [hc24]; decide) (by rw [hc24]; rfl) rfl ?_
                        replace hyp := it_pos hc24 hyp
                        refine am_aload_n dX12_board_132 rfl ?_
                        refine am_getR 12 29 72 dX12_board_133 fg_X12_67 (sh_54 g) (by decide) rfl (rf_54_29 g) ?_
                        refine am_bipush 16 (v := 16) dX12_board_136 (by decide) ?_
                        refine am_iload_n dX12_board_138 rfl ?_
                        refine am_iadd dX12_board_139 ?_
                        obtain ⟨hg25, hyp⟩ := gd_some hyp
                        refine am_iald dX12_board_140 (am_ia.one (sh_72 g)) (am_lit hg25) ?_
                        cases hyp
                        exact am_iret dX12_board_141 rfl
                      · have hc24n := hc24
                        replace hyp := it_neg hc24n hyp
                        refine am_tabOut 142 dX12_board_54 (by have q0 := lv_neT (a := 0) hc7n (by decide); have q1 := lv_neT (a := 1) hc10n (by decide); have q2 := lv_neT (a := 2) hc13n (by decide); have q3 := lv_neT (a := 3) hc16n (by decide); have q4 := lv_neT (a := 4) hc19n (by decide); have q5 := lv_neT (a := 5) hc21n (by decide); have q6 := lv_neT (a := 6) hc24n (by decide); omega) rfl ?_
                        refine am_aload_n dX12_board_142 rfl ?_
                        refine am_getR 12 29 72 dX12_board_143 fg_X12_67 (sh_54 g) (by decide) rfl (rf_54_29 g) ?_
                        refine am_bipush 32 (v := 32) dX12_board_146 (by decide) ?_
                        refine am_iload_n dX12_board_148 rfl ?_
                        refine am_iadd dX12_board_149 ?_
                        obtain ⟨hg26, hyp⟩ := gd_some hyp
                        refine am_iald dX12_board_150 (am_ia.one (sh_72 g)) (am_lit hg26) ?_
                        cases hyp
                        exact am_iret dX12_board_151 rfl
        · intro hc6n
          have hc6n : ¬ (v5 = 0) := hc6n
          replace hyp := it_neg hc6n hyp
          refine am_iconst 0 (v := 0) dX12_board_51 (by decide) ?_
          cases hyp
          exact am_iret dX12_board_52 rfl
      · intro hc4
        have hc4 : (f_X12_in x2 (0 : Int32) (7 : Int32)) = 0 := hc4
        replace hyp := it_pos hc4 hyp
        refine am_iconst 1 (v := 1) dX12_board_38 (by decide) ?_
        refine am_goto (4) 43 dX12_board_39 rfl ?_
        refine am_iconst 2 (v := 2) dX12_board_43 (by decide) ?_
        refine am_iconst 1 (v := 1) dX12_board_44 (by decide) ?_
        obtain ⟨⟨v27, M27⟩, hk27, hyp⟩ := bd_some hyp
        try dsimp only at hyp
        refine am_callV [_, _, _] dX12_board_45 ml_X12_179 vm_X12_bad (sh_54 g) rfl (fun _ => Nat.le_of_ble_eq_true rfl) (by omega) rfl (ef_X12_bad (d := d + 5) (h := h) g hk27) rfl ?_
        change am_At _ _ _ 48 [_, _, _] [_] _ _
        refine am_if_eq (5) 53 dX12_board_48 rfl ?_ ?_
        · intro hc28
          have hc28 : v27 = 0 := hc28
          replace hyp := it_pos hc28 hyp
          refine am_iload_n dX12_board_53 rfl ?_
          by_cases hc29 : x2 = (0 : Int32)
          · refine am_tabIn (42) 96 dX12_board_54 (by rw [hc29]; decide) (by rw [hc29]; decide) (by rw [hc29]; rfl) rfl ?_
            replace hyp := it_pos hc29 hyp
            refine am_aload_n dX12_board_96 rfl ?_
            refine am_getR 12 14 60 dX12_board_97 fg_X12_31 (sh_54 g) (by decide) rfl (rf_54_14 g) ?_
            refine am_iload_n dX12_board_100 rfl ?_
            obtain ⟨hg30, hyp⟩ := gd_some hyp
            refine am_aald dX12_board_101 (sh_60 g) (am_lit hg30) ?_
            refine am_iload_n dX12_board_102 rfl ?_
            obtain ⟨hg31, hyp⟩ := gd_some hyp
            refine am_iald dX12_board_103 (am_ia.row (sh_60 g) (by omega) (am_vlt (am_lit hg30))) (am_lit hg31) ?_
            cases hyp
            exact am_iret dX12_board_104 rfl
          · have hc29n := hc29
            replace hyp := it_neg hc29n hyp
            by_cases hc32 : x2 = (1 : Int32)
            · refine am_tabIn (42) 96 dX12_board_54 (by rw [hc32]; decide) (by rw [hc32]; decide) (by rw [hc32]; rfl) rfl ?_
              replace hyp := it_pos hc32 hyp
              refine am_aload_n dX12_board_96 rfl ?_
              refine am_getR 12 14 60 dX12_board_97 fg_X12_31 (sh_54 g) (by decide) rfl (rf_54_14 g) ?_
              refine am_iload_n dX12_board_100 rfl ?_
              obtain ⟨hg33, hyp⟩ := gd_some hyp
              refine am_aald dX12_board_101 (sh_60 g) (am_lit hg33) ?_
              refine am_iload_n dX12_board_102 rfl ?_
              obtain ⟨hg34, hyp⟩ := gd_some hyp
              refine am_iald dX12_board_103 (am_ia.row (sh_60 g) (by omega) (am_vlt (am_lit hg33))) (am_lit hg34) ?_
              cases hyp
              exact am_iret dX12_board_104 rfl
            · have hc32n := hc32
              replace hyp := it_neg hc32n hyp
              by_cases hc35 : x2 = (2 : Int32)
              · refine am_tabIn (42) 96 dX12_board_54 (by rw [hc35]; decide) (by rw [hc35]; decide) (by rw [hc35]; rfl) rfl ?_
                replace hyp := it_pos hc35 hyp
                refine am_aload_n dX12_board_96 rfl ?_
                refine am_getR 12 14 60 dX12_board_97 fg_X12_31 (sh_54 g) (by decide) rfl (rf_54_14 g) ?_
                refine am_iload_n dX12_board_100 rfl ?_
                obtain ⟨hg36, hyp⟩ := gd_some hyp
                refine am_aald dX12_board_101 (sh_60 g) (am_lit hg36) ?_
                refine am_iload_n dX12_board_102 rfl ?_
                obtain ⟨hg37, hyp⟩ := gd_some hyp
                refine am_iald dX12_board_103 (am_ia.row (sh_60 g) (by omega) (am_vlt (am_lit hg36))) (am_lit hg37) ?_
                cases hyp
                exact am_iret dX12_board_104 rfl
              · have hc35n := hc35
                replace hyp := it_neg hc35n hyp
                by_cases hc38 : x2 = (3 : Int32)
                · refine am_tabIn (42) 96 dX12_board_54 (by rw [hc38]; decide) (by rw [hc38]; decide) (by rw [hc38]; rfl) rfl ?_
                  replace hyp := it_pos hc38 hyp
                  refine am_aload_n dX12_board_96 rfl ?_
                  refine am_getR 12 14 60 dX12_board_97 fg_X12_31 (sh_54 g) (by decide) rfl (rf_54_14 g) ?_
                  refine am_iload_n dX12_board_100 rfl ?_
                  obtain ⟨hg39, hyp⟩ := gd_some hyp
                  refine am_aald dX12_board_101 (sh_60 g) (am_lit hg39) ?_
                  refine am_iload_n dX12_board_102 rfl ?_
                  obtain ⟨hg40, hyp⟩ := gd_some hyp
                  refine am_iald dX12_board_103 (am_ia.row (sh_60 g) (by omega) (am_vlt (am_lit hg39))) (am_lit hg40) ?_
                  cases hyp
                  exact am_iret dX12_board_104 rfl
                · have hc38n := hc38
                  replace hyp := it_neg hc38n hyp
                  by_cases hc41 : x2 = (4 : Int32)
                  · refine am_tabIn (51) 105 dX12_board_54 (by rw [hc41]; decide) (by rw [hc41]; decide) (by rw [hc41]; rfl) rfl ?_
                    replace hyp := it_pos hc41 hyp
                    refine am_aload_n dX12_board_105 rfl ?_
                    refine am_getR 12 29 72 dX12_board_106 fg_X12_67 (sh_54 g) (by decide) rfl (rf_54_29 g) ?_
                    refine am_iconst 0 (v := 0) dX12_board_109 (by decide) ?_
                    refine am_iload_n dX12_board_110 rfl ?_
                    refine am_iadd dX12_board_111 ?_
                    obtain ⟨hg42, hyp⟩ := gd_some hyp
                    refine am_iald dX12_board_112 (am_ia.one (sh_72 g)) (am_lit hg42) ?_
                    cases hyp
                    exact am_iret dX12_board_113 rfl
                  · have hc41n := hc41
                    replace hyp := it_neg hc41n hyp
                    by_cases hc43 : x2 = (5 : Int32)
                    · refine am_tabIn (60) 114 dX12_board_54 (by rw [hc43]; decide) (by rw [hc43]; decide) (by rw [hc43]; rfl) rfl ?_
                      replace hyp := it_pos hc43 hyp
                      refine am_aload_n dX12_board_114 rfl ?_
                      refine am_aload_n dX12_board_115 rfl ?_
                      refine am_getR 12 29 72 dX12_board_116 fg_X12_67 (sh_54 g) (by decide) rfl (rf_54_29 g) ?_
                      refine am_iload_n dX12_board_119 rfl ?_
                      obtain ⟨⟨v44, M44⟩, hk44, hyp⟩ := bd_some hyp
                      try dsimp only at hyp
                      refine am_callV [_, _] dX12_board_120 ml_X12_273 vm_X12_opensIn (sh_54 g) rfl (fun _ => Nat.le_of_ble_eq_true rfl) (by omega) rfl (ef_X12_opensIn_72 (d := d + 0) (h := h) g hk44) rfl ?_
                      change am_At _ _ _ 123 [_, _, _] [_] _ _
                      refine am_if_eq (7) 130 dX12_board_123 rfl ?_ ?_
                      · intro hc45
                        have hc45 : v44 = 0 := hc45
                        replace hyp := it_pos hc45 hyp
                        refine am_iconst 0 (v := 0) dX12_board_130 (by decide) ?_
                        cases hyp
                        exact am_iret dX12_board_131 rfl
                      · intro hc45n
                        have hc45n : ¬ (v44 = 0) := hc45n
                        replace hyp := it_neg hc45n hyp
                        refine am_iconst 1 (v := 1) dX12_board_126 (by decide) ?_
                        refine am_goto (4) 131 dX12_board_127 rfl ?_
                        cases hyp
                        exact am_iret dX12_board_131 rfl
                    · have hc43n := hc43
                      replace hyp := it_neg hc43n hyp
                      by_cases hc46 : x2 = (6 : Int32)
                      · refine am_tabIn (78) 132 dX12_board_54 (by rw [hc46]; decide) (by rw [hc46]; decide) (by rw [hc46]; rfl) rfl ?_
                        replace hyp := it_pos hc46 hyp
                        refine am_aload_n dX12_board_132 rfl ?_
                        refine am_getR 12 29 72 dX12_board_133 fg_X12_67 (sh_54 g) (by decide) rfl (rf_54_29 g) ?_
                        refine am_bipush 16 (v := 16) dX12_board_136 (by decide) ?_
                        refine am_iload_n dX12_board_138 rfl ?_
                        refine am_iadd dX12_board_139 ?_
                        obtain ⟨hg47, hyp⟩ := gd_some hyp
                        refine am_iald dX12_board_140 (am_ia.one (sh_72 g)) (am_lit hg47) ?_
                        cases hyp
                        exact am_iret dX12_board_141 rfl
                      · have hc46n := hc46
                        replace hyp := it_neg hc46n hyp
                        refine am_tabOut 142 dX12_board_54 (by have q0 := lv_neT (a := 0) hc29n (by decide); have q1 := lv_neT (a := 1) hc32n (by decide); have q2 := lv_neT (a := 2) hc35n (by decide); have q3 := lv_neT (a := 3) hc38n (by decide); have q4 := lv_neT (a := 4) hc41n (by decide); have q5 := lv_neT (a := 5) hc43n (by decide); have q6 := lv_neT (a := 6) hc46n (by decide); omega) rfl ?_
                        refine am_aload_n dX12_board_142 rfl ?_
                        refine am_getR 12 29 72 dX12_board_143 fg_X12_67 (sh_54 g) (by decide) rfl (rf_54_29 g) ?_
                        refine am_bipush 32 (v := 32) dX12_board_146 (by decide) ?_
                        refine am_iload_n dX12_board_148 rfl ?_
                        refine am_iadd dX12_board_149 ?_
                        obtain ⟨hg48, hyp⟩ := gd_some hyp
                        refine am_iald dX12_board_150 (am_ia.one (sh_72 g)) (am_lit hg48) ?_
                        cases hyp
                        exact am_iret dX12_board_151 rfl
        · intro hc28n
          have hc28n : ¬ (v27 = 0) := hc28n
          replace hyp := it_neg hc28n hyp
          refine am_iconst 0 (v := 0) dX12_board_51 (by decide) ?_
          cases hyp
          exact am_iret dX12_board_52 rfl
  · intro hc1
    have hc1 : (f_X12_in x1 (0 : Int32) (((am_u3 M 54 0 0 (0 : Int32)) 58 0 0) - (1 : Int32))) = 0 := hc1
    replace hyp := it_pos hc1 hyp
    refine am_iconst 1 (v := 1) dX12_board_14 (by decide) ?_
    refine am_goto (4) 19 dX12_board_15 rfl ?_
    refine am_iconst 1 (v := 1) dX12_board_19 (by decide) ?_
    refine am_iconst 0 (v := 0) dX12_board_20 (by decide) ?_
    obtain ⟨⟨v49, M49⟩, hk49, hyp⟩ := bd_some hyp
    try dsimp only at hyp
    refine am_callV [_, _, _] dX12_board_21 ml_X12_179 vm_X12_bad (sh_54 g) rfl (fun _ => Nat.le_of_ble_eq_true rfl) (by omega) rfl (ef_X12_bad (d := d + 5) (h := h) g hk49) rfl ?_
    change am_At _ _ _ 24 [_, _, _] [_] _ _
    refine am_if_ne (27) 51 dX12_board_24 rfl ?_ ?_
    · intro hc50n
      have hc50n : ¬ (v49 = 0) := hc50n
      replace hyp := it_neg hc50n hyp
      refine am_iconst 0 (v := 0) dX12_board_51 (by decide) ?_
      cases hyp
      exact am_iret dX12_board_52 rfl
    · intro hc50
      have hc50 : v49 = 0 := hc50
      replace hyp := it_pos hc50 hyp
      refine am_aload_n dX12_board_27 rfl ?_
      refine am_iload_n dX12_board_28 rfl ?_
      refine am_iconst 0 (v := 0) dX12_board_29 (by decide) ?_
      refine am_bipush 7 (v := 7) dX12_board_30 (by decide) ?_
      refine am_callS (c := 0) (k := 0) (n := 0) (w := 0) [_, _, _] dX12_board_32 ml_X12_137 sm_X12_in rfl (fun _ => Nat.le_of_ble_eq_true rfl) (by omega) rfl (ef_X12_in (d := d + 5) (h := am_hM h M49) (x0 := x2) (x1 := (0 : Int32)) (x2 := (7 : Int32))  rfl) rfl ?_
      change am_At _ _ _ 35 [_, _, _] [_, _] _ _
      refine am_if_ne (7) 42 dX12_board_35 rfl ?_ ?_
      · intro hc51n
        have hc51n : ¬ ((f_X12_in x2 (0 : Int32) (7 : Int32)) = 0) := hc51n
        replace hyp := it_neg hc51n hyp
        refine am_iconst 0 (v := 0) dX12_board_42 (by decide) ?_
        refine am_iconst 2 (v := 2) dX12_board_43 (by decide) ?_
        refine am_iconst 1 (v := 1) dX12_board_44 (by decide) ?_
        obtain ⟨⟨v52, M52⟩, hk52, hyp⟩ := bd_some hyp
        try dsimp only at hyp
        refine am_callV [_, _, _] dX12_board_45 ml_X12_179 vm_X12_bad (sh_54 g) rfl (fun _ => Nat.le_of_ble_eq_true rfl) (by omega) rfl (ef_X12_bad (d := d + 5) (h := h) g hk52) rfl ?_
        change am_At _ _ _ 48 [_, _, _] [_] _ _
        refine am_if_eq (5) 53 dX12_board_48 rfl ?_ ?_
        · intro hc53
          have hc53 : v52 = 0 := hc53
          replace hyp := it_pos hc53 hyp
          refine am_iload_n dX12_board_53 rfl ?_
          by_cases hc54 : x2 = (0 : Int32)
          · refine am_tabIn (42) 96 dX12_board_54 (by rw [hc54]; decide) (by rw [hc54]; decide) (by rw [hc54]; rfl) rfl ?_
            replace hyp := it_pos hc54 hyp
            refine am_aload_n dX12_board_96 rfl ?_
            refine am_getR 12 14 60 dX12_board_97 fg_X12_31 (sh_54 g) (by decide) rfl (rf_54_14 g) ?_
            refine am_iload_n dX12_board_100 rfl ?_
            obtain ⟨hg55, hyp⟩ := gd_some hyp
            refine am_aald dX12_board_101 (sh_60 g) (am_lit hg55) ?_
            refine am_iload_n dX12_board_102 rfl ?_
            obtain ⟨hg56, hyp⟩ := gd_some hyp
            refine am_iald dX12_board_103 (am_ia.row (sh_60 g) (by omega) (am_vlt (am_lit hg55))) (am_lit hg56) ?_
            cases hyp
            exact am_iret dX12_board_104 rfl
          · have hc54n := hc54
            replace hyp := it_neg hc54n hyp
            by_cases hc57 : x2 = (1 : Int32)
            · refine am_tabIn (42) 96 dX12_board_54 (by rw [hc57]; decide) (by rw [hc57]; decide) (by rw [hc57]; rfl) rfl ?_
              replace hyp := it_pos hc57 hyp
              refine am_aload_n dX12_board_96 rfl ?_
              refine am_getR 12 14 60 dX12_board_97 fg_X12_31 (sh_54 g) (by decide) rfl (rf_54_14 g) ?_
              refine am_iload_n dX12_board_100 rfl ?_
              obtain ⟨hg58, hyp⟩ := gd_some hyp
              refine am_aald dX12_board_101 (sh_60 g) (am_lit hg58) ?_
              refine am_iload_n dX12_board_102 rfl ?_
              obtain ⟨hg59, hyp⟩ := gd_some hyp
              refine am_iald dX12_board_103 (am_ia.row (sh_60 g) (by omega) (am_vlt (am_lit hg58))) (am_lit hg59) ?_
              cases hyp
              exact am_iret dX12_board_104 rfl
            · have hc57n := hc57
              replace hyp := it_neg hc57n hyp
              by_cases hc60 : x2 = (2 : Int32)
              · refine am_tabIn (42) 96 dX12_board_54 (by rw [hc60]; decide) (by rw [hc60]; decide) (by rw [hc60]; rfl) rfl ?_
                replace hyp := it_pos hc60 hyp
                refine am_aload_n dX12_board_96 rfl ?_
                refine am_getR 12 14 60 dX12_board_97 fg_X12_31 (sh_54 g) (by decide) rfl (rf_54_14 g) ?_
                refine am_iload_n dX12_board_100 rfl ?_
                obtain ⟨hg61, hyp⟩ := gd_some hyp
                refine am_aald dX12_board_101 (sh_60 g) (am_lit hg61) ?_
                refine am_iload_n dX12_board_102 rfl ?_
                obtain ⟨hg62, hyp⟩ := gd_some hyp
                refine am_iald dX12_board_103 (am_ia.row (sh_60 g) (by omega) (am_vlt (am_lit hg61))) (am_lit hg62) ?_
                cases hyp
                exact am_iret dX12_board_104 rfl
              · have hc60n := hc60
                replace hyp := it_neg hc60n hyp
                by_cases hc63 : x2 = (3 : Int32)
                · refine am_tabIn (42) 96 dX12_board_54 (by rw [hc63]; decide) (by rw [hc63]; decide) (by rw [hc63]; rfl) rfl ?_
                  replace hyp := it_pos hc63 hyp
                  refine am_aload_n dX12_board_96 rfl ?_
                  refine am_getR 12 14 60 dX12_board_97 fg_X12_31 (sh_54 g) (by decide) rfl (rf_54_14 g) ?_
                  refine am_iload_n dX12_board_100 rfl ?_
                  obtain ⟨hg64, hyp⟩ := gd_some hyp
                  refine am_aald dX12_board_101 (sh_60 g) (am_lit hg64) ?_
                  refine am_iload_n dX12_board_102 rfl ?_
                  obtain ⟨hg65, hyp⟩ := gd_some hyp
                  refine am_iald dX12_board_103 (am_ia.row (sh_60 g) (by omega) (am_vlt (am_lit hg64))) (am_lit hg65) ?_
                  cases hyp
                  exact am_iret dX12_board_104 rfl
                · have hc63n := hc63
                  replace hyp := it_neg hc63n hyp
                  by_cases hc66 : x2 = (4 : Int32)
                  · refine am_tabIn (51) 105 dX12_board_54 (by rw [hc66]; decide) (by rw [hc66]; decide) (by rw [hc66]; rfl) rfl ?_
                    replace hyp := it_pos hc66 hyp
                    refine am_aload_n dX12_board_105 rfl ?_
                    refine am_getR 12 29 72 dX12_board_106 fg_X12_67 (sh_54 g) (by decide) rfl (rf_54_29 g) ?_
                    refine am_iconst 0 (v := 0) dX12_board_109 (by decide) ?_
                    refine am_iload_n dX12_board_110 rfl ?_
                    refine am_iadd dX12_board_111 ?_
                    obtain ⟨hg67, hyp⟩ := gd_some hyp
                    refine am_iald dX12_board_112 (am_ia.one (sh_72 g)) (am_lit hg67) ?_
                    cases hyp
                    exact am_iret dX12_board_113 rfl
                  · have hc66n := hc66
                    replace hyp := it_neg hc66n hyp
                    by_cases hc68 : x2 = (5 : Int32)
                    · refine am_tabIn (60) 114 dX12_board_54 (by rw [hc68]; decide) (by rw [hc68]; decide) (by rw [hc68]; rfl) rfl ?_
                      replace hyp := it_pos hc68 hyp
                      refine am_aload_n dX12_board_114 rfl ?_
                      refine am_aload_n dX12_board_115 rfl ?_
                      refine am_getR 12 29 72 dX12_board_116 fg_X12_67 (sh_54 g) (by decide) rfl (rf_54_29 g) ?_
                      refine am_iload_n dX12_board_119 rfl ?_
                      obtain ⟨⟨v69, M69⟩, hk69, hyp⟩ := bd_some hyp
                      try dsimp only at hyp
                      refine am_callV [_, _] dX12_board_120 ml_X12_273 vm_X12_opensIn (sh_54 g) rfl (fun _ => Nat.le_of_ble_eq_true rfl) (by omega) rfl (ef_X12_opensIn_72 (d := d + 0) (h := h) g hk69) rfl ?_
                      change am_At _ _ _ 123 [_, _, _] [_] _ _
                      refine am_if_eq (7) 130 dX12_board_123 rfl ?_ ?_
                      · intro hc70
                        have hc70 : v69 = 0 := hc70
                        replace hyp := it_pos hc70 hyp
                        refine am_iconst 0 (v := 0) dX12_board_130 (by decide) ?_
                        cases hyp
                        exact am_iret dX12_board_131 rfl
                      · intro hc70n
                        have hc70n : ¬ (v69 = 0) := hc70n
                        replace hyp := it_neg hc70n hyp
                        refine am_iconst 1 (v := 1) dX12_board_126 (by decide) ?_
                        refine am_goto (4) 131 dX12_board_127 rfl ?_
                        cases hyp
                        exact am_iret dX12_board_131 rfl
                    · have hc68n := hc68
                      replace hyp := it_neg hc68n hyp
                      by_cases hc71 : x2 = (6 : Int32)
                      · refine am_tabIn (78) 132 dX12_board_54 (by rw [hc71]; decide) (by rw [hc71]; decide) (by rw [hc71]; rfl) rfl ?_
                        replace hyp := it_pos hc71 hyp
                        refine am_aload_n dX12_board_132 rfl ?_
                        refine am_getR 12 29 72 dX12_board_133 fg_X12_67 (sh_54 g) (by decide) rfl (rf_54_29 g) ?_
                        refine am_bipush 16 (v := 16) dX12_board_136 (by decide) ?_
                        refine am_iload_n dX12_board_138 rfl ?_
                        refine am_iadd dX12_board_139 ?_
                        obtain ⟨hg72, hyp⟩ := gd_some hyp
                        refine am_iald dX12_board_140 (am_ia.one (sh_72 g)) (am_lit hg72) ?_
                        cases hyp
                        exact am_iret dX12_board_141 rfl
                      · have hc71n := hc71
                        replace hyp := it_neg hc71n hyp
                        refine am_tabOut 142 dX12_board_54 (by have q0 := lv_neT (a := 0) hc54n (by decide); have q1 := lv_neT (a := 1) hc57n (by decide); have q2 := lv_neT (a := 2) hc60n (by decide); have q3 := lv_neT (a := 3) hc63n (by decide); have q4 := lv_neT (a := 4) hc66n (by decide); have q5 := lv_neT (a := 5) hc68n (by decide); have q6 := lv_neT (a := 6) hc71n (by decide); omega) rfl ?_
                        refine am_aload_n dX12_board_142 rfl ?_
                        refine am_getR 12 29 72 dX12_board_143 fg_X12_67 (sh_54 g) (by decide) rfl (rf_54_29 g) ?_
                        refine am_bipush 32 (v := 32) dX12_board_146 (by decide) ?_
                        refine am_iload_n dX12_board_148 rfl ?_
                        refine am_iadd dX12_board_149 ?_
                        obtain ⟨hg73, hyp⟩ := gd_some hyp
                        refine am_iald dX12_board_150 (am_ia.one (sh_72 g)) (am_lit hg73) ?_
                        cases hyp
                        exact am_iret dX12_board_151 rfl
        · intro hc53n
          have hc53n : ¬ (v52 = 0) := hc53n
          replace hyp := it_neg hc53n hyp
          refine am_iconst 0 (v := 0) dX12_board_51 (by decide) ?_
          cases hyp
          exact am_iret dX12_board_52 rfl
      · intro hc51
        have hc51 : (f_X12_in x2 (0 : Int32) (7 : Int32)) = 0 := hc51
        replace hyp := it_pos hc51 hyp
        refine am_iconst 1 (v := 1) dX12_board_38 (by decide) ?_
        refine am_goto (4) 43 dX12_board_39 rfl ?_
        refine am_iconst 2 (v := 2) dX12_board_43 (by decide) ?_
        refine am_iconst 1 (v := 1) dX12_board_44 (by decide) ?_
        obtain ⟨⟨v74, M74⟩, hk74, hyp⟩ := bd_some hyp
        try dsimp only at hyp
        refine am_callV [_, _, _] dX12_board_45 ml_X12_179 vm_X12_bad (sh_54 g) rfl (fun _ => Nat.le_of_ble_eq_true rfl) (by omega) rfl (ef_X12_bad (d := d + 5) (h := h) g hk74) rfl ?_
        change am_At _ _ _ 48 [_, _, _] [_] _ _
        refine am_if_eq (5) 53 dX12_board_48 rfl ?_ ?_
        · intro hc75
          have hc75 : v74 = 0 := hc75
          replace hyp := it_pos hc75 hyp
          refine am_iload_n dX12_board_53 rfl ?_
          by_cases hc76 : x2 = (0 : Int32)
          · refine am_tabIn (42) 96 dX12_board_54 (by rw [hc76]; decide) (by rw [hc76]; decide) (by rw [hc76]; rfl) rfl ?_
            replace hyp := it_pos hc76 hyp
            refine am_aload_n dX12_board_96 rfl ?_
            refine am_getR 12 14 60 dX12_board_97 fg_X12_31 (sh_54 g) (by decide) rfl (rf_54_14 g) ?_
            refine am_iload_n dX12_board_100 rfl ?_
            obtain ⟨hg77, hyp⟩ := gd_some hyp
            refine am_aald dX12_board_101 (sh_60 g) (am_lit hg77) ?_
            refine am_iload_n dX12_board_102 rfl ?_
            obtain ⟨hg78, hyp⟩ := gd_some hyp
            refine am_iald dX12_board_103 (am_ia.row (sh_60 g) (by omega) (am_vlt (am_lit hg77))) (am_lit hg78) ?_
            cases hyp
            exact am_iret dX12_board_104 rfl
          · have hc76n := hc76
            replace hyp := it_neg hc76n hyp
            by_cases hc79 : x2 = (1 : Int32)
            · refine am_tabIn (42) 96 dX12_board_54 (by rw [hc79]; decide) (by rw [hc79]; decide) (by rw [hc79]; rfl) rfl ?_
              replace hyp := it_pos hc79 hyp
              refine am_aload_n dX12_board_96 rfl ?_
              refine am_getR 12 14 60 dX12_board_97 fg_X12_31 (sh_54 g) (by decide) rfl (rf_54_14 g) ?_
              refine am_iload_n dX12_board_100 rfl ?_
              obtain ⟨hg80, hyp⟩ := gd_some hyp
              refine am_aald dX12_board_101 (sh_60 g) (am_lit hg80) ?_
              refine am_iload_n dX12_board_102 rfl ?_
              obtain ⟨hg81, hyp⟩ := gd_some hyp
              refine am_iald dX12_board_103 (am_ia.row (sh_60 g) (by omega) (am_vlt (am_lit hg80))) (am_lit hg81) ?_
              cases hyp
              exact am_iret dX12_board_104 rfl
            · have hc79n := hc79
              replace hyp := it_neg hc79n hyp
              by_cases hc82 : x2 = (2 : Int32)
              · refine am_tabIn (42) 96 dX12_board_54 (by rw [hc82]; decide) (by rw [hc82]; decide) (by rw [hc82]; rfl) rfl ?_
                replace hyp := it_pos hc82 hyp
                refine am_aload_n dX12_board_96 rfl ?_
                refine am_getR 12 14 60 dX12_board_97 fg_X12_31 (sh_54 g) (by decide) rfl (rf_54_14 g) ?_
                refine am_iload_n dX12_board_100 rfl ?_
                obtain ⟨hg83, hyp⟩ := gd_some hyp
                refine am_aald dX12_board_101 (sh_60 g) (am_lit hg83) ?_
                refine am_iload_n dX12_board_102 rfl ?_
                obtain ⟨hg84, hyp⟩ := gd_some hyp
                refine am_iald dX12_board_103 (am_ia.row (sh_60 g) (by omega) (am_vlt (am_lit hg83))) (am_lit hg84) ?_
                cases hyp
                exact am_iret dX12_board_104 rfl
              · have hc82n := hc82
                replace hyp := it_neg hc82n hyp
                by_cases hc85 : x2 = (3 : Int32)
                · refine am_tabIn (42) 96 dX12_board_54 (by rw [hc85]; decide) (by rw [hc85]; decide) (by rw [hc85]; rfl) rfl ?_
                  replace hyp := it_pos hc85 hyp
                  refine am_aload_n dX12_board_96 rfl ?_
                  refine am_getR 12 14 60 dX12_board_97 fg_X12_31 (sh_54 g) (by decide) rfl (rf_54_14 g) ?_
                  refine am_iload_n dX12_board_100 rfl ?_
                  obtain ⟨hg86, hyp⟩ := gd_some hyp
                  refine am_aald dX12_board_101 (sh_60 g) (am_lit hg86) ?_
                  refine am_iload_n dX12_board_102 rfl ?_
                  obtain ⟨hg87, hyp⟩ := gd_some hyp
                  refine am_iald dX12_board_103 (am_ia.row (sh_60 g) (by omega) (am_vlt (am_lit hg86))) (am_lit hg87) ?_
                  cases hyp
                  exact am_iret dX12_board_104 rfl
                · have hc85n := hc85
                  replace hyp := it_neg hc85n hyp
                  by_cases hc88 : x2 = (4 : Int32)
                  · refine am_tabIn (51) 105 dX12_board_54 (by rw [hc88]; decide) (by rw [hc88]; decide) (by rw [hc88]; rfl) rfl ?_
                    replace hyp := it_pos hc88 hyp
                    refine am_aload_n dX12_board_105 rfl ?_
                    refine am_getR 12 29 72 dX12_board_106 fg_X12_67 (sh_54 g) (by decide) rfl (rf_54_29 g) ?_
                    refine am_iconst 0 (v := 0) dX12_board_109 (by decide) ?_
                    refine am_iload_n dX12_board_110 rfl ?_
                    refine am_iadd dX12_board_111 ?_
                    obtain ⟨hg89, hyp⟩ := gd_some hyp
                    refine am_iald dX12_board_112 (am_ia.one (sh_72 g)) (am_lit hg89) ?_
                    cases hyp
                    exact am_iret dX12_board_113 rfl
                  · have hc88n := hc88
                    replace hyp := it_neg hc88n hyp
                    by_cases hc90 : x2 = (5 : Int32)
                    · refine am_tabIn (60) 114 dX12_board_54 (by rw [hc90]; decide) (by rw [hc90]; decide) (by rw [hc90]; rfl) rfl ?_
                      replace hyp := it_pos hc90 hyp
                      refine am_aload_n dX12_board_114 rfl ?_
                      refine am_aload_n dX12_board_115 rfl ?_
                      refine am_getR 12 29 72 dX12_board_116 fg_X12_67 (sh_54 g) (by decide) rfl (rf_54_29 g) ?_
                      refine am_iload_n dX12_board_119 rfl ?_
                      obtain ⟨⟨v91, M91⟩, hk91, hyp⟩ := bd_some hyp
                      try dsimp only at hyp
                      refine am_callV [_, _] dX12_board_120 ml_X12_273 vm_X12_opensIn (sh_54 g) rfl (fun _ => Nat.le_of_ble_eq_true rfl) (by omega) rfl (ef_X12_opensIn_72 (d := d + 0) (h := h) g hk91) rfl ?_
                      change am_At _ _ _ 123 [_, _, _] [_] _ _
                      refine am_if_eq (7) 130 dX12_board_123 rfl ?_ ?_
                      · intro hc92
                        have hc92 : v91 = 0 := hc92
                        replace hyp := it_pos hc92 hyp
                        refine am_iconst 0 (v := 0) dX12_board_130 (by decide) ?_
                        cases hyp
                        exact am_iret dX12_board_131 rfl
                      · intro hc92n
                        have hc92n : ¬ (v91 = 0) := hc92n
                        replace hyp := it_neg hc92n hyp
                        refine am_iconst 1 (v := 1) dX12_board_126 (by decide) ?_
                        refine am_goto (4) 131 dX12_board_127 rfl ?_
                        cases hyp
                        exact am_iret dX12_board_131 rfl
                    · have hc90n := hc90
                      replace hyp := it_neg hc90n hyp
                      by_cases hc93 : x2 = (6 : Int32)
                      · refine am_tabIn (78) 132 dX12_board_54 (by rw [hc93]; decide) (by rw [hc93]; decide) (by rw [hc93]; rfl) rfl ?_
                        replace hyp := it_pos hc93 hyp
                        refine am_aload_n dX12_board_132 rfl ?_
                        refine am_getR 12 29 72 dX12_board_133 fg_X12_67 (sh_54 g) (by decide) rfl (rf_54_29 g) ?_
                        refine am_bipush 16 (v := 16) dX12_board_136 (by decide) ?_
                        refine am_iload_n dX12_board_138 rfl ?_
                        refine am_iadd dX12_board_139 ?_
                        obtain ⟨hg94, hyp⟩ := gd_some hyp
                        refine am_iald dX12_board_140 (am_ia.one (sh_72 g)) (am_lit hg94) ?_
                        cases hyp
                        exact am_iret dX12_board_141 rfl
                      · have hc93n := hc93
                        replace hyp := it_neg hc93n hyp
                        refine am_tabOut 142 dX12_board_54 (by have q0 := lv_neT (a := 0) hc76n (by decide); have q1 := lv_neT (a := 1) hc79n (by decide); have q2 := lv_neT (a := 2) hc82n (by decide); have q3 := lv_neT (a := 3) hc85n (by decide); have q4 := lv_neT (a := 4) hc88n (by decide); have q5 := lv_neT (a := 5) hc90n (by decide); have q6 := lv_neT (a := 6) hc93n (by decide); omega) rfl ?_
                        refine am_aload_n dX12_board_142 rfl ?_
                        refine am_getR 12 29 72 dX12_board_143 fg_X12_67 (sh_54 g) (by decide) rfl (rf_54_29 g) ?_
                        refine am_bipush 32 (v := 32) dX12_board_146 (by decide) ?_
                        refine am_iload_n dX12_board_148 rfl ?_
                        refine am_iadd dX12_board_149 ?_
                        obtain ⟨hg95, hyp⟩ := gd_some hyp
                        refine am_iald dX12_board_150 (am_ia.one (sh_72 g)) (am_lit hg95) ?_
                        cases hyp
                        exact am_iret dX12_board_151 rfl
        · intro hc75n
          have hc75n : ¬ (v74 = 0) := hc75n
          replace hyp := it_neg hc75n hyp
          refine am_iconst 0 (v := 0) dX12_board_51 (by decide) ?_
          cases hyp
          exact am_iret dX12_board_52 rfl
