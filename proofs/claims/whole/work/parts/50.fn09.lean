theorem ef_X4_openBits_30 {d : Nat} {h : am_H} (g : lay h) {x2 : Int32} {M : Mem} {v : Int32} (hyp : f_X4_openBits 30 x2 M = v) : am_Ev (d + 1) mX4_openBits [.inr (28, 0), .inr (29, 0), am_I x2] (am_hM h M) (.inl (some (am_I v), am_hM h M)) := by
  unfold f_X4_openBits at hyp
  refine am_Ev.mk (by decide +kernel) rfl rfl (Nat.le_refl _) (Nat.le_refl _) ?_
  change am_At _ _ _ 0 [_, _, _] [] _ _
  refine am_aload_n dX4_openBits_0 rfl ?_
  refine am_callV [] dX4_openBits_1 ml_X4_37 vm_X8_lifted (sh_29 g) rfl (fun _ => Nat.le_of_ble_eq_true rfl) (by omega) rfl (ef_X8_lifted_30 (d := d + 0) (h := h) g  (M := M) rfl) rfl ?_
  change am_At _ _ _ 4 [_, _, _] [_] _ _
  refine am_iload_n dX4_openBits_4 rfl ?_
  refine am_aload_n dX4_openBits_5 rfl ?_
  refine am_callV [] dX4_openBits_6 ml_X4_41 vm_X8_shut (sh_29 g) rfl (fun _ => Nat.le_of_ble_eq_true rfl) (by omega) rfl (ef_X8_shut_30 (d := d + 0) (h := h) g  (M := M) rfl) rfl ?_
  change am_At _ _ _ 9 [_, _, _] [_, _, _] _ _
  refine am_iconst (-1) (v := (-1)) dX4_openBits_9 (by decide) ?_
  refine am_ixor dX4_openBits_10 ?_
  refine am_iand dX4_openBits_11 ?_
  refine am_ior dX4_openBits_12 ?_
  cases hyp
  exact am_iret dX4_openBits_13 rfl
theorem ef_X4_openBits_40 {d : Nat} {h : am_H} (g : lay h) {x2 : Int32} {M : Mem} {v : Int32} (hyp : f_X4_openBits 40 x2 M = v) : am_Ev (d + 1) mX4_openBits [.inr (28, 0), .inr (39, 0), am_I x2] (am_hM h M) (.inl (some (am_I v), am_hM h M)) := by
  unfold f_X4_openBits at hyp
  refine am_Ev.mk (by decide +kernel) rfl rfl (Nat.le_refl _) (Nat.le_refl _) ?_
  change am_At _ _ _ 0 [_, _, _] [] _ _
  refine am_aload_n dX4_openBits_0 rfl ?_
  refine am_callV [] dX4_openBits_1 ml_X4_37 vm_X8_lifted (sh_39 g) rfl (fun _ => Nat.le_of_ble_eq_true rfl) (by omega) rfl (ef_X8_lifted_40 (d := d + 0) (h := h) g  (M := M) rfl) rfl ?_
  change am_At _ _ _ 4 [_, _, _] [_] _ _
  refine am_iload_n dX4_openBits_4 rfl ?_
  refine am_aload_n dX4_openBits_5 rfl ?_
  refine am_callV [] dX4_openBits_6 ml_X4_41 vm_X8_shut (sh_39 g) rfl (fun _ => Nat.le_of_ble_eq_true rfl) (by omega) rfl (ef_X8_shut_40 (d := d + 0) (h := h) g  (M := M) rfl) rfl ?_
  change am_At _ _ _ 9 [_, _, _] [_, _, _] _ _
  refine am_iconst (-1) (v := (-1)) dX4_openBits_9 (by decide) ?_
  refine am_ixor dX4_openBits_10 ?_
  refine am_iand dX4_openBits_11 ?_
  refine am_ior dX4_openBits_12 ?_
  cases hyp
  exact am_iret dX4_openBits_13 rfl
theorem eL_X4_passHour_27_30 {d : Nat} {h : am_H} (g : lay h) {x4 : Int32} {r : am_R} (n : Nat) : ∀ (s : Int32 × Mem) (e : Mem), wh (L_X4_passHour_27 30 x4) n s = some e → ((fun (M : Mem) => am_At am_X0 (d + 3) mX4_passHour 158 [some (.inr (28, 0)), some (.inr (29, 0)), none, none, some (am_I (x4)), none, none, none] [] (am_hM h M) r) e) → (match s with | (x5, M) => am_At am_X0 (d + 3) mX4_passHour 27 [some (.inr (28, 0)), some (.inr (29, 0)), none, none, some (am_I (x4)), some (am_I (x5)), none, none] [] (am_hM h M) r) := by
  refine am_wh (At := fun (s : Int32 × Mem) => match s with | (x5, M) => am_At am_X0 (d + 3) mX4_passHour 27 [some (.inr (28, 0)), some (.inr (29, 0)), none, none, some (am_I (x4)), some (am_I (x5)), none, none] [] (am_hM h M) r) (Ex := fun (e : Mem) => (fun (M : Mem) => am_At am_X0 (d + 3) mX4_passHour 158 [some (.inr (28, 0)), some (.inr (29, 0)), none, none, some (am_I (x4)), none, none, none] [] (am_hM h M) r) e) ?_ n
  rintro ⟨x5, M⟩ y hyp hx
  unfold L_X4_passHour_27 at hyp
  try dsimp only at hyp
  change am_At _ _ _ 27 [_, _, _, _, _, _, _, _] [] _ _
  refine am_iload dX4_passHour_27 rfl ?_
  refine am_aload_n dX4_passHour_29 rfl ?_
  refine am_getR 4 0 3 dX4_passHour_30 fg_X4_9 (sh_28 g) (by decide) rfl (rf_28_0 g) ?_
  refine am_getI 1 5 dX4_passHour_33 fg_X4_73 (sh_3 g) (by decide) rfl ?_
  refine am_icmp_ge (122) 158 dX4_passHour_36 rfl ?_ ?_
  · intro hc2
    have hc2 : (M 3 0 5) ≤ x5 := hc2
    replace hyp := it_pos hc2 hyp
    cases hyp
    refine am_At.drop 5 ?_
    exact hx
  · intro hc2n
    have hc2n : ¬ ((M 3 0 5) ≤ x5) := hc2n
    replace hyp := it_neg hc2n hyp
    refine am_aload_n dX4_passHour_39 rfl ?_
    refine am_iload dX4_passHour_40 rfl ?_
    obtain ⟨v3, hk3, hyp⟩ := bd_some hyp
    try dsimp only at hyp
    refine am_callV [_] dX4_passHour_42 ml_X4_76 vm_X8_whereIs (sh_29 g) rfl (fun _ => Nat.le_of_ble_eq_true rfl) (by omega) rfl (ef_X8_whereIs_30 (d := d + 2) (h := h) g hk3) rfl ?_
    change am_At _ _ _ 45 [_, _, _, _, _, _, _, _] [_] _ _
    refine am_if_ne (26) 71 dX4_passHour_45 rfl ?_ ?_
    · intro hc4n
      have hc4n : ¬ (v3 = 0) := hc4n
      replace hyp := it_neg hc4n hyp
      refine am_aload_n dX4_passHour_71 rfl ?_
      refine am_iload dX4_passHour_72 rfl ?_
      obtain ⟨v5, hk5, hyp⟩ := bd_some hyp
      try dsimp only at hyp
      refine am_callV [_] dX4_passHour_74 ml_X4_76 vm_X8_whereIs (sh_29 g) rfl (fun _ => Nat.le_of_ble_eq_true rfl) (by omega) rfl (ef_X8_whereIs_30 (d := d + 2) (h := h) g hk5) rfl ?_
      change am_At _ _ _ 77 [_, _, _, _, _, _, _, _] [_] _ _
      refine am_iconst 1 (v := 1) dX4_passHour_77 (by decide) ?_
      refine am_icmp_ne (74) 152 dX4_passHour_78 rfl ?_ ?_
      · intro hc6n
        have hc6n : ¬ (v5 = (1 : Int32)) := hc6n
        replace hyp := it_neg hc6n hyp
        refine am_iinc dX4_passHour_152 rfl (am_ix _) ?_
        change am_At _ _ _ 155 [_, _, _, _, _, _, _, _] [] _ _
        refine am_goto (-128) 27 dX4_passHour_155 rfl ?_
        cases hyp
        exact hx
      · intro hc6
        have hc6 : v5 = (1 : Int32) := hc6
        replace hyp := it_pos hc6 hyp
        refine am_aload_n dX4_passHour_81 rfl ?_
        refine am_iload dX4_passHour_82 rfl ?_
        obtain ⟨v7, hk7, hyp⟩ := bd_some hyp
        try dsimp only at hyp
        refine am_callV [_] dX4_passHour_84 ml_X4_88 vm_X8_passedBy (sh_29 g) rfl (fun _ => Nat.le_of_ble_eq_true rfl) (by omega) rfl (ef_X8_passedBy_30 (d := d + 2) (h := h) g hk7) rfl ?_
        change am_At _ _ _ 87 [_, _, _, _, _, _, _, _] [_] _ _
        refine am_istore dX4_passHour_87 (am_lb rfl) ?_
        change am_At _ _ _ 89 [_, _, _, _, _, _, _, _] [] _ _
        refine am_aload_n dX4_passHour_89 rfl ?_
        refine am_aload_n dX4_passHour_90 rfl ?_
        refine am_getR 4 0 3 dX4_passHour_91 fg_X4_9 (sh_28 g) (by decide) rfl (rf_28_0 g) ?_
        refine am_getR 1 6 8 dX4_passHour_94 fg_X4_91 (sh_3 g) (by decide) rfl (rf_3_6 g) ?_
        refine am_iload dX4_passHour_97 rfl ?_
        obtain ⟨hg8, hyp⟩ := gd_some hyp
        refine am_iald dX4_passHour_99 (am_ia.one (sh_8 g)) (am_lit hg8) ?_
        refine am_iload dX4_passHour_100 rfl ?_
        refine am_iload dX4_passHour_102 rfl ?_
        obtain ⟨v9, hk9, hyp⟩ := bd_some hyp
        try dsimp only at hyp
        refine am_callV [_, _, _] dX4_passHour_104 ml_X4_94 vm_X4_passedOn (sh_28 g) rfl (fun _ => Nat.le_of_ble_eq_true rfl) (by omega) rfl (ef_X4_passedOn (d := d + 0) (h := h) g hk9) rfl ?_
        change am_At _ _ _ 107 [_, _, _, _, _, _, _, _] [_] _ _
        refine am_istore dX4_passHour_107 (am_lb rfl) ?_
        change am_At _ _ _ 109 [_, _, _, _, _, _, _, _] [] _ _
        refine am_aload_n dX4_passHour_109 rfl ?_
        refine am_iload dX4_passHour_110 rfl ?_
        refine am_iload dX4_passHour_112 rfl ?_
        obtain ⟨M10, hk10, hyp⟩ := bd_some hyp
        try dsimp only at hyp
        refine am_callV [_, _] dX4_passHour_114 ml_X4_98 vm_X8_pass (sh_29 g) rfl (fun _ => Nat.le_of_ble_eq_true rfl) (by omega) rfl (ef_X8_pass_30 (d := d + 2) (h := h) g hk10) rfl ?_
        change am_At _ _ _ 117 [_, _, _, _, _, _, _, _] [] _ _
        refine am_aload_n dX4_passHour_117 rfl ?_
        refine am_iload dX4_passHour_118 rfl ?_
        refine am_iload dX4_passHour_120 rfl ?_
        refine am_callV [_, _] dX4_passHour_122 ml_X4_102 vm_X4_hasKnocked (sh_28 g) rfl (fun _ => Nat.le_of_ble_eq_true rfl) (by omega) rfl (ef_X4_hasKnocked (d := d + 2) (h := h) g (x1 := v7) (x2 := v9) (M := M10) rfl) rfl ?_
        change am_At _ _ _ 125 [_, _, _, _, _, _, _, _] [_] _ _
        refine am_if_eq (9) 134 dX4_passHour_125 rfl ?_ ?_
        · intro hc11
          have hc11 : (f_X4_hasKnocked v7 v9 M10) = 0 := hc11
          replace hyp := it_pos hc11 hyp
          refine am_iload dX4_passHour_134 rfl ?_
          refine am_aload_n dX4_passHour_136 rfl ?_
          refine am_getR 4 0 3 dX4_passHour_137 fg_X4_9 (sh_28 g) (by decide) rfl (rf_28_0 g) ?_
          refine am_getI 1 0 dX4_passHour_140 fg_X4_25 (sh_3 g) (by decide) rfl ?_
          refine am_icmp_ne (9) 152 dX4_passHour_143 rfl ?_ ?_
          · intro hc12n
            have hc12n : ¬ (v9 = (M10 3 0 0)) := hc12n
            replace hyp := it_neg hc12n hyp
            refine am_iinc dX4_passHour_152 rfl (am_ix _) ?_
            change am_At _ _ _ 155 [_, _, _, _, _, _, _, _] [] _ _
            refine am_goto (-128) 27 dX4_passHour_155 rfl ?_
            cases hyp
            refine am_At.drop 6 ?_
            refine am_At.drop 7 ?_
            exact hx
          · intro hc12
            have hc12 : v9 = (M10 3 0 0) := hc12
            replace hyp := it_pos hc12 hyp
            refine am_aload_n dX4_passHour_146 rfl ?_
            refine am_iload dX4_passHour_147 rfl ?_
            obtain ⟨M13, hk13, hyp⟩ := bd_some hyp
            try dsimp only at hyp
            refine am_callV [_] dX4_passHour_149 ml_X4_108 vm_X8_leave (sh_29 g) rfl (fun _ => Nat.le_of_ble_eq_true rfl) (by omega) rfl (ef_X8_leave_30 (d := d + 1) (h := h) g hk13) rfl ?_
            change am_At _ _ _ 152 [_, _, _, _, _, _, _, _] [] _ _
            refine am_iinc dX4_passHour_152 rfl (am_ix _) ?_
            change am_At _ _ _ 155 [_, _, _, _, _, _, _, _] [] _ _
            refine am_goto (-128) 27 dX4_passHour_155 rfl ?_
            cases hyp
            refine am_At.drop 6 ?_
            refine am_At.drop 7 ?_
            exact hx
        · intro hc11n
          have hc11n : ¬ ((f_X4_hasKnocked v7 v9 M10) = 0) := hc11n
          replace hyp := it_neg hc11n hyp
          refine am_aload_n dX4_passHour_128 rfl ?_
          refine am_iload dX4_passHour_129 rfl ?_
          obtain ⟨M14, hk14, hyp⟩ := bd_some hyp
          try dsimp only at hyp
          refine am_callV [_] dX4_passHour_131 ml_X4_105 vm_X8_knock (sh_29 g) rfl (fun _ => Nat.le_of_ble_eq_true rfl) (by omega) rfl (ef_X8_knock_30 (d := d + 2) (h := h) g hk14) rfl ?_
          change am_At _ _ _ 134 [_, _, _, _, _, _, _, _] [] _ _
          refine am_iload dX4_passHour_134 rfl ?_
          refine am_aload_n dX4_passHour_136 rfl ?_
          refine am_getR 4 0 3 dX4_passHour_137 fg_X4_9 (sh_28 g) (by decide) rfl (rf_28_0 g) ?_
          refine am_getI 1 0 dX4_passHour_140 fg_X4_25 (sh_3 g) (by decide) rfl ?_
          refine am_icmp_ne (9) 152 dX4_passHour_143 rfl ?_ ?_
          · intro hc15n
            have hc15n : ¬ (v9 = (M14 3 0 0)) := hc15n
            replace hyp := it_neg hc15n hyp
            refine am_iinc dX4_passHour_152 rfl (am_ix _) ?_
            change am_At _ _ _ 155 [_, _, _, _, _, _, _, _] [] _ _
            refine am_goto (-128) 27 dX4_passHour_155 rfl ?_
            cases hyp
            refine am_At.drop 6 ?_
            refine am_At.drop 7 ?_
            exact hx
          · intro hc15
            have hc15 : v9 = (M14 3 0 0) := hc15
            replace hyp := it_pos hc15 hyp
            refine am_aload_n dX4_passHour_146 rfl ?_
            refine am_iload dX4_passHour_147 rfl ?_
            obtain ⟨M16, hk16, hyp⟩ := bd_some hyp
            try dsimp only at hyp
            refine am_callV [_] dX4_passHour_149 ml_X4_108 vm_X8_leave (sh_29 g) rfl (fun _ => Nat.le_of_ble_eq_true rfl) (by omega) rfl (ef_X8_leave_30 (d := d + 1) (h := h) g hk16) rfl ?_
            change am_At _ _ _ 152 [_, _, _, _, _, _, _, _] [] _ _
            refine am_iinc dX4_passHour_152 rfl (am_ix _) ?_
            change am_At _ _ _ 155 [_, _, _, _, _, _, _, _] [] _ _
            refine am_goto (-128) 27 dX4_passHour_155 rfl ?_
            cases hyp
            refine am_At.drop 6 ?_
            refine am_At.drop 7 ?_
            exact hx
    · intro hc4
      have hc4 : v3 = 0 := hc4
      replace hyp := it_pos hc4 hyp
      refine am_aload_n dX4_passHour_48 rfl ?_
      refine am_getR 4 0 3 dX4_passHour_49 fg_X4_9 (sh_28 g) (by decide) rfl (rf_28_0 g) ?_
      refine am_getR 1 7 9 dX4_passHour_52 fg_X4_79 (sh_3 g) (by decide) rfl (rf_3_7 g) ?_
      refine am_iload dX4_passHour_55 rfl ?_
      obtain ⟨hg17, hyp⟩ := gd_some hyp
      refine am_iald dX4_passHour_57 (am_ia.one (sh_9 g)) (am_lit hg17) ?_
      refine am_aload_n dX4_passHour_58 rfl ?_
      refine am_callV [] dX4_passHour_59 ml_X4_82 vm_X8_hour (sh_29 g) rfl (fun _ => Nat.le_of_ble_eq_true rfl) (by omega) rfl (ef_X8_hour_30 (d := d + 2) (h := h) g  (M := M) rfl) rfl ?_
      change am_At _ _ _ 62 [_, _, _, _, _, _, _, _] [_, _] _ _
      refine am_icmp_ne (9) 71 dX4_passHour_62 rfl ?_ ?_
      · intro hc18n
        have hc18n : ¬ ((M 9 0 x5.toNatClampNeg) = (M 30 0 0)) := hc18n
        replace hyp := it_neg hc18n hyp
        refine am_aload_n dX4_passHour_71 rfl ?_
        refine am_iload dX4_passHour_72 rfl ?_
        obtain ⟨v19, hk19, hyp⟩ := bd_some hyp
        try dsimp only at hyp
        refine am_callV [_] dX4_passHour_74 ml_X4_76 vm_X8_whereIs (sh_29 g) rfl (fun _ => Nat.le_of_ble_eq_true rfl) (by omega) rfl (ef_X8_whereIs_30 (d := d + 2) (h := h) g hk19) rfl ?_
        change am_At _ _ _ 77 [_, _, _, _, _, _, _, _] [_] _ _
        refine am_iconst 1 (v := 1) dX4_passHour_77 (by decide) ?_
        refine am_icmp_ne (74) 152 dX4_passHour_78 rfl ?_ ?_
        · intro hc20n
          have hc20n : ¬ (v19 = (1 : Int32)) := hc20n
          replace hyp := it_neg hc20n hyp
          refine am_iinc dX4_passHour_152 rfl (am_ix _) ?_
          change am_At _ _ _ 155 [_, _, _, _, _, _, _, _] [] _ _
          refine am_goto (-128) 27 dX4_passHour_155 rfl ?_
          cases hyp
          exact hx
        · intro hc20
          have hc20 : v19 = (1 : Int32) := hc20
          replace hyp := it_pos hc20 hyp
          refine am_aload_n dX4_passHour_81 rfl ?_
          refine am_iload dX4_passHour_82 rfl ?_
          obtain ⟨v21, hk21, hyp⟩ := bd_some hyp
          try dsimp only at hyp
          refine am_callV [_] dX4_passHour_84 ml_X4_88 vm_X8_passedBy (sh_29 g) rfl (fun _ => Nat.le_of_ble_eq_true rfl) (by omega) rfl (ef_X8_passedBy_30 (d := d + 2) (h := h) g hk21) rfl ?_
          change am_At _ _ _ 87 [_, _, _, _, _, _, _, _] [_] _ _
          refine am_istore dX4_passHour_87 (am_lb rfl) ?_
          change am_At _ _ _ 89 [_, _, _, _, _, _, _, _] [] _ _
          refine am_aload_n dX4_passHour_89 rfl ?_
          refine am_aload_n dX4_passHour_90 rfl ?_
          refine am_getR 4 0 3 dX4_passHour_91 fg_X4_9 (sh_28 g) (by decide) rfl (rf_28_0 g) ?_
          refine am_getR 1 6 8 dX4_passHour_94 fg_X4_91 (sh_3 g) (by decide) rfl (rf_3_6 g) ?_
          refine am_iload dX4_passHour_97 rfl ?_
          refine am_iald dX4_passHour_99 (am_ia.one (sh_8 g)) (am_lit hg17) ?_
          refine am_iload dX4_passHour_100 rfl ?_
          refine am_iload dX4_passHour_102 rfl ?_
          obtain ⟨v22, hk22, hyp⟩ := bd_some hyp
          try dsimp only at hyp
          refine am_callV [_, _, _] dX4_passHour_104 ml_X4_94 vm_X4_passedOn (sh_28 g) rfl (fun _ => Nat.le_of_ble_eq_true rfl) (by omega) rfl (ef_X4_passedOn (d := d + 0) (h := h) g hk22) rfl ?_
          change am_At _ _ _ 107 [_, _, _, _, _, _, _, _] [_] _ _
          refine am_istore dX4_passHour_107 (am_lb rfl) ?_
          change am_At _ _ _ 109 [_, _, _, _, _, _, _, _] [] _ _
          refine am_aload_n dX4_passHour_109 rfl ?_
          refine am_iload dX4_passHour_110 rfl ?_
          refine am_iload dX4_passHour_112 rfl ?_
          obtain ⟨M23, hk23, hyp⟩ := bd_some hyp
          try dsimp only at hyp
          refine am_callV [_, _] dX4_passHour_114 ml_X4_98 vm_X8_pass (sh_29 g) rfl (fun _ => Nat.le_of_ble_eq_true rfl) (by omega) rfl (ef_X8_pass_30 (d := d + 2) (h := h) g hk23) rfl ?_
          change am_At _ _ _ 117 [_, _, _, _, _, _, _, _] [] _ _
          refine am_aload_n dX4_passHour_117 rfl ?_
          refine am_iload dX4_passHour_118 rfl ?_
          refine am_iload dX4_passHour_120 rfl ?_
          refine am_callV [_, _] dX4_passHour_122 ml_X4_102 vm_X4_hasKnocked (sh_28 g) rfl (fun _ => Nat.le_of_ble_eq_true rfl) (by omega) rfl (ef_X4_hasKnocked (d := d + 2) (h := h) g (x1 := v21) (x2 := v22) (M := M23) rfl) rfl ?_
          change am_At _ _ _ 125 [_, _, _, _, _, _, _, _] [_] _ _
          refine am_if_eq (9) 134 dX4_passHour_125 rfl ?_ ?_
          · intro hc24
            have hc24 : (f_X4_hasKnocked v21 v22 M23) = 0 := hc24
            replace hyp := it_pos hc24 hyp
            refine am_iload dX4_passHour_134 rfl ?_
            refine am_aload_n dX4_passHour_136 rfl ?_
            refine am_getR 4 0 3 dX4_passHour_137 fg_X4_9 (sh_28 g) (by decide) rfl (rf_28_0 g) ?_
            refine am_getI 1 0 dX4_passHour_140 fg_X4_25 (sh_3 g) (by decide) rfl ?_
            refine am_icmp_ne (9) 152 dX4_passHour_143 rfl ?_ ?_
            · intro hc25n
              have hc25n : ¬ (v22 = (M23 3 0 0)) := hc25n
              replace hyp := it_neg hc25n hyp
              refine am_iinc dX4_passHour_152 rfl (am_ix _) ?_
              change am_At _ _ _ 155 [_, _, _, _, _, _, _, _] [] _ _
              refine am_goto (-128) 27 dX4_passHour_155 rfl ?_
              cases hyp
              refine am_At.drop 6 ?_
              refine am_At.drop 7 ?_
              exact hx
            · intro hc25
              have hc25 : v22 = (M23 3 0 0) := hc25
              replace hyp := it_pos hc25 hyp
              refine am_aload_n dX4_passHour_146 rfl ?_
              refine am_iload dX4_passHour_147 rfl ?_
              obtain ⟨M26, hk26, hyp⟩ := bd_some hyp
              try dsimp only at hyp
              refine am_callV [_] dX4_passHour_149 ml_X4_108 vm_X8_leave (sh_29 g) rfl (fun _ => Nat.le_of_ble_eq_true rfl) (by omega) rfl (ef_X8_leave_30 (d := d + 1) (h := h) g hk26) rfl ?_
              change am_At _ _ _ 152 [_, _, _, _, _, _, _, _] [] _ _
              refine am_iinc dX4_passHour_152 rfl (am_ix _) ?_
              change am_At _ _ _ 155 [_, _, _, _, _, _, _, _] [] _ _
              refine am_goto (-128) 27 dX4_passHour_155 rfl ?_
              cases hyp
              refine am_At.drop 6 ?_
              refine am_At.drop 7 ?_
              exact hx
          · intro hc24n
            have hc24n : ¬ ((f_X4_hasKnocked v21 v22 M23) = 0) := hc24n
            replace hyp := it_neg hc24n hyp
            refine am_aload_n dX4_passHour_128 rfl ?_
            refine am_iload dX4_passHour_129 rfl ?_
            obtain ⟨M27, hk27, hyp⟩ := bd_some hyp
            try dsimp only at hyp
            refine am_callV [_] dX4_passHour_131 ml_X4_105 vm_X8_knock (sh_29 g) rfl (fun _ => Nat.le_of_ble_eq_true rfl) (by omega) rfl (ef_X8_knock_30 (d := d + 2) (h := h) g hk27) rfl ?_
            change am_At _ _ _ 134 [_, _, _, _, _, _, _, _] [] _ _
            refine am_iload dX4_passHour_134 rfl ?_
            refine am_aload_n dX4_passHour_136 rfl ?_
            refine am_getR 4 0 3 dX4_passHour_137 fg_X4_9 (sh_28 g) (by decide) rfl (rf_28_0 g) ?_
            refine am_getI 1 0 dX4_passHour_140 fg_X4_25 (sh_3 g) (by decide) rfl ?_
            refine am_icmp_ne (9) 152 dX4_passHour_143 rfl ?_ ?_
            · intro hc28n
              have hc28n : ¬ (v22 = (M27 3 0 0)) := hc28n
              replace hyp := it_neg hc28n hyp
              refine am_iinc dX4_passHour_152 rfl (am_ix _) ?_
              change am_At _ _ _ 155 [_, _, _, _, _, _, _, _] [] _ _
              refine am_goto (-128) 27 dX4_passHour_155 rfl ?_
              cases hyp
              refine am_At.drop 6 ?_
              refine am_At.drop 7 ?_
              exact hx
            · intro hc28
              have hc28 : v22 = (M27 3 0 0) := hc28
              replace hyp := it_pos hc28 hyp
              refine am_aload_n dX4_passHour_146 rfl ?_
              refine am_iload dX4_passHour_147 rfl ?_
              obtain ⟨M29, hk29, hyp⟩ := bd_some hyp
              try dsimp only at hyp
              refine am_callV [_] dX4_passHour_149 ml_X4_108 vm_X8_leave (sh_29 g) rfl (fun _ => Nat.le_of_ble_eq_true rfl) (by omega) rfl (ef_X8_leave_30 (d := d + 1) (h := h) g hk29) rfl ?_
              change am_At _ _ _ 152 [_, _, _, _, _, _, _, _] [] _ _
              refine am_iinc dX4_passHour_152 rfl (am_ix _) ?_
              change am_At _ _ _ 155 [_, _, _, _, _, _, _, _] [] _ _
              refine am_goto (-128) 27 dX4_passHour_155 rfl ?_
              cases hyp
              refine am_At.drop 6 ?_
              refine am_At.drop 7 ?_
              exact hx
      · intro hc18
        have hc18 : (M 9 0 x5.toNatClampNeg) = (M 30 0 0) := hc18
        replace hyp := it_pos hc18 hyp
        refine am_aload_n dX4_passHour_65 rfl ?_
        refine am_iload dX4_passHour_66 rfl ?_
        obtain ⟨M30, hk30, hyp⟩ := bd_some hyp
        try dsimp only at hyp
        refine am_callV [_] dX4_passHour_68 ml_X4_85 vm_X8_come (sh_29 g) rfl (fun _ => Nat.le_of_ble_eq_true rfl) (by omega) rfl (ef_X8_come_30 (d := d + 2) (h := h) g hk30) rfl ?_
        change am_At _ _ _ 71 [_, _, _, _, _, _, _, _] [] _ _
        refine am_aload_n dX4_passHour_71 rfl ?_
        refine am_iload dX4_passHour_72 rfl ?_
        obtain ⟨v31, hk31, hyp⟩ := bd_some hyp
        try dsimp only at hyp
        refine am_callV [_] dX4_passHour_74 ml_X4_76 vm_X8_whereIs (sh_29 g) rfl (fun _ => Nat.le_of_ble_eq_true rfl) (by omega) rfl (ef_X8_whereIs_30 (d := d + 2) (h := h) g hk31) rfl ?_
        change am_At _ _ _ 77 [_, _, _, _, _, _, _, _] [_] _ _
        refine am_iconst 1 (v := 1) dX4_passHour_77 (by decide) ?_
        refine am_icmp_ne (74) 152 dX4_passHour_78 rfl ?_ ?_
        · intro hc32n
          have hc32n : ¬ (v31 = (1 : Int32)) := hc32n
          replace hyp := it_neg hc32n hyp
          refine am_iinc dX4_passHour_152 rfl (am_ix _) ?_
          change am_At _ _ _ 155 [_, _, _, _, _, _, _, _] [] _ _
          refine am_goto (-128) 27 dX4_passHour_155 rfl ?_
          cases hyp
          exact hx
        · intro hc32
          have hc32 : v31 = (1 : Int32) := hc32
          replace hyp := it_pos hc32 hyp
          refine am_aload_n dX4_passHour_81 rfl ?_
          refine am_iload dX4_passHour_82 rfl ?_
          obtain ⟨v33, hk33, hyp⟩ := bd_some hyp
          try dsimp only at hyp
          refine am_callV [_] dX4_passHour_84 ml_X4_88 vm_X8_passedBy (sh_29 g) rfl (fun _ => Nat.le_of_ble_eq_true rfl) (by omega) rfl (ef_X8_passedBy_30 (d := d + 2) (h := h) g hk33) rfl ?_
          change am_At _ _ _ 87 [_, _, _, _, _, _, _, _] [_] _ _
          refine am_istore dX4_passHour_87 (am_lb rfl) ?_
          change am_At _ _ _ 89 [_, _, _, _, _, _, _, _] [] _ _
          refine am_aload_n dX4_passHour_89 rfl ?_
          refine am_aload_n dX4_passHour_90 rfl ?_
          refine am_getR 4 0 3 dX4_passHour_91 fg_X4_9 (sh_28 g) (by decide) rfl (rf_28_0 g) ?_
          refine am_getR 1 6 8 dX4_passHour_94 fg_X4_91 (sh_3 g) (by decide) rfl (rf_3_6 g) ?_
          refine am_iload dX4_passHour_97 rfl ?_
          refine am_iald dX4_passHour_99 (am_ia.one (sh_8 g)) (am_lit hg17) ?_
          refine am_iload dX4_passHour_100 rfl ?_
          refine am_iload dX4_passHour_102 rfl ?_
          obtain ⟨v34, hk34, hyp⟩ := bd_some hyp
          try dsimp only at hyp
          refine am_callV [_, _, _] dX4_passHour_104 ml_X4_94 vm_X4_passedOn (sh_28 g) rfl (fun _ => Nat.le_of_ble_eq_true rfl) (by omega) rfl (ef_X4_passedOn (d := d + 0) (h := h) g hk34) rfl ?_
          change am_At _ _ _ 107 [_, _, _, _, _, _, _, _] [_] _ _
          refine am_istore dX4_passHour_107 (am_lb rfl) ?_
          change am_At _ _ _ 109 [_, _, _, _, _, _, _, _] [] _ _
          refine am_aload_n dX4_passHour_109 rfl ?_
          refine am_iload dX4_passHour_110 rfl ?_
          refine am_iload dX4_passHour_112 rfl ?_
          obtain ⟨M35, hk35, hyp⟩ := bd_some hyp
          try dsimp only at hyp
          refine am_callV [_, _] dX4_passHour_114 ml_X4_98 vm_X8_pass (sh_29 g) rfl (fun _ => Nat.le_of_ble_eq_true rfl) (by omega) rfl (ef_X8_pass_30 (d := d + 2) (h := h) g hk35) rfl ?_
          change am_At _ _ _ 117 [_, _, _, _, _, _, _, _] [] _ _
          refine am_aload_n dX4_passHour_117 rfl ?_
          refine am_iload dX4_passHour_118 rfl ?_
          refine am_iload dX4_passHour_120 rfl ?_
          refine am_callV [_, _] dX4_passHour_122 ml_X4_102 vm_X4_hasKnocked (sh_28 g) rfl (fun _ => Nat.le_of_ble_eq_true rfl) (by omega) rfl (ef_X4_hasKnocked (d := d + 2) (h := h) g (x1 := v33) (x2 := v34) (M := M35) rfl) rfl ?_
          change am_At _ _ _ 125 [_, _, _, _, _, _, _, _] [_] _ _
          refine am_if_eq (9) 134 dX4_passHour_125 rfl ?_ ?_
          · intro hc36
            have hc36 : (f_X4_hasKnocked v33 v34 M35) = 0 := hc36
            replace hyp := it_pos hc36 hyp
            refine am_iload dX4_passHour_134 rfl ?_
            refine am_aload_n dX4_passHour_136 rfl ?_
            refine am_getR 4 0 3 dX4_passHour_137 fg_X4_9 (sh_28 g) (by decide) rfl (rf_28_0 g) ?_
            refine am_getI 1 0 dX4_passHour_140 fg_X4_25 (sh_3 g) (by decide) rfl ?_
            refine am_icmp_ne (9) 152 dX4_passHour_143 rfl ?_ ?_
            · intro hc37n
              have hc37n : ¬ (v34 = (M35 3 0 0)) := hc37n
              replace hyp := it_neg hc37n hyp
              refine am_iinc dX4_passHour_152 rfl (am_ix _) ?_
              change am_At _ _ _ 155 [_, _, _, _, _, _, _, _] [] _ _
              refine am_goto (-128) 27 dX4_passHour_155 rfl ?_
              cases hyp
              refine am_At.drop 6 ?_
              refine am_At.drop 7 ?_
              exact hx
            · intro hc37
              have hc37 : v34 = (M35 3 0 0) := hc37
              replace hyp := it_pos hc37 hyp
              refine am_aload_n dX4_passHour_146 rfl ?_
              refine am_iload dX4_passHour_147 rfl ?_
              obtain ⟨M38, hk38, hyp⟩ := bd_some hyp
              try dsimp only at hyp
              refine am_callV [_] dX4_passHour_149 ml_X4_108 vm_X8_leave (sh_29 g) rfl (fun _ => Nat.le_of_ble_eq_true rfl) (by omega) rfl (ef_X8_leave_30 (d := d + 1) (h := h) g hk38) rfl ?_
              change am_At _ _ _ 152 [_, _, _, _, _, _, _, _] [] _ _
              refine am_iinc dX4_passHour_152 rfl (am_ix _) ?_
              change am_At _ _ _ 155 [_, _, _, _, _, _, _, _] [] _ _
              refine am_goto (-128) 27 dX4_passHour_155 rfl ?_
              cases hyp
              refine am_At.drop 6 ?_
              refine am_At.drop 7 ?_
              exact hx
          · intro hc36n
            have hc36n : ¬ ((f_X4_hasKnocked v33 v34 M35) = 0) := hc36n
            replace hyp := it_neg hc36n hyp
            refine am_aload_n dX4_passHour_128 rfl ?_
            refine am_iload dX4_passHour_129 rfl ?_
            obtain ⟨M39, hk39, hyp⟩ := bd_some hyp
            try dsimp only at hyp
            refine am_callV [_] dX4_passHour_131 ml_X4_105 vm_X8_knock (sh_29 g) rfl (fun _ => Nat.le_of_ble_eq_true rfl) (by omega) rfl (ef_X8_knock_30 (d := d + 2) (h := h) g hk39) rfl ?_
            change am_At _ _ _ 134 [_, _, _, _, _, _, _, _] [] _ _
            refine am_iload dX4_passHour_134 rfl ?_
            refine am_aload_n dX4_passHour_136 rfl ?_
            refine am_getR 4 0 3 dX4_passHour_137 fg_X4_9 (sh_28 g) (by decide) rfl (rf_28_0 g) ?_
            refine am_getI 1 0 dX4_passHour_140 fg_X4_25 (sh_3 g) (by decide) rfl ?_
            refine am_icmp_ne (9) 152 dX4_passHour_143 rfl ?_ ?_
            · intro hc40n
              have hc40n : ¬ (v34 = (M39 3 0 0)) := hc40n
              replace hyp := it_neg hc40n hyp
              refine am_iinc dX4_passHour_152 rfl (am_ix _) ?_
              change am_At _ _ _ 155 [_, _, _, _, _, _, _, _] [] _ _
              refine am_goto (-128) 27 dX4_passHour_155 rfl ?_
              cases hyp
              refine am_At.drop 6 ?_
              refine am_At.drop 7 ?_
              exact hx
            · intro hc40
              have hc40 : v34 = (M39 3 0 0) := hc40
              replace hyp := it_pos hc40 hyp
              refine am_aload_n dX4_passHour_146 rfl ?_
              refine am_iload dX4_passHour_147 rfl ?_
              obtain ⟨M41, hk41, hyp⟩ := bd_some hyp
              try dsimp only at hyp
              refine am_callV [_] dX4_passHour_149 ml_X4_108 vm_X8_leave (sh_29 g) rfl (fun _ => Nat.le_of_ble_eq_true rfl) (by omega) rfl (ef_X8_leave_30 (d := d + 1) (h := h) g hk41) rfl ?_
              change am_At _ _ _ 152 [_, _, _, _, _, _, _, _] [] _ _
              refine am_iinc dX4_passHour_152 rfl (am_ix _) ?_
              change am_At _ _ _ 155 [_, _, _, _, _, _, _, _] [] _ _
              refine am_goto (-128) 27 dX4_passHour_155 rfl ?_
              cases hyp
              refine am_At.drop 6 ?_
              refine am_At.drop 7 ?_
              exact hx
theorem ef_X4_passHour_30 {d : Nat} {h : am_H} (g : lay h) {x2 x3 : Int32} {M : Mem} {M' : Mem} (hyp : f_X4_passHour 30 x2 x3 M = some M') : am_Ev (d + 3) mX4_passHour [.inr (28, 0), .inr (29, 0), am_I x2, am_I x3] (am_hM h M) (.inl (none, am_hM h M')) := by
  unfold f_X4_passHour at hyp
  refine am_Ev.mk (by decide +kernel) rfl rfl (Nat.le_refl _) (Nat.le_refl _) ?_
  change am_At _ _ _ 0 [_, _, _, _, _, _, _, _] [] _ _
  refine am_aload_n dX4_passHour_0 rfl ?_
  refine am_aload_n dX4_passHour_1 rfl ?_
  refine am_iload_n dX4_passHour_2 rfl ?_
  refine am_callV [_, _] dX4_passHour_3 ml_X4_65 vm_X4_openBits (sh_28 g) rfl (fun _ => Nat.le_of_ble_eq_true rfl) (by omega) rfl (ef_X4_openBits_30 (d := d + 1) (h := h) g (x2 := x2) (M := M) rfl) rfl ?_
  change am_At _ _ _ 6 [_, _, _, _, _, _, _, _] [_] _ _
  refine am_iload_n dX4_passHour_6 rfl ?_
  refine am_iconst (-1) (v := (-1)) dX4_passHour_7 (by decide) ?_
  refine am_ixor dX4_passHour_8 ?_
  refine am_iand dX4_passHour_9 ?_
  refine am_istore dX4_passHour_10 (am_lb rfl) ?_
  change am_At _ _ _ 12 [_, _, _, _, _, _, _, _] [] _ _
  refine am_aload_n dX4_passHour_12 rfl ?_
  refine am_iload dX4_passHour_13 rfl ?_
  refine am_iload_n dX4_passHour_15 rfl ?_
  refine am_ixor dX4_passHour_16 ?_
  refine am_iload_n dX4_passHour_17 rfl ?_
  refine am_iconst (-1) (v := (-1)) dX4_passHour_18 (by decide) ?_
  refine am_ixor dX4_passHour_19 ?_
  refine am_iand dX4_passHour_20 ?_
  obtain ⟨M1, hk1, hyp⟩ := bd_some hyp
  try dsimp only at hyp
  refine am_callV [_] dX4_passHour_21 ml_X4_69 vm_X8_fine (sh_29 g) rfl (fun _ => Nat.le_of_ble_eq_true rfl) (by omega) rfl (ef_X8_fine_30 (d := d + 2) (h := h) g hk1) rfl ?_
  change am_At _ _ _ 24 [_, _, _, _, _, _, _, _] [] _ _
  refine am_iconst 0 (v := 0) dX4_passHour_24 (by decide) ?_
  refine am_istore dX4_passHour_25 (am_lb rfl) ?_
  change am_At _ _ _ 27 [_, _, _, _, _, _, _, _] [] _ _
  obtain ⟨M42, hw42, hyp⟩ := bd_some hyp
  refine am_At.drop 2 ?_
  refine am_At.drop 3 ?_
  try dsimp only at hyp
  refine eL_X4_passHour_27_30 (d := d) (h := h) g  FU ((0 : Int32), M1) M42 hw42 ?_
  change am_At _ _ _ 158 [_, _, _, _, _, _, _, _] [] _ _
  refine am_aload_n dX4_passHour_158 rfl ?_
  refine am_callV [] dX4_passHour_159 ml_X4_111 vm_X8_addHour (sh_29 g) rfl (fun _ => Nat.le_of_ble_eq_true rfl) (by omega) rfl (ef_X8_addHour_30 (d := d + 2) (h := h) g  (M := M42) rfl) rfl ?_
  change am_At _ _ _ 162 [_, _, _, _, _, _, _, _] [] _ _
  cases hyp
  exact am_vret dX4_passHour_162 rfl
theorem eL_X4_passHour_27_40 {d : Nat} {h : am_H} (g : lay h) {x4 : Int32} {r : am_R} (n : Nat) : ∀ (s : Int32 × Mem) (e : Mem), wh (L_X4_passHour_27 40 x4) n s = some e → ((fun (M : Mem) => am_At am_X0 (d + 3) mX4_passHour 158 [some (.inr (28, 0)), some (.inr (39, 0)), none, none, some (am_I (x4)), none, none, none] [] (am_hM h M) r) e) → (match s with | (x5, M) => am_At am_X0 (d + 3) mX4_passHour 27 [some (.inr (28, 0)), some (.inr (39, 0)), none, none, some (am_I (x4)), some (am_I (x5)), none, none] [] (am_hM h M) r) := by
  refine am_wh (At := fun (s : Int32 × Mem) => match s with | (x5, M) => am_At am_X0 (d + 3) mX4_passHour 27 [some (.inr (28, 0)), some (.inr (39, 0)), none, none, some (am_I (x4)), some (am_I (x5)), none, none] [] (am_hM h M) r) (Ex := fun (e : Mem) => (fun (M : Mem) => am_At am_X0 (d + 3) mX4_passHour 158 [some (.inr (28, 0)), some (.inr (39, 0)), none, none, some (am_I (x4)), none, none, none] [] (am_hM h M) r) e) ?_ n
  rintro ⟨x5, M⟩ y hyp hx
  unfold L_X4_passHour_27 at hyp
  try dsimp only at hyp
  change am_At _ _ _ 27 [_, _, _, _, _, _, _, _] [] _ _
  refine am_iload dX4_passHour_27 rfl ?_
  refine am_aload_n dX4_passHour_29 rfl ?_
  refine am_getR 4 0 3 dX4_passHour_30 fg_X4_9 (sh_28 g) (by decide) rfl (rf_28_0 g) ?_
  refine am_getI 1 5 dX4_passHour_33 fg_X4_73 (sh_3 g) (by decide) rfl ?_
  refine am_icmp_ge (122) 158 dX4_passHour_36 rfl ?_ ?_
  · intro hc2
    have hc2 : (M 3 0 5) ≤ x5 := hc2
    replace hyp := it_pos hc2 hyp
    cases hyp
    refine am_At.drop 5 ?_
    exact hx
  · intro hc2n
    have hc2n : ¬ ((M 3 0 5) ≤ x5) := hc2n
    replace hyp := it_neg hc2n hyp
    refine am_aload_n dX4_passHour_39 rfl ?_
    refine am_iload dX4_passHour_40 rfl ?_
    obtain ⟨v3, hk3, hyp⟩ := bd_some hyp
    try dsimp only at hyp
    refine am_callV [_] dX4_passHour_42 ml_X4_76 vm_X8_whereIs (sh_39 g) rfl (fun _ => Nat.le_of_ble_eq_true rfl) (by omega) rfl (ef_X8_whereIs_40 (d := d + 2) (h := h) g hk3) rfl ?_
    change am_At _ _ _ 45 [_, _, _, _, _, _, _, _] [_] _ _
    refine am_if_ne (26) 71 dX4_passHour_45 rfl ?_ ?_
    · intro hc4n
      have hc4n : ¬ (v3 = 0) := hc4n
      replace hyp := it_neg hc4n hyp
      refine am_aload_n dX4_passHour_71 rfl ?_
      refine am_iload dX4_passHour_72 rfl ?_
      obtain ⟨v5, hk5, hyp⟩ := bd_some hyp
      try dsimp only at hyp
      refine am_callV [_] dX4_passHour_74 ml_X4_76 vm_X8_whereIs (sh_39 g) rfl (fun _ => Nat.le_of_ble_eq_true rfl) (by omega) rfl (ef_X8_whereIs_40 (d := d + 2) (h := h) g hk5) rfl ?_
      change am_At _ _ _ 77 [_, _, _, _, _, _, _, _] [_] _ _
      refine am_iconst 1 (v := 1) dX4_passHour_77 (by decide) ?_
      refine am_icmp_ne (74) 152 dX4_passHour_78 rfl ?_ ?_
      · intro hc6n
        have hc6n : ¬ (v5 = (1 : Int32)) := hc6n
        replace hyp := it_neg hc6n hyp
        refine am_iinc dX4_passHour_152 rfl (am_ix _) ?_
        change am_At _ _ _ 155 [_, _, _, _, _, _, _, _] [] _ _
        refine am_goto (-128) 27 dX4_passHour_155 rfl ?_
        cases hyp
        exact hx
      · intro hc6
        have hc6 : v5 = (1 : Int32) := hc6
        replace hyp := it_pos hc6 hyp
        refine am_aload_n dX4_passHour_81 rfl ?_
        refine am_iload dX4_passHour_82 rfl ?_
        obtain ⟨v7, hk7, hyp⟩ := bd_some hyp
        try dsimp only at hyp
        refine am_callV [_] dX4_passHour_84 ml_X4_88 vm_X8_passedBy (sh_39 g) rfl (fun _ => Nat.le_of_ble_eq_true rfl) (by omega) rfl (ef_X8_passedBy_40 (d := d + 2) (h := h) g hk7) rfl ?_
        change am_At _ _ _ 87 [_, _, _, _, _, _, _, _] [_] _ _
        refine am_istore dX4_passHour_87 (am_lb rfl) ?_
        change am_At _ _ _ 89 [_, _, _, _, _, _, _, _] [] _ _
        refine am_aload_n dX4_passHour_89 rfl ?_
        refine am_aload_n dX4_passHour_90 rfl ?_
        refine am_getR 4 0 3 dX4_passHour_91 fg_X4_9 (sh_28 g) (by decide) rfl (rf_28_0 g) ?_
        refine am_getR 1 6 8 dX4_passHour_94 fg_X4_91 (sh_3 g) (by decide) rfl (rf_3_6 g) ?_
        refine am_iload dX4_passHour_97 rfl ?_
        obtain ⟨hg8, hyp⟩ := gd_some hyp
        refine am_iald dX4_passHour_99 (am_ia.one (sh_8 g)) (am_lit hg8) ?_
        refine am_iload dX4_passHour_100 rfl ?_
        refine am_iload dX4_passHour_102 rfl ?_
        obtain ⟨v9, hk9, hyp⟩ := bd_some hyp
        try dsimp only at hyp
        refine am_callV [_, _, _] dX4_passHour_104 ml_X4_94 vm_X4_passedOn (sh_28 g) rfl (fun _ => Nat.le_of_ble_eq_true rfl) (by omega) rfl (ef_X4_passedOn (d := d + 0) (h := h) g hk9) rfl ?_
        change am_At _ _ _ 107 [_, _, _, _, _, _, _, _] [_] _ _
        refine am_istore dX4_passHour_107 (am_lb rfl) ?_
        change am_At _ _ _ 109 [_, _, _, _, _, _, _, _] [] _ _
        refine am_aload_n dX4_passHour_109 rfl ?_
        refine am_iload dX4_passHour_110 rfl ?_
        refine am_iload dX4_passHour_112 rfl ?_
        obtain ⟨M10, hk10, hyp⟩ := bd_some hyp
        try dsimp only at hyp
        refine am_callV [_, _] dX4_passHour_114 ml_X4_98 vm_X8_pass (sh_39 g) rfl (fun _ => Nat.le_of_ble_eq_true rfl) (by omega) rfl (ef_X8_pass_40 (d := d + 2) (h := h) g hk10) rfl ?_
        change am_At _ _ _ 117 [_, _, _, _, _, _, _, _] [] _ _
        refine am_aload_n dX4_passHour_117 rfl ?_
        refine am_iload dX4_passHour_118 rfl ?_
        refine am_iload dX4_passHour_120 rfl ?_
        refine am_callV [_, _] dX4_passHour_122 ml_X4_102 vm_X4_hasKnocked (sh_28 g) rfl (fun _ => Nat.le_of_ble_eq_true rfl) (by omega) rfl (ef_X4_hasKnocked (d := d + 2) (h := h) g (x1 := v7) (x2 := v9) (M := M10) rfl) rfl ?_
        change am_At _ _ _ 125 [_, _, _, _, _, _, _, _] [_] _ _
        refine am_if_eq (9) 134 dX4_passHour_125 rfl ?_ ?_
        · intro hc11
          have hc11 : (f_X4_hasKnocked v7 v9 M10) = 0 := hc11
          replace hyp := it_pos hc11 hyp
          refine am_iload dX4_passHour_134 rfl ?_
          refine am_aload_n dX4_passHour_136 rfl ?_
          refine am_getR 4 0 3 dX4_passHour_137 fg_X4_9 (sh_28 g) (by decide) rfl (rf_28_0 g) ?_
          refine am_getI 1 0 dX4_passHour_140 fg_X4_25 (sh_3 g) (by decide) rfl ?_
          refine am_icmp_ne (9) 152 dX4_passHour_143 rfl ?_ ?_
          · intro hc12n
            have hc12n : ¬ (v9 = (M10 3 0 0)) := hc12n
            replace hyp := it_neg hc12n hyp
            refine am_iinc dX4_passHour_152 rfl (am_ix _) ?_
            change am_At _ _ _ 155 [_, _, _, _, _, _, _, _] [] _ _
            refine am_goto (-128) 27 dX4_passHour_155 rfl ?_
            cases hyp
            refine am_At.drop 6 ?_
            refine am_At.drop 7 ?_
            exact hx
          · intro hc12
            have hc12 : v9 = (M10 3 0 0) := hc12
            replace hyp := it_pos hc12 hyp
            refine am_aload_n dX4_passHour_146 rfl ?_
            refine am_iload dX4_passHour_147 rfl ?_
            obtain ⟨M13, hk13, hyp⟩ := bd_some hyp
            try dsimp only at hyp
            refine am_callV [_] dX4_passHour_149 ml_X4_108 vm_X8_leave (sh_39 g) rfl (fun _ => Nat.le_of_ble_eq_true rfl) (by omega) rfl (ef_X8_leave_40 (d := d + 1) (h := h) g hk13) rfl ?_
            change am_At _ _ _ 152 [_, _, _, _, _, _, _, _] [] _ _
            refine am_iinc dX4_passHour_152 rfl (am_ix _) ?_
            change am_At _ _ _ 155 [_, _, _, _, _, _, _, _] [] _ _
            refine am_goto (-128) 27 dX4_passHour_155 rfl ?_
            cases hyp
            refine am_At.drop 6 ?_
            refine am_At.drop 7 ?_
            exact hx
        · intro hc11n
          have hc11n : ¬ ((f_X4_hasKnocked v7 v9 M10) = 0) := hc11n
          replace hyp := it_neg hc11n hyp
          refine am_aload_n dX4_passHour_128 rfl ?_
          refine am_iload dX4_passHour_129 rfl ?_
          obtain ⟨M14, hk14, hyp⟩ := bd_some hyp
          try dsimp only at hyp
          refine am_callV [_] dX4_passHour_131 ml_X4_105 vm_X8_knock (sh_39 g) rfl (fun _ => Nat.le_of_ble_eq_true rfl) (by omega) rfl (ef_X8_knock_40 (d := d + 2) (h := h) g hk14) rfl ?_
          change am_At _ _ _ 134 [_, _, _, _, _, _, _, _] [] _ _
          refine am_iload dX4_passHour_134 rfl ?_
          refine am_aload_n dX4_passHour_136 rfl ?_
          refine am_getR 4 0 3 dX4_passHour_137 fg_X4_9 (sh_28 g) (by decide) rfl (rf_28_0 g) ?_
          refine am_getI 1 0 dX4_passHour_140 fg_X4_25 (sh_3 g) (by decide) rfl ?_
          refine am_icmp_ne (9) 152 dX4_passHour_143 rfl ?_ ?_
          · intro hc15n
            have hc15n : ¬ (v9 = (M14 3 0 0)) := hc15n
            replace hyp := it_neg hc15n hyp
            refine am_iinc dX4_passHour_152 rfl (am_ix _) ?_
            change am_At _ _ _ 155 [_, _, _, _, _, _, _, _] [] _ _
            refine am_goto (-128) 27 dX4_passHour_155 rfl ?_
            cases hyp
            refine am_At.drop 6 ?_
            refine am_At.drop 7 ?_
            exact hx
          · intro hc15
            have hc15 : v9 = (M14 3 0 0) := hc15
            replace hyp := it_pos hc15 hyp
            refine am_aload_n dX4_passHour_146 rfl ?_
            refine am_iload dX4_passHour_147 rfl ?_
            obtain ⟨M16, hk16, hyp⟩ := bd_some hyp
            try dsimp only at hyp
            refine am_callV [_] dX4_passHour_149 ml_X4_108 vm_X8_leave (sh_39 g) rfl (fun _ => Nat.le_of_ble_eq_true rfl) (by omega) rfl (ef_X8_leave_40 (d := d + 1) (h := h) g hk16) rfl ?_
            change am_At _ _ _ 152 [_, _, _, _, _, _, _, _] [] _ _
            refine am_iinc dX4_passHour_152 rfl (am_ix _) ?_
            change am_At _ _ _ 155 [_, _, _, _, _, _, _, _] [] _ _
            refine am_goto (-128) 27 dX4_passHour_155 rfl ?_
            cases hyp
            refine am_At.drop 6 ?_
            refine am_At.drop 7 ?_
            exact hx
    · intro hc4
      have hc4 : v3 = 0 := hc4
      replace hyp := it_pos hc4 hyp
      refine am_aload_n dX4_passHour_48 rfl ?_
      refine am_getR 4 0 3 dX4_passHour_49 fg_X4_9 (sh_28 g) (by decide) rfl (rf_28_0 g) ?_
      refine am_getR 1 7 9 dX4_passHour_52 fg_X4_79 (sh_3 g) (by decide) rfl (rf_3_7 g) ?_
      refine am_iload dX4_passHour_55 rfl ?_
      obtain ⟨hg17, hyp⟩ := gd_some hyp
      refine am_iald dX4_passHour_57 (am_ia.one (sh_9 g)) (am_lit hg17) ?_
      refine am_aload_n dX4_passHour_58 rfl ?_
      refine am_callV [] dX4_passHour_59 ml_X4_82 vm_X8_hour (sh_39 g) rfl (fun _ => Nat.le_of_ble_eq_true rfl) (by omega) rfl (ef_X8_hour_40 (d := d + 2) (h := h) g  (M := M) rfl) rfl ?_
      change am_At _ _ _ 62 [_, _, _, _, _, _, _, _] [_, _] _ _
      refine am_icmp_ne (9) 71 dX4_passHour_62 rfl ?_ ?_
      · intro hc18n
        have hc18n : ¬ ((M 9 0 x5.toNatClampNeg) = (M 40 0 0)) := hc18n
        replace hyp := it_neg hc18n hyp
        refine am_aload_n dX4_passHour_71 rfl ?_
        refine am_iload dX4_passHour_72 rfl ?_
        obtain ⟨v19, hk19, hyp⟩ := bd_some hyp
        try dsimp only at hyp
        refine am_callV [_] dX4_passHour_74 ml_X4_76 vm_X8_whereIs (sh_39 g) rfl (fun _ => Nat.le_of_ble_eq_true rfl) (by omega) rfl (ef_X8_whereIs_40 (d := d + 2) (h := h) g hk19) rfl ?_
        change am_At _ _ _ 77 [_, _, _, _, _, _, _, _] [_] _ _
        refine am_iconst 1 (v := 1) dX4_passHour_77 (by decide) ?_
        refine am_icmp_ne (74) 152 dX4_passHour_78 rfl ?_ ?_
        · intro hc20n
          have hc20n : ¬ (v19 = (1 : Int32)) := hc20n
          replace hyp := it_neg hc20n hyp
          refine am_iinc dX4_passHour_152 rfl (am_ix _) ?_
          change am_At _ _ _ 155 [_, _, _, _, _, _, _, _] [] _ _
          refine am_goto (-128) 27 dX4_passHour_155 rfl ?_
          cases hyp
          exact hx
        · intro hc20
          have hc20 : v19 = (1 : Int32) := hc20
          replace hyp := it_pos hc20 hyp
          refine am_aload_n dX4_passHour_81 rfl ?_
          refine am_iload dX4_passHour_82 rfl ?_
          obtain ⟨v21, hk21, hyp⟩ := bd_some hyp
          try dsimp only at hyp
          refine am_callV [_] dX4_passHour_84 ml_X4_88 vm_X8_passedBy (sh_39 g) rfl (fun _ => Nat.le_of_ble_eq_true rfl) (by omega) rfl (ef_X8_passedBy_40 (d := d + 2) (h := h) g hk21) rfl ?_
          change am_At _ _ _ 87 [_, _, _, _, _, _, _, _] [_] _ _
          refine am_istore dX4_passHour_87 (am_lb rfl) ?_
          change am_At _ _ _ 89 [_, _, _, _, _, _, _, _] [] _ _
          refine am_aload_n dX4_passHour_89 rfl ?_
          refine am_aload_n dX4_passHour_90 rfl ?_
          refine am_getR 4 0 3 dX4_passHour_91 fg_X4_9 (sh_28 g) (by decide) rfl (rf_28_0 g) ?_
          refine am_getR 1 6 8 dX4_passHour_94 fg_X4_91 (sh_3 g) (by decide) rfl (rf_3_6 g) ?_
          refine am_iload dX4_passHour_97 rfl ?_
          refine am_iald dX4_passHour_99 (am_ia.one (sh_8 g)) (am_lit hg17) ?_
          refine am_iload dX4_passHour_100 rfl ?_
          refine am_iload dX4_passHour_102 rfl ?_
          obtain ⟨v22, hk22, hyp⟩ := bd_some hyp
          try dsimp only at hyp
          refine am_callV [_, _, _] dX4_passHour_104 ml_X4_94 vm_X4_passedOn (sh_28 g) rfl (fun _ => Nat.le_of_ble_eq_true rfl) (by omega) rfl (ef_X4_passedOn (d := d + 0) (h := h) g hk22) rfl ?_
          change am_At _ _ _ 107 [_, _, _, _, _, _, _, _] [_] _ _
          refine am_istore dX4_passHour_107 (am_lb rfl) ?_
          change am_At _ _ _ 109 [_, _, _, _, _, _, _, _] [] _ _
          refine am_aload_n dX4_passHour_109 rfl ?_
          refine am_iload dX4_passHour_110 rfl ?_
          refine am_iload dX4_passHour_112 rfl ?_
          obtain ⟨M23, hk23, hyp⟩ := bd_some hyp
          try dsimp only at hyp
          refine am_callV [_, _] dX4_passHour_114 ml_X4_98 vm_X8_pass (sh_39 g) rfl (fun _ => Nat.le_of_ble_eq_true rfl) (by omega) rfl (ef_X8_pass_40 (d := d + 2) (h := h) g hk23) rfl ?_
          change am_At _ _ _ 117 [_, _, _, _, _, _, _, _] [] _ _
          refine am_aload_n dX4_passHour_117 rfl ?_
          refine am_iload dX4_passHour_118 rfl ?_
          refine am_iload dX4_passHour_120 rfl ?_
          refine am_callV [_, _] dX4_passHour_122 ml_X4_102 vm_X4_hasKnocked (sh_28 g) rfl (fun _ => Nat.le_of_ble_eq_true rfl) (by omega) rfl (ef_X4_hasKnocked (d := d + 2) (h := h) g (x1 := v21) (x2 := v22) (M := M23) rfl) rfl ?_
          change am_At _ _ _ 125 [_, _, _, _, _, _, _, _] [_] _ _
          refine am_if_eq (9) 134 dX4_passHour_125 rfl ?_ ?_
          · intro hc24
            have hc24 : (f_X4_hasKnocked v21 v22 M23) = 0 := hc24
            replace hyp := it_pos hc24 hyp
            refine am_iload dX4_passHour_134 rfl ?_
            refine am_aload_n dX4_passHour_136 rfl ?_
            refine am_getR 4 0 3 dX4_passHour_137 fg_X4_9 (sh_28 g) (by decide) rfl (rf_28_0 g) ?_
            refine am_getI 1 0 dX4_passHour_140 fg_X4_25 (sh_3 g) (by decide) rfl ?_
            refine am_icmp_ne (9) 152 dX4_passHour_143 rfl ?_ ?_
            · intro hc25n
              have hc25n : ¬ (v22 = (M23 3 0 0)) := hc25n
              replace hyp := it_neg hc25n hyp
              refine am_iinc dX4_passHour_152 rfl (am_ix _) ?_
              change am_At _ _ _ 155 [_, _, _, _, _, _, _, _] [] _ _
              refine am_goto (-128) 27 dX4_passHour_155 rfl ?_
              cases hyp
              refine am_At.drop 6 ?_
              refine am_At.drop 7 ?_
              exact hx
            · intro hc25
              have hc25 : v22 = (M23 3 0 0) := hc25
              replace hyp := it_pos hc25 hyp
              refine am_aload_n dX4_passHour_146 rfl ?_
              refine am_iload dX4_passHour_147 rfl ?_
              obtain ⟨M26, hk26, hyp⟩ := bd_some hyp
              try dsimp only at hyp
              refine am_callV [_] dX4_passHour_149 ml_X4_108 vm_X8_leave (sh_39 g) rfl (fun _ => Nat.le_of_ble_eq_true rfl) (by omega) rfl (ef_X8_leave_40 (d := d + 1) (h := h) g hk26) rfl ?_
              change am_At _ _ _ 152 [_, _, _, _, _, _, _, _] [] _ _
              refine am_iinc dX4_passHour_152 rfl (am_ix _) ?_
              change am_At _ _ _ 155 [_, _, _, _, _, _, _, _] [] _ _
              refine am_goto (-128) 27 dX4_passHour_155 rfl ?_
              cases hyp
              refine am_At.drop 6 ?_
              refine am_At.drop 7 ?_
              exact hx
          · intro hc24n
            have hc24n : ¬ ((f_X4_hasKnocked v21 v22 M23) = 0) := hc24n
            replace hyp := it_neg hc24n hyp
            refine am_aload_n dX4_passHour_128 rfl ?_
            refine am_iload dX4_passHour_129 rfl ?_
            obtain ⟨M27, hk27, hyp⟩ := bd_some hyp
            try dsimp only at hyp
            refine am_callV [_] dX4_passHour_131 ml_X4_105 vm_X8_knock (sh_39 g) rfl (fun _ => Nat.le_of_ble_eq_true rfl) (by omega) rfl (ef_X8_knock_40 (d := d + 2) (h := h) g hk27) rfl ?_
            change am_At _ _ _ 134 [_, _, _, _, _, _, _, _] [] _ _
            refine am_iload dX4_passHour_134 rfl ?_
            refine am_aload_n dX4_passHour_136 rfl ?_
            refine am_getR 4 0 3 dX4_passHour_137 fg_X4_9 (sh_28 g) (by decide) rfl (rf_28_0 g) ?_
            refine am_getI 1 0 dX4_passHour_140 fg_X4_25 (sh_3 g) (by decide) rfl ?_
            refine am_icmp_ne (9) 152 dX4_passHour_143 rfl ?_ ?_
            · intro hc28n
              have hc28n : ¬ (v22 = (M27 3 0 0)) := hc28n
              replace hyp := it_neg hc28n hyp
              refine am_iinc dX4_passHour_152 rfl (am_ix _) ?_
              change am_At _ _ _ 155 [_, _, _, _, _, _, _, _] [] _ _
              refine am_goto (-128) 27 dX4_passHour_155 rfl ?_
              cases hyp
              refine am_At.drop 6 ?_
              refine am_At.drop 7 ?_
              exact hx
            · intro hc28
              have hc28 : v22 = (M27 3 0 0) := hc28
              replace hyp := it_pos hc28 hyp
              refine am_aload_n dX4_passHour_146 rfl ?_
              refine am_iload dX4_passHour_147 rfl ?_
              obtain ⟨M29, hk29, hyp⟩ := bd_some hyp
              try dsimp only at hyp
              refine am_callV [_] dX4_passHour_149 ml_X4_108 vm_X8_leave (sh_39 g) rfl (fun _ => Nat.le_of_ble_eq_true rfl) (by omega) rfl (ef_X8_leave_40 (d := d + 1) (h := h) g hk29) rfl ?_
              change am_At _ _ _ 152 [_, _, _, _, _, _, _, _] [] _ _
              refine am_iinc dX4_passHour_152 rfl (am_ix _) ?_
              change am_At _ _ _ 155 [_, _, _, _, _, _, _, _] [] _ _
              refine am_goto (-128) 27 dX4_passHour_155 rfl ?_
              cases hyp
              refine am_At.drop 6 ?_
              refine am_At.drop 7 ?_
              exact hx
      · intro hc18
        have hc18 : (M 9 0 x5.toNatClampNeg) = (M 40 0 0) := hc18
        replace hyp := it_pos hc18 hyp
        refine am_aload_n dX4_passHour_65 rfl ?_
        refine am_iload dX4_passHour_66 rfl ?_
        obtain ⟨M30, hk30, hyp⟩ := bd_some hyp
        try dsimp only at hyp
        refine am_callV [_] dX4_passHour_68 ml_X4_85 vm_X8_come (sh_39 g) rfl (fun _ => Nat.le_of_ble_eq_true rfl) (by omega) rfl (ef_X8_come_40 (d := d + 2) (h := h) g hk30) rfl ?_
        change am_At _ _ _ 71 [_, _, _, _, _, _, _, _] [] _ _
        refine am_aload_n dX4_passHour_71 rfl ?_
        refine am_iload dX4_passHour_72 rfl ?_
        obtain ⟨v31, hk31, hyp⟩ := bd_some hyp
        try dsimp only at hyp
        refine am_callV [_] dX4_passHour_74 ml_X4_76 vm_X8_whereIs (sh_39 g) rfl (fun _ => Nat.le_of_ble_eq_true rfl) (by omega) rfl (ef_X8_whereIs_40 (d := d + 2) (h := h) g hk31) rfl ?_
        change am_At _ _ _ 77 [_, _, _, _, _, _, _, _] [_] _ _
        refine am_iconst 1 (v := 1) dX4_passHour_77 (by decide) ?_
        refine am_icmp_ne (74) 152 dX4_passHour_78 rfl ?_ ?_
        · intro hc32n
          have hc32n : ¬ (v31 = (1 : Int32)) := hc32n
          replace hyp := it_neg hc32n hyp
          refine am_iinc dX4_passHour_152 rfl (am_ix _) ?_
          change am_At _ _ _ 155 [_, _, _, _, _, _, _, _] [] _ _
          refine am_goto (-128) 27 dX4_passHour_155 rfl ?_
          cases hyp
          exact hx
        · intro hc32
          have hc32 : v31 = (1 : Int32) := hc32
          replace hyp := it_pos hc32 hyp
          refine am_aload_n dX4_passHour_81 rfl ?_
          refine am_iload dX4_passHour_82 rfl ?_
          obtain ⟨v33, hk33, hyp⟩ := bd_some hyp
          try dsimp only at hyp
          refine am_callV [_] dX4_passHour_84 ml_X4_88 vm_X8_passedBy (sh_39 g) rfl (fun _ => Nat.le_of_ble_eq_true rfl) (by omega) rfl (ef_X8_passedBy_40 (d := d + 2) (h := h) g hk33) rfl ?_
          change am_At _ _ _ 87 [_, _, _, _, _, _, _, _] [_] _ _
          refine am_istore dX4_passHour_87 (am_lb rfl) ?_
          change am_At _ _ _ 89 [_, _, _, _, _, _, _, _] [] _ _
          refine am_aload_n dX4_passHour_89 rfl ?_
          refine am_aload_n dX4_passHour_90 rfl ?_
          refine am_getR 4 0 3 dX4_passHour_91 fg_X4_9 (sh_28 g) (by decide) rfl (rf_28_0 g) ?_
          refine am_getR 1 6 8 dX4_passHour_94 fg_X4_91 (sh_3 g) (by decide) rfl (rf_3_6 g) ?_
          refine am_iload dX4_passHour_97 rfl ?_
          refine am_iald dX4_passHour_99 (am_ia.one (sh_8 g)) (am_lit hg17) ?_
          refine am_iload dX4_passHour_100 rfl ?_
          refine am_iload dX4_passHour_102 rfl ?_
          obtain ⟨v34, hk34, hyp⟩ := bd_some hyp
          try dsimp only at hyp
          refine am_callV [_, _, _] dX4_passHour_104 ml_X4_94 vm_X4_passedOn (sh_28 g) rfl (fun _ => Nat.le_of_ble_eq_true rfl) (by omega) rfl (ef_X4_passedOn (d := d + 0) (h := h) g hk34) rfl ?_
          change am_At _ _ _ 107 [_, _, _, _, _, _, _, _] [_] _ _
          refine am_istore dX4_passHour_107 (am_lb rfl) ?_
          change am_At _ _ _ 109 [_, _, _, _, _, _, _, _] [] _ _
          refine am_aload_n dX4_passHour_109 rfl ?_
          refine am_iload dX4_passHour_110 rfl ?_
          refine am_iload dX4_passHour_112 rfl ?_
          obtain ⟨M35, hk35, hyp⟩ := bd_some hyp
          try dsimp only at hyp
          refine am_callV [_, _] dX4_passHour_114 ml_X4_98 vm_X8_pass (sh_39 g) rfl (fun _ => Nat.le_of_ble_eq_true rfl) (by omega) rfl (ef_X8_pass_40 (d := d + 2) (h := h) g hk35) rfl ?_
          change am_At _ _ _ 117 [_, _, _, _, _, _, _, _] [] _ _
          refine am_aload_n dX4_passHour_117 rfl ?_
          refine am_iload dX4_passHour_118 rfl ?_
          refine am_iload dX4_passHour_120 rfl ?_
          refine am_callV [_, _] dX4_passHour_122 ml_X4_102 vm_X4_hasKnocked (sh_28 g) rfl (fun _ => Nat.le_of_ble_eq_true rfl) (by omega) rfl (ef_X4_hasKnocked (d := d + 2) (h := h) g (x1 := v33) (x2 := v34) (M := M35) rfl) rfl ?_
          change am_At _ _ _ 125 [_, _, _, _, _, _, _, _] [_] _ _
          refine am_if_eq (9) 134 dX4_passHour_125 rfl ?_ ?_
          · intro hc36
            have hc36 : (f_X4_hasKnocked v33 v34 M35) = 0 := hc36
            replace hyp := it_pos hc36 hyp
            refine am_iload dX4_passHour_134 rfl ?_
            refine am_aload_n dX4_passHour_136 rfl ?_
            refine am_getR 4 0 3 dX4_passHour_137 fg_X4_9 (sh_28 g) (by decide) rfl (rf_28_0 g) ?_
            refine am_getI 1 0 dX4_passHour_140 fg_X4_25 (sh_3 g) (by decide) rfl ?_
            refine am_icmp_ne (9) 152 dX4_passHour_143 rfl ?_ ?_
            · intro hc37n
              have hc37n : ¬ (v34 = (M35 3 0 0)) := hc37n
              replace hyp := it_neg hc37n hyp
              refine am_iinc dX4_passHour_152 rfl (am_ix _) ?_
              change am_At _ _ _ 155 [_, _, _, _, _, _, _, _] [] _ _
              refine am_goto (-128) 27 dX4_passHour_155 rfl ?_
              cases hyp
              refine am_At.drop 6 ?_
              refine am_At.drop 7 ?_
              exact hx
            · intro hc37
              have hc37 : v34 = (M35 3 0 0) := hc37
              replace hyp := it_pos hc37 hyp
              refine am_aload_n dX4_passHour_146 rfl ?_
              refine am_iload dX4_passHour_147 rfl ?_
              obtain ⟨M38, hk38, hyp⟩ := bd_some hyp
              try dsimp only at hyp
              refine am_callV [_] dX4_passHour_149 ml_X4_108 vm_X8_leave (sh_39 g) rfl (fun _ => Nat.le_of_ble_eq_true rfl) (by omega) rfl (ef_X8_leave_40 (d := d + 1) (h := h) g hk38) rfl ?_
              change am_At _ _ _ 152 [_, _, _, _, _, _, _, _] [] _ _
              refine am_iinc dX4_passHour_152 rfl (am_ix _) ?_
              change am_At _ _ _ 155 [_, _, _, _, _, _, _, _] [] _ _
              refine am_goto (-128) 27 dX4_passHour_155 rfl ?_
              cases hyp
              refine am_At.drop 6 ?_
              refine am_At.drop 7 ?_
              exact hx
          · intro hc36n
            have hc36n : ¬ ((f_X4_hasKnocked v33 v34 M35) = 0) := hc36n
            replace hyp := it_neg hc36n hyp
            refine am_aload_n dX4_passHour_128 rfl ?_
            refine am_iload dX4_passHour_129 rfl ?_
            obtain ⟨M39, hk39, hyp⟩ := bd_some hyp
            try dsimp only at hyp
            refine am_callV [_] dX4_passHour_131 ml_X4_105 vm_X8_knock (sh_39 g) rfl (fun _ => Nat.le_of_ble_eq_true rfl) (by omega) rfl (ef_X8_knock_40 (d := d + 2) (h := h) g hk39) rfl ?_
            change am_At _ _ _ 134 [_, _, _, _, _, _, _, _] [] _ _
            refine am_iload dX4_passHour_134 rfl ?_
            refine am_aload_n dX4_passHour_136 rfl ?_
            refine am_getR 4 0 3 dX4_passHour_137 fg_X4_9 (sh_28 g) (by decide) rfl (rf_28_0 g) ?_
            refine am_getI 1 0 dX4_passHour_140 fg_X4_25 (sh_3 g) (by decide) rfl ?_
            refine am_icmp_ne (9) 152 dX4_passHour_143 rfl ?_ ?_
            · intro hc40n
              have hc40n : ¬ (v34 = (M39 3 0 0)) := hc40n
              replace hyp := it_neg hc40n hyp
              refine am_iinc dX4_passHour_152 rfl (am_ix _) ?_
              change am_At _ _ _ 155 [_, _, _, _, _, _, _, _] [] _ _
              refine am_goto (-128) 27 dX4_passHour_155 rfl ?_
              cases hyp
              refine am_At.drop 6 ?_
              refine am_At.drop 7 ?_
              exact hx
            · intro hc40
              have hc40 : v34 = (M39 3 0 0) := hc40
              replace hyp := it_pos hc40 hyp
              refine am_aload_n dX4_passHour_146 rfl ?_
              refine am_iload dX4_passHour_147 rfl ?_
              obtain ⟨M41, hk41, hyp⟩ := bd_some hyp
              try dsimp only at hyp
              refine am_callV [_] dX4_passHour_149 ml_X4_108 vm_X8_leave (sh_39 g) rfl (fun _ => Nat.le_of_ble_eq_true rfl) (by omega) rfl (ef_X8_leave_40 (d := d + 1) (h := h) g hk41) rfl ?_
              change am_At _ _ _ 152 [_, _, _, _, _, _, _, _] [] _ _
              refine am_iinc dX4_passHour_152 rfl (am_ix _) ?_
              change am_At _ _ _ 155 [_, _, _, _, _, _, _, _] [] _ _
              refine am_goto (-128) 27 dX4_passHour_155 rfl ?_
              cases hyp
              refine am_At.drop 6 ?_
              refine am_At.drop 7 ?_
              exact hx
theorem ef_X4_passHour_40 {d : Nat} {h : am_H} (g : lay h) {x2 x3 : Int32} {M : Mem} {M' : Mem} (hyp : f_X4_passHour 40 x2 x3 M = some M') : am_Ev (d + 3) mX4_passHour [.inr (28, 0), .inr (39, 0), am_I x2, am_I x3] (am_hM h M) (.inl (none, am_hM h M')) := by
  unfold f_X4_passHour at hyp
  refine am_Ev.mk (by decide +kernel) rfl rfl (Nat.le_refl _) (Nat.le_refl _) ?_
  change am_At _ _ _ 0 [_, _, _, _, _, _, _, _] [] _ _
  refine am_aload_n dX4_passHour_0 rfl ?_
  refine am_aload_n dX4_passHour_1 rfl ?_
  refine am_iload_n dX4_passHour_2 rfl ?_
  refine am_callV [_, _] dX4_passHour_3 ml_X4_65 vm_X4_openBits (sh_28 g) rfl (fun _ => Nat.le_of_ble_eq_true rfl) (by omega) rfl (ef_X4_openBits_40 (d := d + 1) (h := h) g (x2 := x2) (M := M) rfl) rfl ?_
  change am_At _ _ _ 6 [_, _, _, _, _, _, _, _] [_] _ _
  refine am_iload_n dX4_passHour_6 rfl ?_
  refine am_iconst (-1) (v := (-1)) dX4_passHour_7 (by decide) ?_
  refine am_ixor dX4_passHour_8 ?_
  refine am_iand dX4_passHour_9 ?_
  refine am_istore dX4_passHour_10 (am_lb rfl) ?_
  change am_At _ _ _ 12 [_, _, _, _, _, _, _, _] [] _ _
  refine am_aload_n dX4_passHour_12 rfl ?_
  refine am_iload dX4_passHour_13 rfl ?_
  refine am_iload_n dX4_passHour_15 rfl ?_
  refine am_ixor dX4_passHour_16 ?_
  refine am_iload_n dX4_passHour_17 rfl ?_
  refine am_iconst (-1) (v := (-1)) dX4_passHour_18 (by decide) ?_
  refine am_ixor dX4_passHour_19 ?_
  refine am_iand dX4_passHour_20 ?_
  obtain ⟨M1, hk1, hyp⟩ := bd_some hyp
  try dsimp only at hyp
  refine am_callV [_] dX4_passHour_21 ml_X4_69 vm_X8_fine (sh_39 g) rfl (fun _ => Nat.le_of_ble_eq_true rfl) (by omega) rfl (ef_X8_fine_40 (d := d + 2) (h := h) g hk1) rfl ?_
  change am_At _ _ _ 24 [_, _, _, _, _, _, _, _] [] _ _
  refine am_iconst 0 (v := 0) dX4_passHour_24 (by decide) ?_
  refine am_istore dX4_passHour_25 (am_lb rfl) ?_
  change am_At _ _ _ 27 [_, _, _, _, _, _, _, _] [] _ _
  obtain ⟨M42, hw42, hyp⟩ := bd_some hyp
  refine am_At.drop 2 ?_
  refine am_At.drop 3 ?_
  try dsimp only at hyp
  refine eL_X4_passHour_27_40 (d := d) (h := h) g  FU ((0 : Int32), M1) M42 hw42 ?_
  change am_At _ _ _ 158 [_, _, _, _, _, _, _, _] [] _ _
  refine am_aload_n dX4_passHour_158 rfl ?_
  refine am_callV [] dX4_passHour_159 ml_X4_111 vm_X8_addHour (sh_39 g) rfl (fun _ => Nat.le_of_ble_eq_true rfl) (by omega) rfl (ef_X8_addHour_40 (d := d + 2) (h := h) g  (M := M42) rfl) rfl ?_
  change am_At _ _ _ 162 [_, _, _, _, _, _, _, _] [] _ _
  cases hyp
  exact am_vret dX4_passHour_162 rfl
theorem ef_X5_isRight_46 {d : Nat} {h : am_H} (g : lay h) (hN : h.2.2 45 1 = some 46 ∧ h.2.2 45 2 = some 47) {x1 x2 : Int32} {M : Mem} {v : Int32} (hyp : f_X5_isRight 46 47 x1 x2 M = some v) : am_Ev (d + 2) mX5_isRight [.inr (45, 0), am_I x1, am_I x2] (am_hM h M) (.inl (some (am_I v), am_hM h M)) := by
  unfold f_X5_isRight at hyp
  refine am_Ev.mk (by decide +kernel) rfl rfl (Nat.le_refl _) (Nat.le_refl _) ?_
  change am_At _ _ _ 0 [_, _, _] [] _ _
  refine am_aload_n dX5_isRight_0 rfl ?_
  refine am_getR 5 1 46 dX5_isRight_1 fg_X5_9 (sh_45 g) (by decide) rfl hN.1 ?_
  refine am_iload_n dX5_isRight_4 rfl ?_
  obtain ⟨hg1, hyp⟩ := gd_some hyp
  refine am_iald dX5_isRight_5 (am_ia.one (sh_46 g)) (am_lit hg1) ?_
  refine am_iconst (-1) (v := (-1)) dX5_isRight_6 (by decide) ?_
  refine am_icmp_eq (16) 23 dX5_isRight_7 rfl ?_ ?_
  · intro hc2
    have hc2 : (M 46 0 x1.toNatClampNeg) = (-1 : Int32) := hc2
    replace hyp := it_pos hc2 hyp
    refine am_iconst 1 (v := 1) dX5_isRight_23 (by decide) ?_
    refine am_goto (4) 28 dX5_isRight_24 rfl ?_
    cases hyp
    exact am_zret dX5_isRight_28 rfl rfl
  · intro hc2n
    have hc2n : ¬ ((M 46 0 x1.toNatClampNeg) = (-1 : Int32)) := hc2n
    replace hyp := it_neg hc2n hyp
    refine am_aload_n dX5_isRight_10 rfl ?_
    refine am_getR 5 1 46 dX5_isRight_11 fg_X5_9 (sh_45 g) (by decide) rfl hN.1 ?_
    refine am_iload_n dX5_isRight_14 rfl ?_
    refine am_iald dX5_isRight_15 (am_ia.one (sh_46 g)) (am_lit hg1) ?_
    refine am_iload_n dX5_isRight_16 rfl ?_
    obtain ⟨v3, hk3, hyp⟩ := bd_some hyp
    try dsimp only at hyp
    refine am_callS (c := 0) (k := 0) (n := 0) (w := 0) [_] dX5_isRight_17 ml_X5_81 sm_X5_scentOf rfl (fun _ => Nat.le_of_ble_eq_true rfl) (by omega) rfl (ef_X5_scentOf (d := d + 0) (h := am_hM h M) hk3) rfl ?_
    change am_At _ _ _ 20 [_, _, _] [_, _] _ _
    refine am_icmp_ne (7) 27 dX5_isRight_20 rfl ?_ ?_
    · intro hc4n
      have hc4n : ¬ ((M 46 0 x1.toNatClampNeg) = v3) := hc4n
      replace hyp := it_neg hc4n hyp
      refine am_iconst 0 (v := 0) dX5_isRight_27 (by decide) ?_
      cases hyp
      exact am_zret dX5_isRight_28 rfl rfl
    · intro hc4
      have hc4 : (M 46 0 x1.toNatClampNeg) = v3 := hc4
      replace hyp := it_pos hc4 hyp
      refine am_iconst 1 (v := 1) dX5_isRight_23 (by decide) ?_
      refine am_goto (4) 28 dX5_isRight_24 rfl ?_
      cases hyp
      exact am_zret dX5_isRight_28 rfl rfl
theorem ef_X5_isRight_47 {d : Nat} {h : am_H} (g : lay h) (hN : h.2.2 45 1 = some 47 ∧ h.2.2 45 2 = some 46) {x1 x2 : Int32} {M : Mem} {v : Int32} (hyp : f_X5_isRight 47 46 x1 x2 M = some v) : am_Ev (d + 2) mX5_isRight [.inr (45, 0), am_I x1, am_I x2] (am_hM h M) (.inl (some (am_I v), am_hM h M)) := by
  unfold f_X5_isRight at hyp
  refine am_Ev.mk (by decide +kernel) rfl rfl (Nat.le_refl _) (Nat.le_refl _) ?_
  change am_At _ _ _ 0 [_, _, _] [] _ _
  refine am_aload_n dX5_isRight_0 rfl ?_
  refine am_getR 5 1 47 dX5_isRight_1 fg_X5_9 (sh_45 g) (by decide) rfl hN.1 ?_
  refine am_iload_n dX5_isRight_4 rfl ?_
  obtain ⟨hg1, hyp⟩ := gd_some hyp
  refine am_iald dX5_isRight_5 (am_ia.one (sh_47 g)) (am_lit hg1) ?_
  refine am_iconst (-1) (v := (-1)) dX5_isRight_6 (by decide) ?_
  refine am_icmp_eq (16) 23 dX5_isRight_7 rfl ?_ ?_
  · intro hc2
    have hc2 : (M 47 0 x1.toNatClampNeg) = (-1 : Int32) := hc2
    replace hyp := it_pos hc2 hyp
    refine am_iconst 1 (v := 1) dX5_isRight_23 (by decide) ?_
    refine am_goto (4) 28 dX5_isRight_24 rfl ?_
    cases hyp
    exact am_zret dX5_isRight_28 rfl rfl
  · intro hc2n
    have hc2n : ¬ ((M 47 0 x1.toNatClampNeg) = (-1 : Int32)) := hc2n
    replace hyp := it_neg hc2n hyp
    refine am_aload_n dX5_isRight_10 rfl ?_
    refine am_getR 5 1 47 dX5_isRight_11 fg_X5_9 (sh_45 g) (by decide) rfl hN.1 ?_
    refine am_iload_n dX5_isRight_14 rfl ?_
    refine am_iald dX5_isRight_15 (am_ia.one (sh_47 g)) (am_lit hg1) ?_
    refine am_iload_n dX5_isRight_16 rfl ?_
    obtain ⟨v3, hk3, hyp⟩ := bd_some hyp
    try dsimp only at hyp
    refine am_callS (c := 0) (k := 0) (n := 0) (w := 0) [_] dX5_isRight_17 ml_X5_81 sm_X5_scentOf rfl (fun _ => Nat.le_of_ble_eq_true rfl) (by omega) rfl (ef_X5_scentOf (d := d + 0) (h := am_hM h M) hk3) rfl ?_
    change am_At _ _ _ 20 [_, _, _] [_, _] _ _
    refine am_icmp_ne (7) 27 dX5_isRight_20 rfl ?_ ?_
    · intro hc4n
      have hc4n : ¬ ((M 47 0 x1.toNatClampNeg) = v3) := hc4n
      replace hyp := it_neg hc4n hyp
      refine am_iconst 0 (v := 0) dX5_isRight_27 (by decide) ?_
      cases hyp
      exact am_zret dX5_isRight_28 rfl rfl
    · intro hc4
      have hc4 : (M 47 0 x1.toNatClampNeg) = v3 := hc4
      replace hyp := it_pos hc4 hyp
      refine am_iconst 1 (v := 1) dX5_isRight_23 (by decide) ?_
      refine am_goto (4) 28 dX5_isRight_24 rfl ?_
      cases hyp
      exact am_zret dX5_isRight_28 rfl rfl
theorem eL_X5_leastWindow_2 {d : Nat} {h : am_H} (g : lay h) {M : Mem} {r : am_R} (n : Nat) : ∀ (s : Int32) (e : (Int32) ⊕ (Unit)), wh (L_X5_leastWindow_2 M) n s = some e → (match e with | (Sum.inl x1) => am_At am_X0 (d + 1) mX5_leastWindow 37 [some (.inr (45, 0)), some (am_I (x1))] [] (am_hM h M) r | (Sum.inr _) => am_At am_X0 (d + 1) mX5_leastWindow 45 [some (.inr (45, 0)), none] [] (am_hM h M) r) → ((fun (x1 : Int32) => am_At am_X0 (d + 1) mX5_leastWindow 2 [some (.inr (45, 0)), some (am_I (x1))] [] (am_hM h M) r) s) := by
  refine am_wh (At := fun (s : Int32) => (fun (x1 : Int32) => am_At am_X0 (d + 1) mX5_leastWindow 2 [some (.inr (45, 0)), some (am_I (x1))] [] (am_hM h M) r) s) (Ex := fun (e : (Int32) ⊕ (Unit)) => match e with | (Sum.inl x1) => am_At am_X0 (d + 1) mX5_leastWindow 37 [some (.inr (45, 0)), some (am_I (x1))] [] (am_hM h M) r | (Sum.inr _) => am_At am_X0 (d + 1) mX5_leastWindow 45 [some (.inr (45, 0)), none] [] (am_hM h M) r) ?_ n
  rintro x1 y hyp hx
  unfold L_X5_leastWindow_2 at hyp
  try dsimp only at hyp
  change am_At _ _ _ 2 [_, _] [] _ _
  refine am_aload_n dX5_leastWindow_2 rfl ?_
  refine am_getR 5 0 3 dX5_leastWindow_3 fg_X5_27 (sh_45 g) (by decide) rfl (rf_45_0 g) ?_
  refine am_getI 1 0 dX5_leastWindow_6 fg_X5_57 (sh_3 g) (by decide) rfl ?_
  refine am_if_le (36) 45 dX5_leastWindow_9 rfl ?_ ?_
  · intro hc1
    have hc1 : (M 3 0 0) ≤ 0 := hc1
    replace hyp := it_pos hc1 hyp
    cases hyp
    refine am_At.drop 1 ?_
    exact hx
  · intro hc1n
    have hc1n : ¬ ((M 3 0 0) ≤ 0) := hc1n
    replace hyp := it_neg hc1n hyp
    refine am_iload_n dX5_leastWindow_12 rfl ?_
    refine am_aload_n dX5_leastWindow_13 rfl ?_
    refine am_callV [] dX5_leastWindow_14 ml_X5_77 vm_X5_windows (sh_45 g) rfl (fun _ => Nat.le_of_ble_eq_true rfl) (by omega) rfl (ef_X5_windows (d := d + 0) (h := h) g  (M := M) rfl) rfl ?_
    change am_At _ _ _ 17 [_, _] [_, _] _ _
    refine am_icmp_ge (28) 45 dX5_leastWindow_17 rfl ?_ ?_
    · intro hc2
      have hc2 : ((2 : Int32) <<< ((M 3 0 13) &&& 31)) ≤ x1 := hc2
      replace hyp := it_pos hc2 hyp
      cases hyp
      refine am_At.drop 1 ?_
      exact hx
    · intro hc2n
      have hc2n : ¬ (((2 : Int32) <<< ((M 3 0 13) &&& 31)) ≤ x1) := hc2n
      replace hyp := it_neg hc2n hyp
      refine am_aload_n dX5_leastWindow_20 rfl ?_
      refine am_aload_n dX5_leastWindow_21 rfl ?_
      refine am_getR 5 0 3 dX5_leastWindow_22 fg_X5_27 (sh_45 g) (by decide) rfl (rf_45_0 g) ?_
      refine am_getI 1 0 dX5_leastWindow_25 fg_X5_57 (sh_3 g) (by decide) rfl ?_
      refine am_iconst 1 (v := 1) dX5_leastWindow_28 (by decide) ?_
      refine am_isub dX5_leastWindow_29 ?_
      refine am_iload_n dX5_leastWindow_30 rfl ?_
      obtain ⟨v3, hk3, hyp⟩ := bd_some hyp
      try dsimp only at hyp
      refine am_callV [_, _] dX5_leastWindow_31 ml_X5_99 vm_X5_waysBy (sh_45 g) rfl (fun _ => Nat.le_of_ble_eq_true rfl) (by omega) rfl (ef_X5_waysBy (d := d + 0) (h := h) g hk3) rfl ?_
      change am_At _ _ _ 34 [_, _] [_] _ _
      refine am_if_le (5) 39 dX5_leastWindow_34 rfl ?_ ?_
      · intro hc4
        have hc4 : v3 ≤ 0 := hc4
        replace hyp := it_pos hc4 hyp
        refine am_iinc dX5_leastWindow_39 rfl (am_ix _) ?_
        change am_At _ _ _ 42 [_, _] [] _ _
        refine am_goto (-40) 2 dX5_leastWindow_42 rfl ?_
        cases hyp
        exact hx
      · intro hc4n
        have hc4n : ¬ (v3 ≤ 0) := hc4n
        replace hyp := it_neg hc4n hyp
        cases hyp
        exact hx
theorem ef_X5_leastWindow {d : Nat} {h : am_H} (g : lay h) {M : Mem} {v : Int32} (hyp : f_X5_leastWindow M = some v) : am_Ev (d + 1) mX5_leastWindow [.inr (45, 0)] (am_hM h M) (.inl (some (am_I v), am_hM h M)) := by
  unfold f_X5_leastWindow at hyp
  refine am_Ev.mk (by decide +kernel) rfl rfl (Nat.le_refl _) (Nat.le_refl _) ?_
  change am_At _ _ _ 0 [_, _] [] _ _
  refine am_iconst 0 (v := 0) dX5_leastWindow_0 (by decide) ?_
  refine am_istore_n dX5_leastWindow_1 (am_lb rfl) ?_
  change am_At _ _ _ 2 [_, _] [] _ _
  obtain ⟨e5, hw5, hyp⟩ := bd_some hyp
  rcases e5 with x1_5 | _
  · try dsimp only at hyp
    refine eL_X5_leastWindow_2 (d := d) (h := h) g (M := M) FU (0 : Int32) (Sum.inl x1_5) hw5 ?_
    change am_At _ _ _ 37 [_, _] [] _ _
    refine am_iload_n dX5_leastWindow_37 rfl ?_
    cases hyp
    exact am_iret dX5_leastWindow_38 rfl
  · try dsimp only at hyp
    refine eL_X5_leastWindow_2 (d := d) (h := h) g (M := M) FU (0 : Int32) (Sum.inr ()) hw5 ?_
    change am_At _ _ _ 45 [_, _] [] _ _
    refine am_iconst 0 (v := 0) dX5_leastWindow_45 (by decide) ?_
    cases hyp
    exact am_iret dX5_leastWindow_46 rfl
theorem eL_X5_mostLeftBy_12 {d : Nat} {h : am_H} (g : lay h) {x1 : Int32} {r : am_R} (n : Nat) : ∀ (s : Int32 × Int32 × Mem) (e : Int32 × Mem), wh (L_X5_mostLeftBy_12 x1) n s = some e → (match e with | (x2, M) => am_At am_X0 (d + 2) mX5_mostLeftBy 60 [some (.inr (45, 0)), some (am_I (x1)), some (am_I (x2)), none, none] [] (am_hM h M) r) → (match s with | (x2, x3, M) => am_At am_X0 (d + 2) mX5_mostLeftBy 12 [some (.inr (45, 0)), some (am_I (x1)), some (am_I (x2)), some (am_I (x3)), none] [] (am_hM h M) r) := by
  refine am_wh (At := fun (s : Int32 × Int32 × Mem) => match s with | (x2, x3, M) => am_At am_X0 (d + 2) mX5_mostLeftBy 12 [some (.inr (45, 0)), some (am_I (x1)), some (am_I (x2)), some (am_I (x3)), none] [] (am_hM h M) r) (Ex := fun (e : Int32 × Mem) => match e with | (x2, M) => am_At am_X0 (d + 2) mX5_mostLeftBy 60 [some (.inr (45, 0)), some (am_I (x1)), some (am_I (x2)), none, none] [] (am_hM h M) r) ?_ n
  rintro ⟨x2, x3, M⟩ y hyp hx
  unfold L_X5_mostLeftBy_12 at hyp
  try dsimp only at hyp
  change am_At _ _ _ 12 [_, _, _, _, _] [] _ _
  refine am_iload_n dX5_mostLeftBy_12 rfl ?_
  refine am_aload_n dX5_mostLeftBy_13 rfl ?_
  refine am_callV [] dX5_mostLeftBy_14 ml_X5_77 vm_X5_windows (sh_45 g) rfl (fun _ => Nat.le_of_ble_eq_true rfl) (by omega) rfl (ef_X5_windows (d := d + 1) (h := h) g  (M := M) rfl) rfl ?_
  change am_At _ _ _ 17 [_, _, _, _, _] [_, _] _ _
  refine am_icmp_ge (43) 60 dX5_mostLeftBy_17 rfl ?_ ?_
  · intro hc1
    have hc1 : ((2 : Int32) <<< ((M 3 0 13) &&& 31)) ≤ x3 := hc1
    replace hyp := it_pos hc1 hyp
    cases hyp
    refine am_At.drop 3 ?_
    exact hx
  · intro hc1n
    have hc1n : ¬ (((2 : Int32) <<< ((M 3 0 13) &&& 31)) ≤ x3) := hc1n
    replace hyp := it_neg hc1n hyp
    refine am_iload_n dX5_mostLeftBy_20 rfl ?_
    obtain ⟨v2, hk2, hyp⟩ := bd_some hyp
    try dsimp only at hyp
    refine am_callS (c := 0) (k := 0) (n := 0) (w := 0) [_] dX5_mostLeftBy_21 ml_X5_81 sm_X5_scentOf rfl (fun _ => Nat.le_of_ble_eq_true rfl) (by omega) rfl (ef_X5_scentOf (d := d + 0) (h := am_hM h M) hk2) rfl ?_
    change am_At _ _ _ 24 [_, _, _, _, _] [_] _ _
    refine am_istore dX5_mostLeftBy_24 (am_lb rfl) ?_
    change am_At _ _ _ 26 [_, _, _, _, _] [] _ _
    refine am_aload_n dX5_mostLeftBy_26 rfl ?_
    refine am_getR 5 6 50 dX5_mostLeftBy_27 fg_X5_24 (sh_45 g) (by decide) rfl (rf_45_6 g) ?_
    refine am_iload dX5_mostLeftBy_30 rfl ?_
    refine am_dup2 dX5_mostLeftBy_32 (fun _ => rfl) (fun _ => rfl) ?_
    obtain ⟨hg3, hyp⟩ := gd_some hyp
    refine am_iald dX5_mostLeftBy_33 (am_ia.one (sh_50 g)) (am_lit hg3) ?_
    refine am_aload_n dX5_mostLeftBy_34 rfl ?_
    refine am_iload_n dX5_mostLeftBy_35 rfl ?_
    refine am_iload_n dX5_mostLeftBy_36 rfl ?_
    obtain ⟨v4, hk4, hyp⟩ := bd_some hyp
    try dsimp only at hyp
    refine am_callV [_, _] dX5_mostLeftBy_37 ml_X5_99 vm_X5_waysBy (sh_45 g) rfl (fun _ => Nat.le_of_ble_eq_true rfl) (by omega) rfl (ef_X5_waysBy (d := d + 1) (h := h) g hk4) rfl ?_
    change am_At _ _ _ 40 [_, _, _, _, _] [_, _, _, _] _ _
    refine am_iadd dX5_mostLeftBy_40 ?_
    refine am_iast dX5_mostLeftBy_41 (am_ia.one (sh_50 g)) (am_lit hg3) ?_
    refine am_iload_n dX5_mostLeftBy_42 rfl ?_
    refine am_aload_n dX5_mostLeftBy_43 rfl ?_
    refine am_getR 5 6 50 dX5_mostLeftBy_44 fg_X5_24 (sh_45 g) (by decide) rfl (rf_45_6 g) ?_
    refine am_iload dX5_mostLeftBy_47 rfl ?_
    refine am_iald dX5_mostLeftBy_49 (am_ia.one (sh_50 g)) (am_lit hg3) ?_
    refine am_max dX5_mostLeftBy_50 ml_X5_117 (fun _ => Nat.le_of_ble_eq_true rfl) ?_
    refine am_istore_n dX5_mostLeftBy_53 (am_lb rfl) ?_
    change am_At _ _ _ 54 [_, _, _, _, _] [] _ _
    refine am_iinc dX5_mostLeftBy_54 rfl (am_ix _) ?_
    change am_At _ _ _ 57 [_, _, _, _, _] [] _ _
    refine am_goto (-45) 12 dX5_mostLeftBy_57 rfl ?_
    cases hyp
    refine am_At.drop 4 ?_
    exact hx
theorem ef_X5_mostLeftBy {d : Nat} {h : am_H} (g : lay h) {x1 : Int32} {M : Mem} {v : Int32} {M' : Mem} (hyp : f_X5_mostLeftBy x1 M = some (v, M')) : am_Ev (d + 2) mX5_mostLeftBy [.inr (45, 0), am_I x1] (am_hM h M) (.inl (some (am_I v), am_hM h M')) := by
  unfold f_X5_mostLeftBy at hyp
  refine am_Ev.mk (by decide +kernel) rfl rfl (Nat.le_refl _) (Nat.le_refl _) ?_
  change am_At _ _ _ 0 [_, _, _, _, _] [] _ _
  refine am_aload_n dX5_mostLeftBy_0 rfl ?_
  refine am_getR 5 6 50 dX5_mostLeftBy_1 fg_X5_24 (sh_45 g) (by decide) rfl (rf_45_6 g) ?_
  refine am_iconst 0 (v := 0) dX5_mostLeftBy_4 (by decide) ?_
  refine am_callS (c := 0) (k := 0) (n := 0) (w := 0) [_, _] dX5_mostLeftBy_5 ml_X5_34 sm_J7_fill_53178 rfl (fun _ => Nat.le_of_ble_eq_true rfl) (by omega) rfl (ev_fill (d := d + 1) (h := am_hM h M) (v := (0 : Int32)) (sh_50 g) (by decide)) rfl ?_
  change am_At _ _ _ 8 [_, _, _, _, _] [] _ _
  refine am_iconst 0 (v := 0) dX5_mostLeftBy_8 (by decide) ?_
  refine am_istore_n dX5_mostLeftBy_9 (am_lb rfl) ?_
  change am_At _ _ _ 10 [_, _, _, _, _] [] _ _
  refine am_iconst 0 (v := 0) dX5_mostLeftBy_10 (by decide) ?_
  refine am_istore_n dX5_mostLeftBy_11 (am_lb rfl) ?_
  change am_At _ _ _ 12 [_, _, _, _, _] [] _ _
  obtain ⟨⟨x2_5, M5⟩, hw5, hyp⟩ := bd_some hyp
  try dsimp only at hyp
  refine eL_X5_mostLeftBy_12 (d := d) (h := h) g  FU ((0 : Int32), (0 : Int32), (fillM M 50 16 (0 : Int32))) (x2_5, M5) hw5 ?_
  change am_At _ _ _ 60 [_, _, _, _, _] [] _ _
  refine am_iload_n dX5_mostLeftBy_60 rfl ?_
  cases hyp
  exact am_iret dX5_mostLeftBy_61 rfl
theorem ef_X5_readLine_46 {d : Nat} {h : am_H} (g : lay h) (hN : h.2.2 45 1 = some 46 ∧ h.2.2 45 2 = some 47) {x2 : Int32} {M : Mem} {M' : Mem} (hyp : f_X5_readLine 46 47 x2 M = some M') : am_Ev (d + 2) mX5_readLine [.inr (45, 0), .inr (1, 0), am_I x2] (am_hM h M) (.inl (none, am_hM h M')) := by
  unfold f_X5_readLine at hyp
  refine am_Ev.mk (by decide +kernel) rfl rfl (Nat.le_refl _) (Nat.le_refl _) ?_
  change am_At _ _ _ 0 [_, _, _, _, _] [] _ _
  refine am_aload_n dX5_readLine_0 rfl ?_
  refine am_iconst 0 (v := 0) dX5_readLine_1 (by decide) ?_
  refine am_aload_n dX5_readLine_2 rfl ?_
  refine am_getR 5 0 3 dX5_readLine_3 fg_X5_27 (sh_45 g) (by decide) rfl (rf_45_0 g) ?_
  refine am_getI 1 0 dX5_readLine_6 fg_X5_57 (sh_3 g) (by decide) rfl ?_
  refine am_iconst 1 (v := 1) dX5_readLine_9 (by decide) ?_
  refine am_isub dX5_readLine_10 ?_
  obtain ⟨⟨v1, M1⟩, hk1, hyp⟩ := bd_some hyp
  try dsimp only at hyp
  refine am_callV [_, _] dX5_readLine_11 ml_X5_62 vm_X10_number (sh_1 g) rfl (fun _ => Nat.le_of_ble_eq_true rfl) (by omega) rfl (ef_X10_number (d := d + 0) (h := h) g hk1) rfl ?_
  change am_At _ _ _ 14 [_, _, _, _, _] [_] _ _
  refine am_istore_n dX5_readLine_14 (am_lb rfl) ?_
  change am_At _ _ _ 15 [_, _, _, _, _] [] _ _
  refine am_iload_n dX5_readLine_15 rfl ?_
  refine am_iconst (-1) (v := (-1)) dX5_readLine_16 (by decide) ?_
  refine am_icmp_eq (18) 35 dX5_readLine_17 rfl ?_ ?_
  · intro hc2
    have hc2 : v1 = (-1 : Int32) := hc2
    replace hyp := it_pos hc2 hyp
    refine am_iload_n dX5_readLine_35 rfl ?_
    refine am_bipush 12 (v := 12) dX5_readLine_36 (by decide) ?_
    refine am_icmp_ne (8) 46 dX5_readLine_38 rfl ?_ ?_
    · intro hc3n
      have hc3n : ¬ (x2 = (12 : Int32)) := hc3n
      replace hyp := it_neg hc3n hyp
      refine am_aload_n dX5_readLine_46 rfl ?_
      refine am_iconst 0 (v := 0) dX5_readLine_47 (by decide) ?_
      refine am_bipush 99 (v := 99) dX5_readLine_48 (by decide) ?_
      obtain ⟨⟨v4, M4⟩, hk4, hyp⟩ := bd_some hyp
      try dsimp only at hyp
      refine am_callV [_, _] dX5_readLine_50 ml_X5_62 vm_X10_number (sh_1 g) rfl (fun _ => Nat.le_of_ble_eq_true rfl) (by omega) rfl (ef_X10_number (d := d + 0) (h := h) g hk4) rfl ?_
      change am_At _ _ _ 53 [_, _, _, _, _] [_] _ _
      refine am_istore dX5_readLine_53 (am_lb rfl) ?_
      change am_At _ _ _ 55 [_, _, _, _, _] [] _ _
      refine am_aload_n dX5_readLine_55 rfl ?_
      refine am_bipush 59 (v := 59) dX5_readLine_56 (by decide) ?_
      obtain ⟨M5, hk5, hyp⟩ := bd_some hyp
      try dsimp only at hyp
      refine am_callV [_] dX5_readLine_58 ml_X5_70 vm_X10_expect (sh_1 g) rfl (fun _ => Nat.le_of_ble_eq_true rfl) (by omega) rfl (ef_X10_expect (d := d + 0) (h := h) g hk5) rfl ?_
      change am_At _ _ _ 61 [_, _, _, _, _] [] _ _
      refine am_aload_n dX5_readLine_61 rfl ?_
      refine am_callV [] dX5_readLine_62 ml_X5_44 vm_X10_isFaulty (sh_1 g) rfl (fun _ => Nat.le_of_ble_eq_true rfl) (by omega) rfl (ef_X10_isFaulty (d := d + 1) (h := h) g  (M := M5) rfl) rfl ?_
      change am_At _ _ _ 65 [_, _, _, _, _] [_] _ _
      refine am_if_ne (11) 76 dX5_readLine_65 rfl ?_ ?_
      · intro hc6n
        have hc6n : ¬ ((f_X10_isFaulty M5) = 0) := hc6n
        replace hyp := it_neg hc6n hyp
        cases hyp
        exact am_vret dX5_readLine_76 rfl
      · intro hc6
        have hc6 : (f_X10_isFaulty M5) = 0 := hc6
        replace hyp := it_pos hc6 hyp
        refine am_aload_n dX5_readLine_68 rfl ?_
        refine am_getR 5 2 47 dX5_readLine_69 fg_X5_15 (sh_45 g) (by decide) rfl hN.2 ?_
        refine am_iload_n dX5_readLine_72 rfl ?_
        refine am_iload dX5_readLine_73 rfl ?_
        obtain ⟨hg7, hyp⟩ := gd_some hyp
        refine am_iast dX5_readLine_75 (am_ia.one (sh_47 g)) (am_lit hg7) ?_
        cases hyp
        exact am_vret dX5_readLine_76 rfl
    · intro hc3
      have hc3 : x2 = (12 : Int32) := hc3
      replace hyp := it_pos hc3 hyp
      refine am_aload_n dX5_readLine_41 rfl ?_
      refine am_iconst 3 (v := 3) dX5_readLine_42 (by decide) ?_
      refine am_callV [_] dX5_readLine_43 ml_X5_66 vm_X10_blameToken (sh_1 g) rfl (fun _ => Nat.le_of_ble_eq_true rfl) (by omega) rfl (ef_X10_blameToken (d := d + 0) (h := h) g (x1 := (3 : Int32)) (M := M1) rfl) rfl ?_
      change am_At _ _ _ 46 [_, _, _, _, _] [] _ _
      refine am_aload_n dX5_readLine_46 rfl ?_
      refine am_iconst 0 (v := 0) dX5_readLine_47 (by decide) ?_
      refine am_bipush 99 (v := 99) dX5_readLine_48 (by decide) ?_
      obtain ⟨⟨v8, M8⟩, hk8, hyp⟩ := bd_some hyp
      try dsimp only at hyp
      refine am_callV [_, _] dX5_readLine_50 ml_X5_62 vm_X10_number (sh_1 g) rfl (fun _ => Nat.le_of_ble_eq_true rfl) (by omega) rfl (ef_X10_number (d := d + 0) (h := h) g hk8) rfl ?_
      change am_At _ _ _ 53 [_, _, _, _, _] [_] _ _
      refine am_istore dX5_readLine_53 (am_lb rfl) ?_
      change am_At _ _ _ 55 [_, _, _, _, _] [] _ _
      refine am_aload_n dX5_readLine_55 rfl ?_
      refine am_bipush 59 (v := 59) dX5_readLine_56 (by decide) ?_
      obtain ⟨M9, hk9, hyp⟩ := bd_some hyp
      try dsimp only at hyp
      refine am_callV [_] dX5_readLine_58 ml_X5_70 vm_X10_expect (sh_1 g) rfl (fun _ => Nat.le_of_ble_eq_true rfl) (by omega) rfl (ef_X10_expect (d := d + 0) (h := h) g hk9) rfl ?_
      change am_At _ _ _ 61 [_, _, _, _, _] [] _ _
      refine am_aload_n dX5_readLine_61 rfl ?_
      refine am_callV [] dX5_readLine_62 ml_X5_44 vm_X10_isFaulty (sh_1 g) rfl (fun _ => Nat.le_of_ble_eq_true rfl) (by omega) rfl (ef_X10_isFaulty (d := d + 1) (h := h) g  (M := M9) rfl) rfl ?_
      change am_At _ _ _ 65 [_, _, _, _, _] [_] _ _
      refine am_if_ne (11) 76 dX5_readLine_65 rfl ?_ ?_
      · intro hc10n
        have hc10n : ¬ ((f_X10_isFaulty M9) = 0) := hc10n
        replace hyp := it_neg hc10n hyp
        cases hyp
        exact am_vret dX5_readLine_76 rfl
      · intro hc10
        have hc10 : (f_X10_isFaulty M9) = 0 := hc10
        replace hyp := it_pos hc10 hyp
        refine am_aload_n dX5_readLine_68 rfl ?_
        refine am_getR 5 2 47 dX5_readLine_69 fg_X5_15 (sh_45 g) (by decide) rfl hN.2 ?_
        refine am_iload_n dX5_readLine_72 rfl ?_
        refine am_iload dX5_readLine_73 rfl ?_
        obtain ⟨hg11, hyp⟩ := gd_some hyp
        refine am_iast dX5_readLine_75 (am_ia.one (sh_47 g)) (am_lit hg11) ?_
        cases hyp
        exact am_vret dX5_readLine_76 rfl
  · intro hc2n
    have hc2n : ¬ (v1 = (-1 : Int32)) := hc2n
    replace hyp := it_neg hc2n hyp
    refine am_aload_n dX5_readLine_20 rfl ?_
    refine am_getR 5 2 47 dX5_readLine_21 fg_X5_15 (sh_45 g) (by decide) rfl hN.2 ?_
    refine am_iload_n dX5_readLine_24 rfl ?_
    obtain ⟨hg12, hyp⟩ := gd_some hyp
    refine am_iald dX5_readLine_25 (am_ia.one (sh_47 g)) (am_lit hg12) ?_
    refine am_iconst (-1) (v := (-1)) dX5_readLine_26 (by decide) ?_
    refine am_icmp_eq (8) 35 dX5_readLine_27 rfl ?_ ?_
    · intro hc13
      have hc13 : (M1 47 0 v1.toNatClampNeg) = (-1 : Int32) := hc13
      replace hyp := it_pos hc13 hyp
      refine am_iload_n dX5_readLine_35 rfl ?_
      refine am_bipush 12 (v := 12) dX5_readLine_36 (by decide) ?_
      refine am_icmp_ne (8) 46 dX5_readLine_38 rfl ?_ ?_
      · intro hc14n
        have hc14n : ¬ (x2 = (12 : Int32)) := hc14n
        replace hyp := it_neg hc14n hyp
        refine am_aload_n dX5_readLine_46 rfl ?_
        refine am_iconst 0 (v := 0) dX5_readLine_47 (by decide) ?_
        refine am_bipush 99 (v := 99) dX5_readLine_48 (by decide) ?_
        obtain ⟨⟨v15, M15⟩, hk15, hyp⟩ := bd_some hyp
        try dsimp only at hyp
        refine am_callV [_, _] dX5_readLine_50 ml_X5_62 vm_X10_number (sh_1 g) rfl (fun _ => Nat.le_of_ble_eq_true rfl) (by omega) rfl (ef_X10_number (d := d + 0) (h := h) g hk15) rfl ?_
        change am_At _ _ _ 53 [_, _, _, _, _] [_] _ _
        refine am_istore dX5_readLine_53 (am_lb rfl) ?_
        change am_At _ _ _ 55 [_, _, _, _, _] [] _ _
        refine am_aload_n dX5_readLine_55 rfl ?_
        refine am_bipush 59 (v := 59) dX5_readLine_56 (by decide) ?_
        obtain ⟨M16, hk16, hyp⟩ := bd_some hyp
        try dsimp only at hyp
        refine am_callV [_] dX5_readLine_58 ml_X5_70 vm_X10_expect (sh_1 g) rfl (fun _ => Nat.le_of_ble_eq_true rfl) (by omega) rfl (ef_X10_expect (d := d + 0) (h := h) g hk16) rfl ?_
        change am_At _ _ _ 61 [_, _, _, _, _] [] _ _
        refine am_aload_n dX5_readLine_61 rfl ?_
        refine am_callV [] dX5_readLine_62 ml_X5_44 vm_X10_isFaulty (sh_1 g) rfl (fun _ => Nat.le_of_ble_eq_true rfl) (by omega) rfl (ef_X10_isFaulty (d := d + 1) (h := h) g  (M := M16) rfl) rfl ?_
        change am_At _ _ _ 65 [_, _, _, _, _] [_] _ _
        refine am_if_ne (11) 76 dX5_readLine_65 rfl ?_ ?_
        · intro hc17n
          have hc17n : ¬ ((f_X10_isFaulty M16) = 0) := hc17n
          replace hyp := it_neg hc17n hyp
          cases hyp
          exact am_vret dX5_readLine_76 rfl
        · intro hc17
          have hc17 : (f_X10_isFaulty M16) = 0 := hc17
          replace hyp := it_pos hc17 hyp
          refine am_aload_n dX5_readLine_68 rfl ?_
          refine am_getR 5 2 47 dX5_readLine_69 fg_X5_15 (sh_45 g) (by decide) rfl hN.2 ?_
          refine am_iload_n dX5_readLine_72 rfl ?_
          refine am_iload dX5_readLine_73 rfl ?_
          refine am_iast dX5_readLine_75 (am_ia.one (sh_47 g)) (am_lit hg12) ?_
          cases hyp
          exact am_vret dX5_readLine_76 rfl
      · intro hc14
        have hc14 : x2 = (12 : Int32) := hc14
        replace hyp := it_pos hc14 hyp
        refine am_aload_n dX5_readLine_41 rfl ?_
        refine am_iconst 3 (v := 3) dX5_readLine_42 (by decide) ?_
        refine am_callV [_] dX5_readLine_43 ml_X5_66 vm_X10_blameToken (sh_1 g) rfl (fun _ => Nat.le_of_ble_eq_true rfl) (by omega) rfl (ef_X10_blameToken (d := d + 0) (h := h) g (x1 := (3 : Int32)) (M := M1) rfl) rfl ?_
        change am_At _ _ _ 46 [_, _, _, _, _] [] _ _
        refine am_aload_n dX5_readLine_46 rfl ?_
        refine am_iconst 0 (v := 0) dX5_readLine_47 (by decide) ?_
        refine am_bipush 99 (v := 99) dX5_readLine_48 (by decide) ?_
        obtain ⟨⟨v18, M18⟩, hk18, hyp⟩ := bd_some hyp
        try dsimp only at hyp
        refine am_callV [_, _] dX5_readLine_50 ml_X5_62 vm_X10_number (sh_1 g) rfl (fun _ => Nat.le_of_ble_eq_true rfl) (by omega) rfl (ef_X10_number (d := d + 0) (h := h) g hk18) rfl ?_
        change am_At _ _ _ 53 [_, _, _, _, _] [_] _ _
        refine am_istore dX5_readLine_53 (am_lb rfl) ?_
        change am_At _ _ _ 55 [_, _, _, _, _] [] _ _
        refine am_aload_n dX5_readLine_55 rfl ?_
        refine am_bipush 59 (v := 59) dX5_readLine_56 (by decide) ?_
        obtain ⟨M19, hk19, hyp⟩ := bd_some hyp
        try dsimp only at hyp
        refine am_callV [_] dX5_readLine_58 ml_X5_70 vm_X10_expect (sh_1 g) rfl (fun _ => Nat.le_of_ble_eq_true rfl) (by omega) rfl (ef_X10_expect (d := d + 0) (h := h) g hk19) rfl ?_
        change am_At _ _ _ 61 [_, _, _, _, _] [] _ _
        refine am_aload_n dX5_readLine_61 rfl ?_
        refine am_callV [] dX5_readLine_62 ml_X5_44 vm_X10_isFaulty (sh_1 g) rfl (fun _ => Nat.le_of_ble_eq_true rfl) (by omega) rfl (ef_X10_isFaulty (d := d + 1) (h := h) g  (M := M19) rfl) rfl ?_
        change am_At _ _ _ 65 [_, _, _, _, _] [_] _ _
        refine am_if_ne (11) 76 dX5_readLine_65 rfl ?_ ?_
        · intro hc20n
          have hc20n : ¬ ((f_X10_isFaulty M19) = 0) := hc20n
          replace hyp := it_neg hc20n hyp
          cases hyp
          exact am_vret dX5_readLine_76 rfl
        · intro hc20
          have hc20 : (f_X10_isFaulty M19) = 0 := hc20
          replace hyp := it_pos hc20 hyp
          refine am_aload_n dX5_readLine_68 rfl ?_
          refine am_getR 5 2 47 dX5_readLine_69 fg_X5_15 (sh_45 g) (by decide) rfl hN.2 ?_
          refine am_iload_n dX5_readLine_72 rfl ?_
          refine am_iload dX5_readLine_73 rfl ?_
          refine am_iast dX5_readLine_75 (am_ia.one (sh_47 g)) (am_lit hg12) ?_
          cases hyp
          exact am_vret dX5_readLine_76 rfl
    · intro hc13n
      have hc13n : ¬ ((M1 47 0 v1.toNatClampNeg) = (-1 : Int32)) := hc13n
      replace hyp := it_neg hc13n hyp
      refine am_aload_n dX5_readLine_30 rfl ?_
      refine am_iconst 2 (v := 2) dX5_readLine_31 (by decide) ?_
      refine am_callV [_] dX5_readLine_32 ml_X5_66 vm_X10_blameToken (sh_1 g) rfl (fun _ => Nat.le_of_ble_eq_true rfl) (by omega) rfl (ef_X10_blameToken (d := d + 0) (h := h) g (x1 := (2 : Int32)) (M := M1) rfl) rfl ?_
      change am_At _ _ _ 35 [_, _, _, _, _] [] _ _
      refine am_iload_n dX5_readLine_35 rfl ?_
      refine am_bipush 12 (v := 12) dX5_readLine_36 (by decide) ?_
      refine am_icmp_ne (8) 46 dX5_readLine_38 rfl ?_ ?_
      · intro hc21n
        have hc21n : ¬ (x2 = (12 : Int32)) := hc21n
        replace hyp := it_neg hc21n hyp
        refine am_aload_n dX5_readLine_46 rfl ?_
        refine am_iconst 0 (v := 0) dX5_readLine_47 (by decide) ?_
        refine am_bipush 99 (v := 99) dX5_readLine_48 (by decide) ?_
        obtain ⟨⟨v22, M22⟩, hk22, hyp⟩ := bd_some hyp
        try dsimp only at hyp
        refine am_callV [_, _] dX5_readLine_50 ml_X5_62 vm_X10_number (sh_1 g) rfl (fun _ => Nat.le_of_ble_eq_true rfl) (by omega) rfl (ef_X10_number (d := d + 0) (h := h) g hk22) rfl ?_
        change am_At _ _ _ 53 [_, _, _, _, _] [_] _ _
        refine am_istore dX5_readLine_53 (am_lb rfl) ?_
        change am_At _ _ _ 55 [_, _, _, _, _] [] _ _
        refine am_aload_n dX5_readLine_55 rfl ?_
        refine am_bipush 59 (v := 59) dX5_readLine_56 (by decide) ?_
        obtain ⟨M23, hk23, hyp⟩ := bd_some hyp
        try dsimp only at hyp
        refine am_callV [_] dX5_readLine_58 ml_X5_70 vm_X10_expect (sh_1 g) rfl (fun _ => Nat.le_of_ble_eq_true rfl) (by omega) rfl (ef_X10_expect (d := d + 0) (h := h) g hk23) rfl ?_
        change am_At _ _ _ 61 [_, _, _, _, _] [] _ _
        refine am_aload_n dX5_readLine_61 rfl ?_
        refine am_callV [] dX5_readLine_62 ml_X5_44 vm_X10_isFaulty (sh_1 g) rfl (fun _ => Nat.le_of_ble_eq_true rfl) (by omega) rfl (ef_X10_isFaulty (d := d + 1) (h := h) g  (M := M23) rfl) rfl ?_
        change am_At _ _ _ 65 [_, _, _, _, _] [_] _ _
        refine am_if_ne (11) 76 dX5_readLine_65 rfl ?_ ?_
        · intro hc24n
          have hc24n : ¬ ((f_X10_isFaulty M23) = 0) := hc24n
          replace hyp := it_neg hc24n hyp
          cases hyp
          exact am_vret dX5_readLine_76 rfl
        · intro hc24
          have hc24 : (f_X10_isFaulty M23) = 0 := hc24
          replace hyp := it_pos hc24 hyp
          refine am_aload_n dX5_readLine_68 rfl ?_
          refine am_getR 5 2 47 dX5_readLine_69 fg_X5_15 (sh_45 g) (by decide) rfl hN.2 ?_
          refine am_iload_n dX5_readLine_72 rfl ?_
          refine am_iload dX5_readLine_73 rfl ?_
          refine am_iast dX5_readLine_75 (am_ia.one (sh_47 g)) (am_lit hg12) ?_
          cases hyp
          exact am_vret dX5_readLine_76 rfl
      · intro hc21
        have hc21 : x2 = (12 : Int32) := hc21
        replace hyp := it_pos hc21 hyp
        refine am_aload_n dX5_readLine_41 rfl ?_
        refine am_iconst 3 (v := 3) dX5_readLine_42 (by decide) ?_
        refine am_callV [_] dX5_readLine_43 ml_X5_66 vm_X10_blameToken (sh_1 g) rfl (fun _ => Nat.le_of_ble_eq_true rfl) (by omega) rfl (ef_X10_blameToken (d := d + 0) (h := h) g (x1 := (3 : Int32)) (M := (f_X10_blame (2 : Int32) (M1 1 0 4) M1)) rfl) rfl ?_
        change am_At _ _ _ 46 [_, _, _, _, _] [] _ _
        refine am_aload_n dX5_readLine_46 rfl ?_
        refine am_iconst 0 (v := 0) dX5_readLine_47 (by decide) ?_
        refine am_bipush 99 (v := 99) dX5_readLine_48 (by decide) ?_
        obtain ⟨⟨v25, M25⟩, hk25, hyp⟩ := bd_some hyp
        try dsimp only at hyp
        refine am_callV [_, _] dX5_readLine_50 ml_X5_62 vm_X10_number (sh_1 g) rfl (fun _ => Nat.le_of_ble_eq_true rfl) (by omega) rfl (ef_X10_number (d := d + 0) (h := h) g hk25) rfl ?_
        change am_At _ _ _ 53 [_, _, _, _, _] [_] _ _
        refine am_istore dX5_readLine_53 (am_lb rfl) ?_
        change am_At _ _ _ 55 [_, _, _, _, _] [] _ _
        refine am_aload_n dX5_readLine_55 rfl ?_
        refine am_bipush 59 (v := 59) dX5_readLine_56 (by decide) ?_
        obtain ⟨M26, hk26, hyp⟩ := bd_some hyp
        try dsimp only at hyp
        refine am_callV [_] dX5_readLine_58 ml_X5_70 vm_X10_expect (sh_1 g) rfl (fun _ => Nat.le_of_ble_eq_true rfl) (by omega) rfl (ef_X10_expect (d := d + 0) (h := h) g hk26) rfl ?_
        change am_At _ _ _ 61 [_, _, _, _, _] [] _ _
        refine am_aload_n dX5_readLine_61 rfl ?_
        refine am_callV [] dX5_readLine_62 ml_X5_44 vm_X10_isFaulty (sh_1 g) rfl (fun _ => Nat.le_of_ble_eq_true rfl) (by omega) rfl (ef_X10_isFaulty (d := d + 1) (h := h) g  (M := M26) rfl) rfl ?_
        change am_At _ _ _ 65 [_, _, _, _, _] [_] _ _
        refine am_if_ne (11) 76 dX5_readLine_65 rfl ?_ ?_
        · intro hc27n
          have hc27n : ¬ ((f_X10_isFaulty M26) = 0) := hc27n
          replace hyp := it_neg hc27n hyp
          cases hyp
          exact am_vret dX5_readLine_76 rfl
        · intro hc27
          have hc27 : (f_X10_isFaulty M26) = 0 := hc27
          replace hyp := it_pos hc27 hyp
          refine am_aload_n dX5_readLine_68 rfl ?_
          refine am_getR 5 2 47 dX5_readLine_69 fg_X5_15 (sh_45 g) (by decide) rfl hN.2 ?_
          refine am_iload_n dX5_readLine_72 rfl ?_
          refine am_iload dX5_readLine_73 rfl ?_
          refine am_iast dX5_readLine_75 (am_ia.one (sh_47 g)) (am_lit hg12) ?_
          cases hyp
          exact am_vret dX5_readLine_76 rfl
theorem ef_X5_readLine_47 {d : Nat} {h : am_H} (g : lay h) (hN : h.2.2 45 1 = some 47 ∧ h.2.2 45 2 = some 46) {x2 : Int32} {M : Mem} {M' : Mem} (hyp : f_X5_readLine 47 46 x2 M = some M') : am_Ev (d + 2) mX5_readLine [.inr (45, 0), .inr (1, 0), am_I x2] (am_hM h M) (.inl (none, am_hM h M')) := by
  unfold f_X5_readLine at hyp
  refine am_Ev.mk (by decide +kernel) rfl rfl (Nat.le_refl _) (Nat.le_refl _) ?_
  change am_At _ _ _ 0 [_, _, _, _, _] [] _ _
  refine am_aload_n dX5_readLine_0 rfl ?_
  refine am_iconst 0 (v := 0) dX5_readLine_1 (by decide) ?_
  refine am_aload_n dX5_readLine_2 rfl ?_
  refine am_getR 5 0 3 dX5_readLine_3 fg_X5_27 (sh_45 g) (by decide) rfl (rf_45_0 g) ?_
  refine am_getI 1 0 dX5_readLine_6 fg_X5_57 (sh_3 g) (by decide) rfl ?_
  refine am_iconst 1 (v := 1) dX5_readLine_9 (by decide) ?_
  refine am_isub dX5_readLine_10 ?_
  obtain ⟨⟨v1, M1⟩, hk1, hyp⟩ := bd_some hyp
  try dsimp only at hyp
  refine am_callV [_, _] dX5_readLine_11 ml_X5_62 vm_X10_number (sh_1 g) rfl (fun _ => Nat.le_of_ble_eq_true rfl) (by omega) rfl (ef_X10_number (d := d + 0) (h := h) g hk1) rfl ?_
  change am_At _ _ _ 14 [_, _, _, _, _] [_] _ _
  refine am_istore_n dX5_readLine_14 (am_lb rfl) ?_
  change am_At _ _ _ 15 [_, _, _, _, _] [] _ _
  refine am_iload_n dX5_readLine_15 rfl ?_
  refine am_iconst (-1) (v := (-1)) dX5_readLine_16 (by decide) ?_
  refine am_icmp_eq (18) 35 dX5_readLine_17 rfl ?_ ?_
  · intro hc2
    have hc2 : v1 = (-1 : Int32) := hc2
    replace hyp := it_pos hc2 hyp
    refine am_iload_n dX5_readLine_35 rfl ?_
    refine am_bipush 12 (v := 12) dX5_readLine_36 (by decide) ?_
    refine am_icmp_ne (8) 46 dX5_readLine_38 rfl ?_ ?_
    · intro hc3n
      have hc3n : ¬ (x2 = (12 : Int32)) := hc3n
      replace hyp := it_neg hc3n hyp
      refine am_aload_n dX5_readLine_46 rfl ?_
      refine am_iconst 0 (v := 0) dX5_readLine_47 (by decide) ?_
      refine am_bipush 99 (v := 99) dX5_readLine_48 (by decide) ?_
      obtain ⟨⟨v4, M4⟩, hk4, hyp⟩ := bd_some hyp
      try dsimp only at hyp
      refine am_callV [_, _] dX5_readLine_50 ml_X5_62 vm_X10_number (sh_1 g) rfl (fun _ => Nat.le_of_ble_eq_true rfl) (by omega) rfl (ef_X10_number (d := d + 0) (h := h) g hk4) rfl ?_
      change am_At _ _ _ 53 [_, _, _, _, _] [_] _ _
      refine am_istore dX5_readLine_53 (am_lb rfl) ?_
      change am_At _ _ _ 55 [_, _, _, _, _] [] _ _
      refine am_aload_n dX5_readLine_55 rfl ?_
      refine am_bipush 59 (v := 59) dX5_readLine_56 (by decide) ?_
      obtain ⟨M5, hk5, hyp⟩ := bd_some hyp
      try dsimp only at hyp
      refine am_callV [_] dX5_readLine_58 ml_X5_70 vm_X10_expect (sh_1 g) rfl (fun _ => Nat.le_of_ble_eq_true rfl) (by omega) rfl (ef_X10_expect (d := d + 0) (h := h) g hk5) rfl ?_
      change am_At _ _ _ 61 [_, _, _, _, _] [] _ _
      refine am_aload_n dX5_readLine_61 rfl ?_
      refine am_callV [] dX5_readLine_62 ml_X5_44 vm_X10_isFaulty (sh_1 g) rfl (fun _ => Nat.le_of_ble_eq_true rfl) (by omega) rfl (ef_X10_isFaulty (d := d + 1) (h := h) g  (M := M5) rfl) rfl ?_
      change am_At _ _ _ 65 [_, _, _, _, _] [_] _ _
      refine am_if_ne (11) 76 dX5_readLine_65 rfl ?_ ?_
      · intro hc6n
        have hc6n : ¬ ((f_X10_isFaulty M5) = 0) := hc6n
        replace hyp := it_neg hc6n hyp
        cases hyp
        exact am_vret dX5_readLine_76 rfl
      · intro hc6
        have hc6 : (f_X10_isFaulty M5) = 0 := hc6
        replace hyp := it_pos hc6 hyp
        refine am_aload_n dX5_readLine_68 rfl ?_
        refine am_getR 5 2 46 dX5_readLine_69 fg_X5_15 (sh_45 g) (by decide) rfl hN.2 ?_
        refine am_iload_n dX5_readLine_72 rfl ?_
        refine am_iload dX5_readLine_73 rfl ?_
        obtain ⟨hg7, hyp⟩ := gd_some hyp
        refine am_iast dX5_readLine_75 (am_ia.one (sh_46 g)) (am_lit hg7) ?_
        cases hyp
        exact am_vret dX5_readLine_76 rfl
    · intro hc3
      have hc3 : x2 = (12 : Int32) := hc3
      replace hyp := it_pos hc3 hyp
      refine am_aload_n dX5_readLine_41 rfl ?_
      refine am_iconst 3 (v := 3) dX5_readLine_42 (by decide) ?_
      refine am_callV [_] dX5_readLine_43 ml_X5_66 vm_X10_blameToken (sh_1 g) rfl (fun _ => Nat.le_of_ble_eq_true rfl) (by omega) rfl (ef_X10_blameToken (d := d + 0) (h := h) g (x1 := (3 : Int32)) (M := M1) rfl) rfl ?_
      change am_At _ _ _ 46 [_, _, _, _, _] [] _ _
      refine am_aload_n dX5_readLine_46 rfl ?_
      refine am_iconst 0 (v := 0) dX5_readLine_47 (by decide) ?_
      refine am_bipush 99 (v := 99) dX5_readLine_48 (by decide) ?_
      obtain ⟨⟨v8, M8⟩, hk8, hyp⟩ := bd_some hyp
      try dsimp only at hyp
      refine am_callV [_, _] dX5_readLine_50 ml_X5_62 vm_X10_number (sh_1 g) rfl (fun _ => Nat.le_of_ble_eq_true rfl) (by omega) rfl (ef_X10_number (d := d + 0) (h := h) g hk8) rfl ?_
      change am_At _ _ _ 53 [_, _, _, _, _] [_] _ _
      refine am_istore dX5_readLine_53 (am_lb rfl) ?_
      change am_At _ _ _ 55 [_, _, _, _, _] [] _ _
      refine am_aload_n dX5_readLine_55 rfl ?_
      refine am_bipush 59 (v := 59) dX5_readLine_56 (by decide) ?_
      obtain ⟨M9, hk9, hyp⟩ := bd_some hyp
      try dsimp only at hyp
      refine am_callV [_] dX5_readLine_58 ml_X5_70 vm_X10_expect (sh_1 g) rfl (fun _ => Nat.le_of_ble_eq_true rfl) (by omega) rfl (ef_X10_expect (d := d + 0) (h := h) g hk9) rfl ?_
      change am_At _ _ _ 61 [_, _, _, _, _] [] _ _
      refine am_aload_n dX5_readLine_61 rfl ?_
      refine am_callV [] dX5_readLine_62 ml_X5_44 vm_X10_isFaulty (sh_1 g) rfl (fun _ => Nat.le_of_ble_eq_true rfl) (by omega) rfl (ef_X10_isFaulty (d := d + 1) (h := h) g  (M := M9) rfl) rfl ?_
      change am_At _ _ _ 65 [_, _, _, _, _] [_] _ _
      refine am_if_ne (11) 76 dX5_readLine_65 rfl ?_ ?_
      · intro hc10n
        have hc10n : ¬ ((f_X10_isFaulty M9) = 0) := hc10n
        replace hyp := it_neg hc10n hyp
        cases hyp
        exact am_vret dX5_readLine_76 rfl
      · intro hc10
        have hc10 : (f_X10_isFaulty M9) = 0 := hc10
        replace hyp := it_pos hc10 hyp
        refine am_aload_n dX5_readLine_68 rfl ?_
        refine am_getR 5 2 46 dX5_readLine_69 fg_X5_15 (sh_45 g) (by decide) rfl hN.2 ?_
        refine am_iload_n dX5_readLine_72 rfl ?_
        refine am_iload dX5_readLine_73 rfl ?_
        obtain ⟨hg11, hyp⟩ := gd_some hyp
        refine am_iast dX5_readLine_75 (am_ia.one (sh_46 g)) (am_lit hg11) ?_
        cases hyp
        exact am_vret dX5_readLine_76 rfl
  · intro hc2n
    have hc2n : ¬ (v1 = (-1 : Int32)) := hc2n
    replace hyp := it_neg hc2n hyp
    refine am_aload_n dX5_readLine_20 rfl ?_
    refine am_getR 5 2 46 dX5_readLine_21 fg_X5_15 (sh_45 g) (by decide) rfl hN.2 ?_
    refine am_iload_n dX5_readLine_24 rfl ?_
    obtain ⟨hg12, hyp⟩ := gd_some hyp
    refine am_iald dX5_readLine_25 (am_ia.one (sh_46 g)) (am_lit hg12) ?_
    refine am_iconst (-1) (v := (-1)) dX5_readLine_26 (by decide) ?_
    refine am_icmp_eq (8) 35 dX5_readLine_27 rfl ?_ ?_
    · intro hc13
      have hc13 : (M1 46 0 v1.toNatClampNeg) = (-1 : Int32) := hc13
      replace hyp := it_pos hc13 hyp
      refine am_iload_n dX5_readLine_35 rfl ?_
      refine am_bipush 12 (v := 12) dX5_readLine_36 (by decide) ?_
      refine am_icmp_ne (8) 46 dX5_readLine_38 rfl ?_ ?_
      · intro hc14n
        have hc14n : ¬ (x2 = (12 : Int32)) := hc14n
        replace hyp := it_neg hc14n hyp
        refine am_aload_n dX5_readLine_46 rfl ?_
        refine am_iconst 0 (v := 0) dX5_readLine_47 (by decide) ?_
        refine am_bipush 99 (v := 99) dX5_readLine_48 (by decide) ?_
        obtain ⟨⟨v15, M15⟩, hk15, hyp⟩ := bd_some hyp
        try dsimp only at hyp
        refine am_callV [_, _] dX5_readLine_50 ml_X5_62 vm_X10_number (sh_1 g) rfl (fun _ => Nat.le_of_ble_eq_true rfl) (by omega) rfl (ef_X10_number (d := d + 0) (h := h) g hk15) rfl ?_
        change am_At _ _ _ 53 [_, _, _, _, _] [_] _ _
        refine am_istore dX5_readLine_53 (am_lb rfl) ?_
        change am_At _ _ _ 55 [_, _, _, _, _] [] _ _
        refine am_aload_n dX5_readLine_55 rfl ?_
        refine am_bipush 59 (v := 59) dX5_readLine_56 (by decide) ?_
        obtain ⟨M16, hk16, hyp⟩ := bd_some hyp
        try dsimp only at hyp
        refine am_callV [_] dX5_readLine_58 ml_X5_70 vm_X10_expect (sh_1 g) rfl (fun _ => Nat.le_of_ble_eq_true rfl) (by omega) rfl (ef_X10_expect (d := d + 0) (h := h) g hk16) rfl ?_
        change am_At _ _ _ 61 [_, _, _, _, _] [] _ _
        refine am_aload_n dX5_readLine_61 rfl ?_
        refine am_callV [] dX5_readLine_62 ml_X5_44 vm_X10_isFaulty (sh_1 g) rfl (fun _ => Nat.le_of_ble_eq_true rfl) (by omega) rfl (ef_X10_isFaulty (d := d + 1) (h := h) g  (M := M16) rfl) rfl ?_
        change am_At _ _ _ 65 [_, _, _, _, _] [_] _ _
        refine am_if_ne (11) 76 dX5_readLine_65 rfl ?_ ?_
        · intro hc17n
          have hc17n : ¬ ((f_X10_isFaulty M16) = 0) := hc17n
          replace hyp := it_neg hc17n hyp
          cases hyp
          exact am_vret dX5_readLine_76 rfl
        · intro hc17
          have hc17 : (f_X10_isFaulty M16) = 0 := hc17
          replace hyp := it_pos hc17 hyp
          refine am_aload_n dX5_readLine_68 rfl ?_
          refine am_getR 5 2 46 dX5_readLine_69 fg_X5_15 (sh_45 g) (by decide) rfl hN.2 ?_
          refine am_iload_n dX5_readLine_72 rfl ?_
          refine am_iload dX5_readLine_73 rfl ?_
          refine am_iast dX5_readLine_75 (am_ia.one (sh_46 g)) (am_lit hg12) ?_
          cases hyp
          exact am_vret dX5_readLine_76 rfl
      · intro hc14
        have hc14 : x2 = (12 : Int32) := hc14
        replace hyp := it_pos hc14 hyp
        refine am_aload_n dX5_readLine_41 rfl ?_
        refine am_iconst 3 (v := 3) dX5_readLine_42 (by decide) ?_
        refine am_callV [_] dX5_readLine_43 ml_X5_66 vm_X10_blameToken (sh_1 g) rfl (fun _ => Nat.le_of_ble_eq_true rfl) (by omega) rfl (ef_X10_blameToken (d := d + 0) (h := h) g (x1 := (3 : Int32)) (M := M1) rfl) rfl ?_
        change am_At _ _ _ 46 [_, _, _, _, _] [] _ _
        refine am_aload_n dX5_readLine_46 rfl ?_
        refine am_iconst 0 (v := 0) dX5_readLine_47 (by decide) ?_
        refine am_bipush 99 (v := 99) dX5_readLine_48 (by decide) ?_
        obtain ⟨⟨v18, M18⟩, hk18, hyp⟩ := bd_some hyp
        try dsimp only at hyp
        refine am_callV [_, _] dX5_readLine_50 ml_X5_62 vm_X10_number (sh_1 g) rfl (fun _ => Nat.le_of_ble_eq_true rfl) (by omega) rfl (ef_X10_number (d := d + 0) (h := h) g hk18) rfl ?_
        change am_At _ _ _ 53 [_, _, _, _, _] [_] _ _
        refine am_istore dX5_readLine_53 (am_lb rfl) ?_
        change am_At _ _ _ 55 [_, _, _, _, _] [] _ _
        refine am_aload_n dX5_readLine_55 rfl ?_
        refine am_bipush 59 (v := 59) dX5_readLine_56 (by decide) ?_
        obtain ⟨M19, hk19, hyp⟩ := bd_some hyp
        try dsimp only at hyp
        refine am_callV [_] dX5_readLine_58 ml_X5_70 vm_X10_expect (sh_1 g) rfl (fun _ => Nat.le_of_ble_eq_true rfl) (by omega) rfl (ef_X10_expect (d := d + 0) (h := h) g hk19) rfl ?_
        change am_At _ _ _ 61 [_, _, _, _, _] [] _ _
        refine am_aload_n dX5_readLine_61 rfl ?_
        refine am_callV [] dX5_readLine_62 ml_X5_44 vm_X10_isFaulty (sh_1 g) rfl (fun _ => Nat.le_of_ble_eq_true rfl) (by omega) rfl (ef_X10_isFaulty (d := d + 1) (h := h) g  (M := M19) rfl) rfl ?_
        change am_At _ _ _ 65 [_, _, _, _, _] [_] _ _
        refine am_if_ne (11) 76 dX5_readLine_65 rfl ?_ ?_
        · intro hc20n
          have hc20n : ¬ ((f_X10_isFaulty M19) = 0) := hc20n
          replace hyp := it_neg hc20n hyp
          cases hyp
          exact am_vret dX5_readLine_76 rfl
        · intro hc20
          have hc20 : (f_X10_isFaulty M19) = 0 := hc20
          replace hyp := it_pos hc20 hyp
          refine am_aload_n dX5_readLine_68 rfl ?_
          refine am_getR 5 2 46 dX5_readLine_69 fg_X5_15 (sh_45 g) (by decide) rfl hN.2 ?_
          refine am_iload_n dX5_readLine_72 rfl ?_
          refine am_iload dX5_readLine_73 rfl ?_
          refine am_iast dX5_readLine_75 (am_ia.one (sh_46 g)) (am_lit hg12) ?_
          cases hyp
          exact am_vret dX5_readLine_76 rfl
    · intro hc13n
      have hc13n : ¬ ((M1 46 0 v1.toNatClampNeg) = (-1 : Int32)) := hc13n
      replace hyp := it_neg hc13n hyp
      refine am_aload_n dX5_readLine_30 rfl ?_
      refine am_iconst 2 (v := 2) dX5_readLine_31 (by decide) ?_
      refine am_callV [_] dX5_readLine_32 ml_X5_66 vm_X10_blameToken (sh_1 g) rfl (fun _ => Nat.le_of_ble_eq_true rfl) (by omega) rfl (ef_X10_blameToken (d := d + 0) (h := h) g (x1 := (2 : Int32)) (M := M1) rfl) rfl ?_
      change am_At _ _ _ 35 [_, _, _, _, _] [] _ _
      refine am_iload_n dX5_readLine_35 rfl ?_
      refine am_bipush 12 (v := 12) dX5_readLine_36 (by decide) ?_
      refine am_icmp_ne (8) 46 dX5_readLine_38 rfl ?_ ?_
      · intro hc21n
        have hc21n : ¬ (x2 = (12 : Int32)) := hc21n
        replace hyp := it_neg hc21n hyp
        refine am_aload_n dX5_readLine_46 rfl ?_
        refine am_iconst 0 (v := 0) dX5_readLine_47 (by decide) ?_
        refine am_bipush 99 (v := 99) dX5_readLine_48 (by decide) ?_
        obtain ⟨⟨v22, M22⟩, hk22, hyp⟩ := bd_some hyp
        try dsimp only at hyp
        refine am_callV [_, _] dX5_readLine_50 ml_X5_62 vm_X10_number (sh_1 g) rfl (fun _ => Nat.le_of_ble_eq_true rfl) (by omega) rfl (ef_X10_number (d := d + 0) (h := h) g hk22) rfl ?_
        change am_At _ _ _ 53 [_, _, _, _, _] [_] _ _
        refine am_istore dX5_readLine_53 (am_lb rfl) ?_
        change am_At _ _ _ 55 [_, _, _, _, _] [] _ _
        refine am_aload_n dX5_readLine_55 rfl ?_
        refine am_bipush 59 (v := 59) dX5_readLine_56 (by decide) ?_
        obtain ⟨M23, hk23, hyp⟩ := bd_some hyp
        try dsimp only at hyp
        refine am_callV [_] dX5_readLine_58 ml_X5_70 vm_X10_expect (sh_1 g) rfl (fun _ => Nat.le_of_ble_eq_true rfl) (by omega) rfl (ef_X10_expect (d := d + 0) (h := h) g hk23) rfl ?_
        change am_At _ _ _ 61 [_, _, _, _, _] [] _ _
        refine am_aload_n dX5_readLine_61 rfl ?_
        refine am_callV [] dX5_readLine_62 ml_X5_44 vm_X10_isFaulty (sh_1 g) rfl (fun _ => Nat.le_of_ble_eq_true rfl) (by omega) rfl (ef_X10_isFaulty (d := d + 1) (h := h) g  (M := M23) rfl) rfl ?_
        change am_At _ _ _ 65 [_, _, _, _, _] [_] _ _
        refine am_if_ne (11) 76 dX5_readLine_65 rfl ?_ ?_
        · intro hc24n
          have hc24n : ¬ ((f_X10_isFaulty M23) = 0) := hc24n
          replace hyp := it_neg hc24n hyp
          cases hyp
          exact am_vret dX5_readLine_76 rfl
        · intro hc24
          have hc24 : (f_X10_isFaulty M23) = 0 := hc24
          replace hyp := it_pos hc24 hyp
          refine am_aload_n dX5_readLine_68 rfl ?_
          refine am_getR 5 2 46 dX5_readLine_69 fg_X5_15 (sh_45 g) (by decide) rfl hN.2 ?_
          refine am_iload_n dX5_readLine_72 rfl ?_
          refine am_iload dX5_readLine_73 rfl ?_
          refine am_iast dX5_readLine_75 (am_ia.one (sh_46 g)) (am_lit hg12) ?_
          cases hyp
          exact am_vret dX5_readLine_76 rfl
      · intro hc21
        have hc21 : x2 = (12 : Int32) := hc21
        replace hyp := it_pos hc21 hyp
        refine am_aload_n dX5_readLine_41 rfl ?_
        refine am_iconst 3 (v := 3) dX5_readLine_42 (by decide) ?_
        refine am_callV [_] dX5_readLine_43 ml_X5_66 vm_X10_blameToken (sh_1 g) rfl (fun _ => Nat.le_of_ble_eq_true rfl) (by omega) rfl (ef_X10_blameToken (d := d + 0) (h := h) g (x1 := (3 : Int32)) (M := (f_X10_blame (2 : Int32) (M1 1 0 4) M1)) rfl) rfl ?_
        change am_At _ _ _ 46 [_, _, _, _, _] [] _ _
        refine am_aload_n dX5_readLine_46 rfl ?_
        refine am_iconst 0 (v := 0) dX5_readLine_47 (by decide) ?_
        refine am_bipush 99 (v := 99) dX5_readLine_48 (by decide) ?_
        obtain ⟨⟨v25, M25⟩, hk25, hyp⟩ := bd_some hyp
        try dsimp only at hyp
        refine am_callV [_, _] dX5_readLine_50 ml_X5_62 vm_X10_number (sh_1 g) rfl (fun _ => Nat.le_of_ble_eq_true rfl) (by omega) rfl (ef_X10_number (d := d + 0) (h := h) g hk25) rfl ?_
        change am_At _ _ _ 53 [_, _, _, _, _] [_] _ _
        refine am_istore dX5_readLine_53 (am_lb rfl) ?_
        change am_At _ _ _ 55 [_, _, _, _, _] [] _ _
        refine am_aload_n dX5_readLine_55 rfl ?_
        refine am_bipush 59 (v := 59) dX5_readLine_56 (by decide) ?_
        obtain ⟨M26, hk26, hyp⟩ := bd_some hyp
        try dsimp only at hyp
        refine am_callV [_] dX5_readLine_58 ml_X5_70 vm_X10_expect (sh_1 g) rfl (fun _ => Nat.le_of_ble_eq_true rfl) (by omega) rfl (ef_X10_expect (d := d + 0) (h := h) g hk26) rfl ?_
        change am_At _ _ _ 61 [_, _, _, _, _] [] _ _
        refine am_aload_n dX5_readLine_61 rfl ?_
        refine am_callV [] dX5_readLine_62 ml_X5_44 vm_X10_isFaulty (sh_1 g) rfl (fun _ => Nat.le_of_ble_eq_true rfl) (by omega) rfl (ef_X10_isFaulty (d := d + 1) (h := h) g  (M := M26) rfl) rfl ?_
        change am_At _ _ _ 65 [_, _, _, _, _] [_] _ _
        refine am_if_ne (11) 76 dX5_readLine_65 rfl ?_ ?_
        · intro hc27n
          have hc27n : ¬ ((f_X10_isFaulty M26) = 0) := hc27n
          replace hyp := it_neg hc27n hyp
          cases hyp
          exact am_vret dX5_readLine_76 rfl
        · intro hc27
          have hc27 : (f_X10_isFaulty M26) = 0 := hc27
          replace hyp := it_pos hc27 hyp
          refine am_aload_n dX5_readLine_68 rfl ?_
          refine am_getR 5 2 46 dX5_readLine_69 fg_X5_15 (sh_45 g) (by decide) rfl hN.2 ?_
          refine am_iload_n dX5_readLine_72 rfl ?_
          refine am_iload dX5_readLine_73 rfl ?_
          refine am_iast dX5_readLine_75 (am_ia.one (sh_46 g)) (am_lit hg12) ?_
          cases hyp
          exact am_vret dX5_readLine_76 rfl
