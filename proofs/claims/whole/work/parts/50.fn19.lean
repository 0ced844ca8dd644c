theorem eL_X12_hold_47 {d : Nat} {h : am_H} (g : lay h) {x1 x2 x3 : Int32} {r : am_R} (n : Nat) : ∀ (s : Int32 × Mem) (e : Mem), wh (L_X12_hold_47 x2) n s = some e → ((fun (M : Mem) => am_At am_X0 (d + 8) mX12_hold 67 [some (.inr (54, 0)), some (am_I (x1)), some (am_I (x2)), some (am_I (x3)), none] [] (am_hM h M) r) e) → (match s with | (x4, M) => am_At am_X0 (d + 8) mX12_hold 47 [some (.inr (54, 0)), some (am_I (x1)), some (am_I (x2)), some (am_I (x3)), some (am_I (x4))] [] (am_hM h M) r) := by
  refine am_wh (At := fun (s : Int32 × Mem) => match s with | (x4, M) => am_At am_X0 (d + 8) mX12_hold 47 [some (.inr (54, 0)), some (am_I (x1)), some (am_I (x2)), some (am_I (x3)), some (am_I (x4))] [] (am_hM h M) r) (Ex := fun (e : Mem) => (fun (M : Mem) => am_At am_X0 (d + 8) mX12_hold 67 [some (.inr (54, 0)), some (am_I (x1)), some (am_I (x2)), some (am_I (x3)), none] [] (am_hM h M) r) e) ?_ n
  rintro ⟨x4, M⟩ y hyp hx
  unfold L_X12_hold_47 at hyp
  try dsimp only at hyp
  change am_At _ _ _ 47 [_, _, _, _, _] [] _ _
  refine am_iload dX12_hold_47 rfl ?_
  refine am_iload_n dX12_hold_49 rfl ?_
  refine am_icmp_ge (17) 67 dX12_hold_50 rfl ?_ ?_
  · intro hc5
    have hc5 : x2 ≤ x4 := hc5
    replace hyp := it_pos hc5 hyp
    cases hyp
    refine am_At.drop 4 ?_
    exact hx
  · intro hc5n
    have hc5n : ¬ (x2 ≤ x4) := hc5n
    replace hyp := it_neg hc5n hyp
    refine am_aload_n dX12_hold_53 rfl ?_
    refine am_aload_n dX12_hold_54 rfl ?_
    refine am_getR 12 30 73 dX12_hold_55 fg_X12_70 (sh_54 g) (by decide) rfl (rf_54_30 g) ?_
    obtain ⟨M6, hk6, hyp⟩ := bd_some hyp
    try dsimp only at hyp
    refine am_callV [_] dX12_hold_58 ml_X12_297 vm_X12_hourEnds (sh_54 g) rfl (fun _ => Nat.le_of_ble_eq_true rfl) (by omega) rfl (ef_X12_hourEnds_73 (d := d + 0) (h := h) g hk6) rfl ?_
    change am_At _ _ _ 61 [_, _, _, _, _] [] _ _
    refine am_iinc dX12_hold_61 rfl (am_ix _) ?_
    change am_At _ _ _ 64 [_, _, _, _, _] [] _ _
    refine am_goto (-17) 47 dX12_hold_64 rfl ?_
    cases hyp
    exact hx
theorem eL_X12_hold_70 {d : Nat} {h : am_H} (g : lay h) {x1 : Int32} {r : am_R} (n : Nat) : ∀ (s : Int32 × Int32 × Mem) (e : Int32 × Mem), wh (L_X12_hold_70 x1) n s = some e → (match e with | (x3, M) => am_At am_X0 (d + 8) mX12_hold 149 [some (.inr (54, 0)), some (am_I (x1)), none, some (am_I (x3)), none] [] (am_hM h M) r) → (match s with | (x3, x4, M) => am_At am_X0 (d + 8) mX12_hold 70 [some (.inr (54, 0)), some (am_I (x1)), none, some (am_I (x3)), some (am_I (x4))] [] (am_hM h M) r) := by
  refine am_wh (At := fun (s : Int32 × Int32 × Mem) => match s with | (x3, x4, M) => am_At am_X0 (d + 8) mX12_hold 70 [some (.inr (54, 0)), some (am_I (x1)), none, some (am_I (x3)), some (am_I (x4))] [] (am_hM h M) r) (Ex := fun (e : Int32 × Mem) => match e with | (x3, M) => am_At am_X0 (d + 8) mX12_hold 149 [some (.inr (54, 0)), some (am_I (x1)), none, some (am_I (x3)), none] [] (am_hM h M) r) ?_ n
  rintro ⟨x3, x4, M⟩ y hyp hx
  unfold L_X12_hold_70 at hyp
  try dsimp only at hyp
  change am_At _ _ _ 70 [_, _, _, _, _] [] _ _
  refine am_iload dX12_hold_70 rfl ?_
  refine am_aload_n dX12_hold_72 rfl ?_
  refine am_getR 12 12 58 dX12_hold_73 fg_X12_23 (sh_54 g) (by decide) rfl (rf_54_12 g) ?_
  refine am_iconst 0 (v := 0) dX12_hold_76 (by decide) ?_
  refine am_iald dX12_hold_77 (am_ia.one (sh_58 g)) (am_lit rfl) ?_
  refine am_icmp_ge (71) 149 dX12_hold_78 rfl ?_ ?_
  · intro hc8
    have hc8 : (M 58 0 0) ≤ x4 := hc8
    replace hyp := it_pos hc8 hyp
    cases hyp
    refine am_At.drop 4 ?_
    exact hx
  · intro hc8n
    have hc8n : ¬ ((M 58 0 0) ≤ x4) := hc8n
    replace hyp := it_neg hc8n hyp
    refine am_iload dX12_hold_81 rfl ?_
    refine am_if_le (23) 106 dX12_hold_83 rfl ?_ ?_
    · intro hc9
      have hc9 : x4 ≤ 0 := hc9
      replace hyp := it_pos hc9 hyp
      refine am_iload_n dX12_hold_106 rfl ?_
      refine am_iload_n dX12_hold_107 rfl ?_
      refine am_aload_n dX12_hold_108 rfl ?_
      refine am_getR 12 14 60 dX12_hold_109 fg_X12_31 (sh_54 g) (by decide) rfl (rf_54_14 g) ?_
      refine am_iload dX12_hold_112 rfl ?_
      obtain ⟨hg10, hyp⟩ := gd_some hyp
      refine am_aald dX12_hold_114 (sh_60 g) (am_lit hg10) ?_
      refine am_iconst 0 (v := 0) dX12_hold_115 (by decide) ?_
      refine am_iald dX12_hold_116 (am_ia.row (sh_60 g) (by omega) (am_vlt (am_lit hg10))) (am_lit rfl) ?_
      refine am_icmp_le (23) 140 dX12_hold_117 rfl ?_ ?_
      · intro hc11
        have hc11 : x1 ≤ (M 60 (x4.toNatClampNeg + 1) 0) := hc11
        replace hyp := it_pos hc11 hyp
        refine am_iconst 0 (v := 0) dX12_hold_140 (by decide) ?_
        refine am_ior dX12_hold_141 ?_
        refine am_istore_n dX12_hold_142 (am_lb rfl) ?_
        change am_At _ _ _ 143 [_, _, _, _, _] [] _ _
        refine am_iinc dX12_hold_143 rfl (am_ix _) ?_
        change am_At _ _ _ 146 [_, _, _, _, _] [] _ _
        refine am_goto (-76) 70 dX12_hold_146 rfl ?_
        cases hyp
        exact hx
      · intro hc11n
        have hc11n : ¬ (x1 ≤ (M 60 (x4.toNatClampNeg + 1) 0)) := hc11n
        replace hyp := it_neg hc11n hyp
        refine am_aload_n dX12_hold_120 rfl ?_
        refine am_aload_n dX12_hold_121 rfl ?_
        refine am_getR 12 30 73 dX12_hold_122 fg_X12_70 (sh_54 g) (by decide) rfl (rf_54_30 g) ?_
        refine am_iload dX12_hold_125 rfl ?_
        obtain ⟨⟨v12, M12⟩, hk12, hyp⟩ := bd_some hyp
        try dsimp only at hyp
        refine am_callV [_, _] dX12_hold_127 ml_X12_273 vm_X12_opensIn (sh_54 g) rfl (fun _ => Nat.le_of_ble_eq_true rfl) (by omega) rfl (ef_X12_opensIn_73 (d := d + 2) (h := h) g hk12) rfl ?_
        change am_At _ _ _ 130 [_, _, _, _, _] [_, _] _ _
        refine am_if_ne (10) 140 dX12_hold_130 rfl ?_ ?_
        · intro hc13n
          have hc13n : ¬ (v12 = 0) := hc13n
          replace hyp := it_neg hc13n hyp
          refine am_iconst 0 (v := 0) dX12_hold_140 (by decide) ?_
          refine am_ior dX12_hold_141 ?_
          refine am_istore_n dX12_hold_142 (am_lb rfl) ?_
          change am_At _ _ _ 143 [_, _, _, _, _] [] _ _
          refine am_iinc dX12_hold_143 rfl (am_ix _) ?_
          change am_At _ _ _ 146 [_, _, _, _, _] [] _ _
          refine am_goto (-76) 70 dX12_hold_146 rfl ?_
          cases hyp
          exact hx
        · intro hc13
          have hc13 : v12 = 0 := hc13
          replace hyp := it_pos hc13 hyp
          refine am_iconst 1 (v := 1) dX12_hold_133 (by decide) ?_
          refine am_iload dX12_hold_134 rfl ?_
          refine am_ishl dX12_hold_136 ?_
          refine am_goto (4) 141 dX12_hold_137 rfl ?_
          refine am_ior dX12_hold_141 ?_
          refine am_istore_n dX12_hold_142 (am_lb rfl) ?_
          change am_At _ _ _ 143 [_, _, _, _, _] [] _ _
          refine am_iinc dX12_hold_143 rfl (am_ix _) ?_
          change am_At _ _ _ 146 [_, _, _, _, _] [] _ _
          refine am_goto (-76) 70 dX12_hold_146 rfl ?_
          cases hyp
          exact hx
    · intro hc9n
      have hc9n : ¬ (x4 ≤ 0) := hc9n
      replace hyp := it_neg hc9n hyp
      refine am_iload dX12_hold_86 rfl ?_
      refine am_aload_n dX12_hold_88 rfl ?_
      refine am_getR 12 12 58 dX12_hold_89 fg_X12_23 (sh_54 g) (by decide) rfl (rf_54_12 g) ?_
      refine am_iconst 3 (v := 3) dX12_hold_92 (by decide) ?_
      refine am_iald dX12_hold_93 (am_ia.one (sh_58 g)) (am_lit rfl) ?_
      obtain ⟨hg14, hyp⟩ := gd_some hyp
      refine am_irem dX12_hold_94 hg14 ?_
      refine am_if_ne (11) 106 dX12_hold_95 rfl ?_ ?_
      · intro hc15n
        have hc15n : ¬ ((x4 - x4 / (M 58 0 3) * (M 58 0 3)) = 0) := hc15n
        replace hyp := it_neg hc15n hyp
        refine am_iload_n dX12_hold_106 rfl ?_
        refine am_iload_n dX12_hold_107 rfl ?_
        refine am_aload_n dX12_hold_108 rfl ?_
        refine am_getR 12 14 60 dX12_hold_109 fg_X12_31 (sh_54 g) (by decide) rfl (rf_54_14 g) ?_
        refine am_iload dX12_hold_112 rfl ?_
        obtain ⟨hg16, hyp⟩ := gd_some hyp
        refine am_aald dX12_hold_114 (sh_60 g) (am_lit hg16) ?_
        refine am_iconst 0 (v := 0) dX12_hold_115 (by decide) ?_
        refine am_iald dX12_hold_116 (am_ia.row (sh_60 g) (by omega) (am_vlt (am_lit hg16))) (am_lit rfl) ?_
        refine am_icmp_le (23) 140 dX12_hold_117 rfl ?_ ?_
        · intro hc17
          have hc17 : x1 ≤ (M 60 (x4.toNatClampNeg + 1) 0) := hc17
          replace hyp := it_pos hc17 hyp
          refine am_iconst 0 (v := 0) dX12_hold_140 (by decide) ?_
          refine am_ior dX12_hold_141 ?_
          refine am_istore_n dX12_hold_142 (am_lb rfl) ?_
          change am_At _ _ _ 143 [_, _, _, _, _] [] _ _
          refine am_iinc dX12_hold_143 rfl (am_ix _) ?_
          change am_At _ _ _ 146 [_, _, _, _, _] [] _ _
          refine am_goto (-76) 70 dX12_hold_146 rfl ?_
          cases hyp
          exact hx
        · intro hc17n
          have hc17n : ¬ (x1 ≤ (M 60 (x4.toNatClampNeg + 1) 0)) := hc17n
          replace hyp := it_neg hc17n hyp
          refine am_aload_n dX12_hold_120 rfl ?_
          refine am_aload_n dX12_hold_121 rfl ?_
          refine am_getR 12 30 73 dX12_hold_122 fg_X12_70 (sh_54 g) (by decide) rfl (rf_54_30 g) ?_
          refine am_iload dX12_hold_125 rfl ?_
          obtain ⟨⟨v18, M18⟩, hk18, hyp⟩ := bd_some hyp
          try dsimp only at hyp
          refine am_callV [_, _] dX12_hold_127 ml_X12_273 vm_X12_opensIn (sh_54 g) rfl (fun _ => Nat.le_of_ble_eq_true rfl) (by omega) rfl (ef_X12_opensIn_73 (d := d + 2) (h := h) g hk18) rfl ?_
          change am_At _ _ _ 130 [_, _, _, _, _] [_, _] _ _
          refine am_if_ne (10) 140 dX12_hold_130 rfl ?_ ?_
          · intro hc19n
            have hc19n : ¬ (v18 = 0) := hc19n
            replace hyp := it_neg hc19n hyp
            refine am_iconst 0 (v := 0) dX12_hold_140 (by decide) ?_
            refine am_ior dX12_hold_141 ?_
            refine am_istore_n dX12_hold_142 (am_lb rfl) ?_
            change am_At _ _ _ 143 [_, _, _, _, _] [] _ _
            refine am_iinc dX12_hold_143 rfl (am_ix _) ?_
            change am_At _ _ _ 146 [_, _, _, _, _] [] _ _
            refine am_goto (-76) 70 dX12_hold_146 rfl ?_
            cases hyp
            exact hx
          · intro hc19
            have hc19 : v18 = 0 := hc19
            replace hyp := it_pos hc19 hyp
            refine am_iconst 1 (v := 1) dX12_hold_133 (by decide) ?_
            refine am_iload dX12_hold_134 rfl ?_
            refine am_ishl dX12_hold_136 ?_
            refine am_goto (4) 141 dX12_hold_137 rfl ?_
            refine am_ior dX12_hold_141 ?_
            refine am_istore_n dX12_hold_142 (am_lb rfl) ?_
            change am_At _ _ _ 143 [_, _, _, _, _] [] _ _
            refine am_iinc dX12_hold_143 rfl (am_ix _) ?_
            change am_At _ _ _ 146 [_, _, _, _, _] [] _ _
            refine am_goto (-76) 70 dX12_hold_146 rfl ?_
            cases hyp
            exact hx
      · intro hc15
        have hc15 : (x4 - x4 / (M 58 0 3) * (M 58 0 3)) = 0 := hc15
        replace hyp := it_pos hc15 hyp
        refine am_aload_n dX12_hold_98 rfl ?_
        refine am_aload_n dX12_hold_99 rfl ?_
        refine am_getR 12 30 73 dX12_hold_100 fg_X12_70 (sh_54 g) (by decide) rfl (rf_54_30 g) ?_
        obtain ⟨M20, hk20, hyp⟩ := bd_some hyp
        try dsimp only at hyp
        refine am_callV [_] dX12_hold_103 ml_X12_297 vm_X12_hourEnds (sh_54 g) rfl (fun _ => Nat.le_of_ble_eq_true rfl) (by omega) rfl (ef_X12_hourEnds_73 (d := d + 0) (h := h) g hk20) rfl ?_
        change am_At _ _ _ 106 [_, _, _, _, _] [] _ _
        refine am_iload_n dX12_hold_106 rfl ?_
        refine am_iload_n dX12_hold_107 rfl ?_
        refine am_aload_n dX12_hold_108 rfl ?_
        refine am_getR 12 14 60 dX12_hold_109 fg_X12_31 (sh_54 g) (by decide) rfl (rf_54_14 g) ?_
        refine am_iload dX12_hold_112 rfl ?_
        obtain ⟨hg21, hyp⟩ := gd_some hyp
        refine am_aald dX12_hold_114 (sh_60 g) (am_lit hg21) ?_
        refine am_iconst 0 (v := 0) dX12_hold_115 (by decide) ?_
        refine am_iald dX12_hold_116 (am_ia.row (sh_60 g) (by omega) (am_vlt (am_lit hg21))) (am_lit rfl) ?_
        refine am_icmp_le (23) 140 dX12_hold_117 rfl ?_ ?_
        · intro hc22
          have hc22 : x1 ≤ (M20 60 (x4.toNatClampNeg + 1) 0) := hc22
          replace hyp := it_pos hc22 hyp
          refine am_iconst 0 (v := 0) dX12_hold_140 (by decide) ?_
          refine am_ior dX12_hold_141 ?_
          refine am_istore_n dX12_hold_142 (am_lb rfl) ?_
          change am_At _ _ _ 143 [_, _, _, _, _] [] _ _
          refine am_iinc dX12_hold_143 rfl (am_ix _) ?_
          change am_At _ _ _ 146 [_, _, _, _, _] [] _ _
          refine am_goto (-76) 70 dX12_hold_146 rfl ?_
          cases hyp
          exact hx
        · intro hc22n
          have hc22n : ¬ (x1 ≤ (M20 60 (x4.toNatClampNeg + 1) 0)) := hc22n
          replace hyp := it_neg hc22n hyp
          refine am_aload_n dX12_hold_120 rfl ?_
          refine am_aload_n dX12_hold_121 rfl ?_
          refine am_getR 12 30 73 dX12_hold_122 fg_X12_70 (sh_54 g) (by decide) rfl (rf_54_30 g) ?_
          refine am_iload dX12_hold_125 rfl ?_
          obtain ⟨⟨v23, M23⟩, hk23, hyp⟩ := bd_some hyp
          try dsimp only at hyp
          refine am_callV [_, _] dX12_hold_127 ml_X12_273 vm_X12_opensIn (sh_54 g) rfl (fun _ => Nat.le_of_ble_eq_true rfl) (by omega) rfl (ef_X12_opensIn_73 (d := d + 2) (h := h) g hk23) rfl ?_
          change am_At _ _ _ 130 [_, _, _, _, _] [_, _] _ _
          refine am_if_ne (10) 140 dX12_hold_130 rfl ?_ ?_
          · intro hc24n
            have hc24n : ¬ (v23 = 0) := hc24n
            replace hyp := it_neg hc24n hyp
            refine am_iconst 0 (v := 0) dX12_hold_140 (by decide) ?_
            refine am_ior dX12_hold_141 ?_
            refine am_istore_n dX12_hold_142 (am_lb rfl) ?_
            change am_At _ _ _ 143 [_, _, _, _, _] [] _ _
            refine am_iinc dX12_hold_143 rfl (am_ix _) ?_
            change am_At _ _ _ 146 [_, _, _, _, _] [] _ _
            refine am_goto (-76) 70 dX12_hold_146 rfl ?_
            cases hyp
            exact hx
          · intro hc24
            have hc24 : v23 = 0 := hc24
            replace hyp := it_pos hc24 hyp
            refine am_iconst 1 (v := 1) dX12_hold_133 (by decide) ?_
            refine am_iload dX12_hold_134 rfl ?_
            refine am_ishl dX12_hold_136 ?_
            refine am_goto (4) 141 dX12_hold_137 rfl ?_
            refine am_ior dX12_hold_141 ?_
            refine am_istore_n dX12_hold_142 (am_lb rfl) ?_
            change am_At _ _ _ 143 [_, _, _, _, _] [] _ _
            refine am_iinc dX12_hold_143 rfl (am_ix _) ?_
            change am_At _ _ _ 146 [_, _, _, _, _] [] _ _
            refine am_goto (-76) 70 dX12_hold_146 rfl ?_
            cases hyp
            exact hx
theorem ef_X12_hold {d : Nat} {h : am_H} (g : lay h) {x1 x2 : Int32} {M : Mem} {v : Int32} {M' : Mem} (hyp : f_X12_hold x1 x2 M = some (v, M')) : am_Ev (d + 8) mX12_hold [.inr (54, 0), am_I x1, am_I x2] (am_hM h M) (.inl (some (am_I v), am_hM h M')) := by
  unfold f_X12_hold at hyp
  refine am_Ev.mk (by decide +kernel) rfl rfl (Nat.le_refl _) (Nat.le_refl _) ?_
  change am_At _ _ _ 0 [_, _, _, _, _] [] _ _
  refine am_aload_n dX12_hold_0 rfl ?_
  refine am_iconst 0 (v := 0) dX12_hold_1 (by decide) ?_
  refine am_putI 12 0 dX12_hold_2 (Or.inl fp_X12_103) (sh_54 g) (by decide) rfl rfl rfl ?_
  refine am_aload_n dX12_hold_5 rfl ?_
  refine am_iload_n dX12_hold_6 rfl ?_
  refine am_callS (c := 0) (k := 0) (n := 0) (w := 0) [_] dX12_hold_7 ml_X12_336 sm_X12_isMast rfl (fun _ => Nat.le_of_ble_eq_true rfl) (by omega) rfl (ef_X12_isMast (d := d + 6) (h := am_hM h (am_u3 M 54 0 0 (0 : Int32))) (x0 := x1)  rfl) rfl ?_
  change am_At _ _ _ 10 [_, _, _, _, _] [_, _] _ _
  refine am_if_eq (13) 23 dX12_hold_10 rfl ?_ ?_
  · intro hc1
    have hc1 : (f_X12_in x1 (0 : Int32) (9 : Int32)) = 0 := hc1
    replace hyp := it_pos hc1 hyp
    refine am_iconst 1 (v := 1) dX12_hold_23 (by decide) ?_
    refine am_goto (4) 28 dX12_hold_24 rfl ?_
    refine am_iconst 1 (v := 1) dX12_hold_28 (by decide) ?_
    refine am_iconst 1 (v := 1) dX12_hold_29 (by decide) ?_
    obtain ⟨⟨v2, M2⟩, hk2, hyp⟩ := bd_some hyp
    try dsimp only at hyp
    refine am_callV [_, _, _] dX12_hold_30 ml_X12_179 vm_X12_bad (sh_54 g) rfl (fun _ => Nat.le_of_ble_eq_true rfl) (by omega) rfl (ef_X12_bad (d := d + 7) (h := h) g hk2) rfl ?_
    change am_At _ _ _ 33 [_, _, _, _, _] [_] _ _
    refine am_if_eq (5) 38 dX12_hold_33 rfl ?_ ?_
    · intro hc3
      have hc3 : v2 = 0 := hc3
      replace hyp := it_pos hc3 hyp
      refine am_iconst 0 (v := 0) dX12_hold_38 (by decide) ?_
      refine am_istore_n dX12_hold_39 (am_lb rfl) ?_
      change am_At _ _ _ 40 [_, _, _, _, _] [] _ _
      refine am_aload_n dX12_hold_40 rfl ?_
      obtain ⟨M4, hk4, hyp⟩ := bd_some hyp
      try dsimp only at hyp
      refine am_callV [] dX12_hold_41 ml_X12_333 vm_X12_tries (sh_54 g) rfl (fun _ => Nat.le_of_ble_eq_true rfl) (by omega) rfl (ef_X12_tries (d := d + 6) (h := h) g hk4) rfl ?_
      change am_At _ _ _ 44 [_, _, _, _, _] [] _ _
      refine am_iconst 0 (v := 0) dX12_hold_44 (by decide) ?_
      refine am_istore dX12_hold_45 (am_lb rfl) ?_
      change am_At _ _ _ 47 [_, _, _, _, _] [] _ _
      obtain ⟨M7, hw7, hyp⟩ := bd_some hyp
      try dsimp only at hyp
      refine eL_X12_hold_47 (d := d) (h := h) g  FU ((0 : Int32), M4) M7 hw7 ?_
      change am_At _ _ _ 67 [_, _, _, _, _] [] _ _
      refine am_iconst 0 (v := 0) dX12_hold_67 (by decide) ?_
      refine am_istore dX12_hold_68 (am_lb rfl) ?_
      change am_At _ _ _ 70 [_, _, _, _, _] [] _ _
      obtain ⟨⟨x3_25, M25⟩, hw25, hyp⟩ := bd_some hyp
      refine am_At.drop 2 ?_
      try dsimp only at hyp
      refine eL_X12_hold_70 (d := d) (h := h) g  FU ((0 : Int32), (0 : Int32), M7) (x3_25, M25) hw25 ?_
      change am_At _ _ _ 149 [_, _, _, _, _] [] _ _
      refine am_iload_n dX12_hold_149 rfl ?_
      cases hyp
      exact am_iret dX12_hold_150 rfl
    · intro hc3n
      have hc3n : ¬ (v2 = 0) := hc3n
      replace hyp := it_neg hc3n hyp
      refine am_iconst 0 (v := 0) dX12_hold_36 (by decide) ?_
      cases hyp
      exact am_iret dX12_hold_37 rfl
  · intro hc1n
    have hc1n : ¬ ((f_X12_in x1 (0 : Int32) (9 : Int32)) = 0) := hc1n
    replace hyp := it_neg hc1n hyp
    refine am_iload_n dX12_hold_13 rfl ?_
    refine am_iconst 0 (v := 0) dX12_hold_14 (by decide) ?_
    refine am_bipush 48 (v := 48) dX12_hold_15 (by decide) ?_
    refine am_callS (c := 0) (k := 0) (n := 0) (w := 0) [_, _, _] dX12_hold_17 ml_X12_137 sm_X12_in rfl (fun _ => Nat.le_of_ble_eq_true rfl) (by omega) rfl (ef_X12_in (d := d + 7) (h := am_hM h (am_u3 M 54 0 0 (0 : Int32))) (x0 := x2) (x1 := (0 : Int32)) (x2 := (48 : Int32))  rfl) rfl ?_
    change am_At _ _ _ 20 [_, _, _, _, _] [_, _] _ _
    refine am_if_ne (7) 27 dX12_hold_20 rfl ?_ ?_
    · intro hc26n
      have hc26n : ¬ ((f_X12_in x2 (0 : Int32) (48 : Int32)) = 0) := hc26n
      replace hyp := it_neg hc26n hyp
      refine am_iconst 0 (v := 0) dX12_hold_27 (by decide) ?_
      refine am_iconst 1 (v := 1) dX12_hold_28 (by decide) ?_
      refine am_iconst 1 (v := 1) dX12_hold_29 (by decide) ?_
      obtain ⟨⟨v27, M27⟩, hk27, hyp⟩ := bd_some hyp
      try dsimp only at hyp
      refine am_callV [_, _, _] dX12_hold_30 ml_X12_179 vm_X12_bad (sh_54 g) rfl (fun _ => Nat.le_of_ble_eq_true rfl) (by omega) rfl (ef_X12_bad (d := d + 7) (h := h) g hk27) rfl ?_
      change am_At _ _ _ 33 [_, _, _, _, _] [_] _ _
      refine am_if_eq (5) 38 dX12_hold_33 rfl ?_ ?_
      · intro hc28
        have hc28 : v27 = 0 := hc28
        replace hyp := it_pos hc28 hyp
        refine am_iconst 0 (v := 0) dX12_hold_38 (by decide) ?_
        refine am_istore_n dX12_hold_39 (am_lb rfl) ?_
        change am_At _ _ _ 40 [_, _, _, _, _] [] _ _
        refine am_aload_n dX12_hold_40 rfl ?_
        obtain ⟨M29, hk29, hyp⟩ := bd_some hyp
        try dsimp only at hyp
        refine am_callV [] dX12_hold_41 ml_X12_333 vm_X12_tries (sh_54 g) rfl (fun _ => Nat.le_of_ble_eq_true rfl) (by omega) rfl (ef_X12_tries (d := d + 6) (h := h) g hk29) rfl ?_
        change am_At _ _ _ 44 [_, _, _, _, _] [] _ _
        refine am_iconst 0 (v := 0) dX12_hold_44 (by decide) ?_
        refine am_istore dX12_hold_45 (am_lb rfl) ?_
        change am_At _ _ _ 47 [_, _, _, _, _] [] _ _
        obtain ⟨M30, hw30, hyp⟩ := bd_some hyp
        try dsimp only at hyp
        refine eL_X12_hold_47 (d := d) (h := h) g  FU ((0 : Int32), M29) M30 hw30 ?_
        change am_At _ _ _ 67 [_, _, _, _, _] [] _ _
        refine am_iconst 0 (v := 0) dX12_hold_67 (by decide) ?_
        refine am_istore dX12_hold_68 (am_lb rfl) ?_
        change am_At _ _ _ 70 [_, _, _, _, _] [] _ _
        obtain ⟨⟨x3_31, M31⟩, hw31, hyp⟩ := bd_some hyp
        refine am_At.drop 2 ?_
        try dsimp only at hyp
        refine eL_X12_hold_70 (d := d) (h := h) g  FU ((0 : Int32), (0 : Int32), M30) (x3_31, M31) hw31 ?_
        change am_At _ _ _ 149 [_, _, _, _, _] [] _ _
        refine am_iload_n dX12_hold_149 rfl ?_
        cases hyp
        exact am_iret dX12_hold_150 rfl
      · intro hc28n
        have hc28n : ¬ (v27 = 0) := hc28n
        replace hyp := it_neg hc28n hyp
        refine am_iconst 0 (v := 0) dX12_hold_36 (by decide) ?_
        cases hyp
        exact am_iret dX12_hold_37 rfl
    · intro hc26
      have hc26 : (f_X12_in x2 (0 : Int32) (48 : Int32)) = 0 := hc26
      replace hyp := it_pos hc26 hyp
      refine am_iconst 1 (v := 1) dX12_hold_23 (by decide) ?_
      refine am_goto (4) 28 dX12_hold_24 rfl ?_
      refine am_iconst 1 (v := 1) dX12_hold_28 (by decide) ?_
      refine am_iconst 1 (v := 1) dX12_hold_29 (by decide) ?_
      obtain ⟨⟨v32, M32⟩, hk32, hyp⟩ := bd_some hyp
      try dsimp only at hyp
      refine am_callV [_, _, _] dX12_hold_30 ml_X12_179 vm_X12_bad (sh_54 g) rfl (fun _ => Nat.le_of_ble_eq_true rfl) (by omega) rfl (ef_X12_bad (d := d + 7) (h := h) g hk32) rfl ?_
      change am_At _ _ _ 33 [_, _, _, _, _] [_] _ _
      refine am_if_eq (5) 38 dX12_hold_33 rfl ?_ ?_
      · intro hc33
        have hc33 : v32 = 0 := hc33
        replace hyp := it_pos hc33 hyp
        refine am_iconst 0 (v := 0) dX12_hold_38 (by decide) ?_
        refine am_istore_n dX12_hold_39 (am_lb rfl) ?_
        change am_At _ _ _ 40 [_, _, _, _, _] [] _ _
        refine am_aload_n dX12_hold_40 rfl ?_
        obtain ⟨M34, hk34, hyp⟩ := bd_some hyp
        try dsimp only at hyp
        refine am_callV [] dX12_hold_41 ml_X12_333 vm_X12_tries (sh_54 g) rfl (fun _ => Nat.le_of_ble_eq_true rfl) (by omega) rfl (ef_X12_tries (d := d + 6) (h := h) g hk34) rfl ?_
        change am_At _ _ _ 44 [_, _, _, _, _] [] _ _
        refine am_iconst 0 (v := 0) dX12_hold_44 (by decide) ?_
        refine am_istore dX12_hold_45 (am_lb rfl) ?_
        change am_At _ _ _ 47 [_, _, _, _, _] [] _ _
        obtain ⟨M35, hw35, hyp⟩ := bd_some hyp
        try dsimp only at hyp
        refine eL_X12_hold_47 (d := d) (h := h) g  FU ((0 : Int32), M34) M35 hw35 ?_
        change am_At _ _ _ 67 [_, _, _, _, _] [] _ _
        refine am_iconst 0 (v := 0) dX12_hold_67 (by decide) ?_
        refine am_istore dX12_hold_68 (am_lb rfl) ?_
        change am_At _ _ _ 70 [_, _, _, _, _] [] _ _
        obtain ⟨⟨x3_36, M36⟩, hw36, hyp⟩ := bd_some hyp
        refine am_At.drop 2 ?_
        try dsimp only at hyp
        refine eL_X12_hold_70 (d := d) (h := h) g  FU ((0 : Int32), (0 : Int32), M35) (x3_36, M36) hw36 ?_
        change am_At _ _ _ 149 [_, _, _, _, _] [] _ _
        refine am_iload_n dX12_hold_149 rfl ?_
        cases hyp
        exact am_iret dX12_hold_150 rfl
      · intro hc33n
        have hc33n : ¬ (v32 = 0) := hc33n
        replace hyp := it_neg hc33n hyp
        refine am_iconst 0 (v := 0) dX12_hold_36 (by decide) ?_
        cases hyp
        exact am_iret dX12_hold_37 rfl
theorem ef_X12_knownHere {d : Nat} {h : am_H} (g : lay h) {M : Mem} {v : Int32} {M' : Mem} (hyp : f_X12_knownHere M = some (v, M')) : am_Ev (d + 5) mX12_knownHere [.inr (54, 0)] (am_hM h M) (.inl (some (am_I v), am_hM h M')) := by
  unfold f_X12_knownHere at hyp
  refine am_Ev.mk (by decide +kernel) rfl rfl (Nat.le_refl _) (Nat.le_refl _) ?_
  change am_At _ _ _ 0 [_] [] _ _
  refine am_aload_n dX12_knownHere_0 rfl ?_
  refine am_bipush 8 (v := 8) dX12_knownHere_1 (by decide) ?_
  refine am_bipush 15 (v := 15) dX12_knownHere_3 (by decide) ?_
  refine am_bipush 21 (v := 21) dX12_knownHere_5 (by decide) ?_
  refine am_bipush 18 (v := 18) dX12_knownHere_7 (by decide) ?_
  refine am_iconst 0 (v := 0) dX12_knownHere_9 (by decide) ?_
  refine am_iconst 0 (v := 0) dX12_knownHere_10 (by decide) ?_
  obtain ⟨⟨v1, M1⟩, hk1, hyp⟩ := bd_some hyp
  try dsimp only at hyp
  refine am_callV [_, _, _, _, _, _] dX12_knownHere_11 ml_X12_226 vm_X12_takes (sh_54 g) rfl (fun _ => Nat.le_of_ble_eq_true rfl) (by omega) rfl (ef_X12_takes (d := d + 0) (h := h) g hk1) rfl ?_
  change am_At _ _ _ 14 [_] [_] _ _
  refine am_if_eq (5) 19 dX12_knownHere_14 rfl ?_ ?_
  · intro hc2
    have hc2 : v1 = 0 := hc2
    replace hyp := it_pos hc2 hyp
    refine am_aload_n dX12_knownHere_19 rfl ?_
    refine am_iconst 4 (v := 4) dX12_knownHere_20 (by decide) ?_
    refine am_iconst 1 (v := 1) dX12_knownHere_21 (by decide) ?_
    refine am_bipush 25 (v := 25) dX12_knownHere_22 (by decide) ?_
    refine am_iconst 0 (v := 0) dX12_knownHere_24 (by decide) ?_
    refine am_iconst 0 (v := 0) dX12_knownHere_25 (by decide) ?_
    refine am_iconst 0 (v := 0) dX12_knownHere_26 (by decide) ?_
    obtain ⟨⟨v3, M3⟩, hk3, hyp⟩ := bd_some hyp
    try dsimp only at hyp
    refine am_callV [_, _, _, _, _, _] dX12_knownHere_27 ml_X12_226 vm_X12_takes (sh_54 g) rfl (fun _ => Nat.le_of_ble_eq_true rfl) (by omega) rfl (ef_X12_takes (d := d + 0) (h := h) g hk3) rfl ?_
    change am_At _ _ _ 30 [_] [_] _ _
    refine am_if_eq (5) 35 dX12_knownHere_30 rfl ?_ ?_
    · intro hc4
      have hc4 : v3 = 0 := hc4
      replace hyp := it_pos hc4 hyp
      refine am_aload_n dX12_knownHere_35 rfl ?_
      refine am_iconst 2 (v := 2) dX12_knownHere_36 (by decide) ?_
      refine am_bipush 15 (v := 15) dX12_knownHere_37 (by decide) ?_
      refine am_iconst 1 (v := 1) dX12_knownHere_39 (by decide) ?_
      refine am_bipush 18 (v := 18) dX12_knownHere_40 (by decide) ?_
      refine am_iconst 4 (v := 4) dX12_knownHere_42 (by decide) ?_
      refine am_iconst 0 (v := 0) dX12_knownHere_43 (by decide) ?_
      obtain ⟨⟨v5, M5⟩, hk5, hyp⟩ := bd_some hyp
      try dsimp only at hyp
      refine am_callV [_, _, _, _, _, _] dX12_knownHere_44 ml_X12_226 vm_X12_takes (sh_54 g) rfl (fun _ => Nat.le_of_ble_eq_true rfl) (by omega) rfl (ef_X12_takes (d := d + 0) (h := h) g hk5) rfl ?_
      change am_At _ _ _ 47 [_] [_] _ _
      refine am_if_eq (5) 52 dX12_knownHere_47 rfl ?_ ?_
      · intro hc6
        have hc6 : v5 = 0 := hc6
        replace hyp := it_pos hc6 hyp
        refine am_aload_n dX12_knownHere_52 rfl ?_
        refine am_iconst 3 (v := 3) dX12_knownHere_53 (by decide) ?_
        refine am_bipush 12 (v := 12) dX12_knownHere_54 (by decide) ?_
        refine am_iconst 5 (v := 5) dX12_knownHere_56 (by decide) ?_
        refine am_iconst 1 (v := 1) dX12_knownHere_57 (by decide) ?_
        refine am_bipush 18 (v := 18) dX12_knownHere_58 (by decide) ?_
        refine am_iconst 0 (v := 0) dX12_knownHere_60 (by decide) ?_
        obtain ⟨⟨v7, M7⟩, hk7, hyp⟩ := bd_some hyp
        try dsimp only at hyp
        refine am_callV [_, _, _, _, _, _] dX12_knownHere_61 ml_X12_226 vm_X12_takes (sh_54 g) rfl (fun _ => Nat.le_of_ble_eq_true rfl) (by omega) rfl (ef_X12_takes (d := d + 0) (h := h) g hk7) rfl ?_
        change am_At _ _ _ 64 [_] [_] _ _
        refine am_if_eq (5) 69 dX12_knownHere_64 rfl ?_ ?_
        · intro hc8
          have hc8 : v7 = 0 := hc8
          replace hyp := it_pos hc8 hyp
          refine am_aload_n dX12_knownHere_69 rfl ?_
          refine am_iconst 2 (v := 2) dX12_knownHere_70 (by decide) ?_
          refine am_iconst 5 (v := 5) dX12_knownHere_71 (by decide) ?_
          refine am_iconst 1 (v := 1) dX12_knownHere_72 (by decide) ?_
          refine am_bipush 18 (v := 18) dX12_knownHere_73 (by decide) ?_
          refine am_bipush 19 (v := 19) dX12_knownHere_75 (by decide) ?_
          refine am_iconst 0 (v := 0) dX12_knownHere_77 (by decide) ?_
          obtain ⟨⟨v9, M9⟩, hk9, hyp⟩ := bd_some hyp
          try dsimp only at hyp
          refine am_callV [_, _, _, _, _, _] dX12_knownHere_78 ml_X12_226 vm_X12_takes (sh_54 g) rfl (fun _ => Nat.le_of_ble_eq_true rfl) (by omega) rfl (ef_X12_takes (d := d + 0) (h := h) g hk9) rfl ?_
          change am_At _ _ _ 81 [_] [_] _ _
          refine am_if_eq (5) 86 dX12_knownHere_81 rfl ?_ ?_
          · intro hc10
            have hc10 : v9 = 0 := hc10
            replace hyp := it_pos hc10 hyp
            refine am_aload_n dX12_knownHere_86 rfl ?_
            refine am_iconst 4 (v := 4) dX12_knownHere_87 (by decide) ?_
            refine am_bipush 18 (v := 18) dX12_knownHere_88 (by decide) ?_
            refine am_iconst 1 (v := 1) dX12_knownHere_90 (by decide) ?_
            refine am_bipush 9 (v := 9) dX12_knownHere_91 (by decide) ?_
            refine am_bipush 14 (v := 14) dX12_knownHere_93 (by decide) ?_
            refine am_bipush 19 (v := 19) dX12_knownHere_95 (by decide) ?_
            obtain ⟨⟨v11, M11⟩, hk11, hyp⟩ := bd_some hyp
            try dsimp only at hyp
            refine am_callV [_, _, _, _, _, _] dX12_knownHere_97 ml_X12_226 vm_X12_takes (sh_54 g) rfl (fun _ => Nat.le_of_ble_eq_true rfl) (by omega) rfl (ef_X12_takes (d := d + 0) (h := h) g hk11) rfl ?_
            change am_At _ _ _ 100 [_] [_] _ _
            refine am_if_eq (5) 105 dX12_knownHere_100 rfl ?_ ?_
            · intro hc12
              have hc12 : v11 = 0 := hc12
              replace hyp := it_pos hc12 hyp
              refine am_aload_n dX12_knownHere_105 rfl ?_
              refine am_bipush 6 (v := 6) dX12_knownHere_106 (by decide) ?_
              refine am_bipush 9 (v := 9) dX12_knownHere_108 (by decide) ?_
              refine am_bipush 19 (v := 19) dX12_knownHere_110 (by decide) ?_
              refine am_bipush 8 (v := 8) dX12_knownHere_112 (by decide) ?_
              refine am_iconst 0 (v := 0) dX12_knownHere_114 (by decide) ?_
              refine am_iconst 0 (v := 0) dX12_knownHere_115 (by decide) ?_
              obtain ⟨⟨v13, M13⟩, hk13, hyp⟩ := bd_some hyp
              try dsimp only at hyp
              refine am_callV [_, _, _, _, _, _] dX12_knownHere_116 ml_X12_226 vm_X12_takes (sh_54 g) rfl (fun _ => Nat.le_of_ble_eq_true rfl) (by omega) rfl (ef_X12_takes (d := d + 0) (h := h) g hk13) rfl ?_
              change am_At _ _ _ 119 [_] [_] _ _
              refine am_if_eq (6) 125 dX12_knownHere_119 rfl ?_ ?_
              · intro hc14
                have hc14 : v13 = 0 := hc14
                replace hyp := it_pos hc14 hyp
                refine am_aload_n dX12_knownHere_125 rfl ?_
                refine am_bipush 6 (v := 6) dX12_knownHere_126 (by decide) ?_
                refine am_bipush 9 (v := 9) dX12_knownHere_128 (by decide) ?_
                refine am_bipush 14 (v := 14) dX12_knownHere_130 (by decide) ?_
                refine am_iconst 5 (v := 5) dX12_knownHere_132 (by decide) ?_
                refine am_iconst 4 (v := 4) dX12_knownHere_133 (by decide) ?_
                refine am_iconst 0 (v := 0) dX12_knownHere_134 (by decide) ?_
                obtain ⟨⟨v15, M15⟩, hk15, hyp⟩ := bd_some hyp
                try dsimp only at hyp
                refine am_callV [_, _, _, _, _, _] dX12_knownHere_135 ml_X12_226 vm_X12_takes (sh_54 g) rfl (fun _ => Nat.le_of_ble_eq_true rfl) (by omega) rfl (ef_X12_takes (d := d + 0) (h := h) g hk15) rfl ?_
                change am_At _ _ _ 138 [_] [_] _ _
                refine am_if_eq (8) 146 dX12_knownHere_138 rfl ?_ ?_
                · intro hc16
                  have hc16 : v15 = 0 := hc16
                  replace hyp := it_pos hc16 hyp
                  refine am_iconst (-1) (v := (-1)) dX12_knownHere_146 (by decide) ?_
                  cases hyp
                  exact am_iret dX12_knownHere_147 rfl
                · intro hc16n
                  have hc16n : ¬ (v15 = 0) := hc16n
                  replace hyp := it_neg hc16n hyp
                  refine am_bipush 7 (v := 7) dX12_knownHere_141 (by decide) ?_
                  refine am_goto (4) 147 dX12_knownHere_143 rfl ?_
                  cases hyp
                  exact am_iret dX12_knownHere_147 rfl
              · intro hc14n
                have hc14n : ¬ (v13 = 0) := hc14n
                replace hyp := it_neg hc14n hyp
                refine am_bipush 6 (v := 6) dX12_knownHere_122 (by decide) ?_
                cases hyp
                exact am_iret dX12_knownHere_124 rfl
            · intro hc12n
              have hc12n : ¬ (v11 = 0) := hc12n
              replace hyp := it_neg hc12n hyp
              refine am_iconst 5 (v := 5) dX12_knownHere_103 (by decide) ?_
              cases hyp
              exact am_iret dX12_knownHere_104 rfl
          · intro hc10n
            have hc10n : ¬ (v9 = 0) := hc10n
            replace hyp := it_neg hc10n hyp
            refine am_iconst 4 (v := 4) dX12_knownHere_84 (by decide) ?_
            cases hyp
            exact am_iret dX12_knownHere_85 rfl
        · intro hc8n
          have hc8n : ¬ (v7 = 0) := hc8n
          replace hyp := it_neg hc8n hyp
          refine am_iconst 3 (v := 3) dX12_knownHere_67 (by decide) ?_
          cases hyp
          exact am_iret dX12_knownHere_68 rfl
      · intro hc6n
        have hc6n : ¬ (v5 = 0) := hc6n
        replace hyp := it_neg hc6n hyp
        refine am_iconst 2 (v := 2) dX12_knownHere_50 (by decide) ?_
        cases hyp
        exact am_iret dX12_knownHere_51 rfl
    · intro hc4n
      have hc4n : ¬ (v3 = 0) := hc4n
      replace hyp := it_neg hc4n hyp
      refine am_iconst 1 (v := 1) dX12_knownHere_33 (by decide) ?_
      cases hyp
      exact am_iret dX12_knownHere_34 rfl
  · intro hc2n
    have hc2n : ¬ (v1 = 0) := hc2n
    replace hyp := it_neg hc2n hyp
    refine am_iconst 0 (v := 0) dX12_knownHere_17 (by decide) ?_
    cases hyp
    exact am_iret dX12_knownHere_18 rfl
theorem eL_X12_letter_70 {d : Nat} {h : am_H} (g : lay h) {x2 : Int32} {r : am_R} (n : Nat) : ∀ (s : Int32 × Int32 × Int32 × Int32 × Int32 × Mem) (e : Int32 × Int32 × Int32 × Mem), wh (L_X12_letter_70) n s = some e → (match e with | (x3, x4, x5, M) => am_At am_X0 (d + 8) mX12_letter 148 [some (.inr (54, 0)), none, some (am_I (x2)), some (am_I (x3)), some (am_I (x4)), some (am_I (x5)), none, none] [] (am_hM h M) r) → (match s with | (x3, x4, x5, x6, x7, M) => am_At am_X0 (d + 8) mX12_letter 70 [some (.inr (54, 0)), none, some (am_I (x2)), some (am_I (x3)), some (am_I (x4)), some (am_I (x5)), some (am_I (x6)), some (am_I (x7))] [] (am_hM h M) r) := by
  refine am_wh (At := fun (s : Int32 × Int32 × Int32 × Int32 × Int32 × Mem) => match s with | (x3, x4, x5, x6, x7, M) => am_At am_X0 (d + 8) mX12_letter 70 [some (.inr (54, 0)), none, some (am_I (x2)), some (am_I (x3)), some (am_I (x4)), some (am_I (x5)), some (am_I (x6)), some (am_I (x7))] [] (am_hM h M) r) (Ex := fun (e : Int32 × Int32 × Int32 × Mem) => match e with | (x3, x4, x5, M) => am_At am_X0 (d + 8) mX12_letter 148 [some (.inr (54, 0)), none, some (am_I (x2)), some (am_I (x3)), some (am_I (x4)), some (am_I (x5)), none, none] [] (am_hM h M) r) ?_ n
  rintro ⟨x3, x4, x5, x6, x7, M⟩ y hyp hx
  unfold L_X12_letter_70 at hyp
  try dsimp only at hyp
  change am_At _ _ _ 70 [_, _, _, _, _, _, _, _] [] _ _
  refine am_iload dX12_letter_70 rfl ?_
  refine am_aload_n dX12_letter_72 rfl ?_
  refine am_getR 12 12 58 dX12_letter_73 fg_X12_23 (sh_54 g) (by decide) rfl (rf_54_12 g) ?_
  refine am_iconst 0 (v := 0) dX12_letter_76 (by decide) ?_
  refine am_iald dX12_letter_77 (am_ia.one (sh_58 g)) (am_lit rfl) ?_
  refine am_icmp_ge (70) 148 dX12_letter_78 rfl ?_ ?_
  · intro hc8
    have hc8 : (M 58 0 0) ≤ x7 := hc8
    replace hyp := it_pos hc8 hyp
    cases hyp
    refine am_At.drop 6 ?_
    refine am_At.drop 7 ?_
    exact hx
  · intro hc8n
    have hc8n : ¬ ((M 58 0 0) ≤ x7) := hc8n
    replace hyp := it_neg hc8n hyp
    refine am_aload_n dX12_letter_81 rfl ?_
    refine am_aload_n dX12_letter_82 rfl ?_
    refine am_getR 12 30 73 dX12_letter_83 fg_X12_70 (sh_54 g) (by decide) rfl (rf_54_30 g) ?_
    refine am_iload dX12_letter_86 rfl ?_
    obtain ⟨⟨v9, M9⟩, hk9, hyp⟩ := bd_some hyp
    try dsimp only at hyp
    refine am_callV [_, _] dX12_letter_88 ml_X12_273 vm_X12_opensIn (sh_54 g) rfl (fun _ => Nat.le_of_ble_eq_true rfl) (by omega) rfl (ef_X12_opensIn_73 (d := d + 2) (h := h) g hk9) rfl ?_
    change am_At _ _ _ 91 [_, _, _, _, _, _, _, _] [_] _ _
    refine am_if_eq (32) 123 dX12_letter_91 rfl ?_ ?_
    · intro hc10
      have hc10 : v9 = 0 := hc10
      replace hyp := it_pos hc10 hyp
      refine am_aload_n dX12_letter_123 rfl ?_
      refine am_aload_n dX12_letter_124 rfl ?_
      refine am_getR 12 30 73 dX12_letter_125 fg_X12_70 (sh_54 g) (by decide) rfl (rf_54_30 g) ?_
      obtain ⟨M11, hk11, hyp⟩ := bd_some hyp
      try dsimp only at hyp
      refine am_callV [_] dX12_letter_128 ml_X12_297 vm_X12_hourEnds (sh_54 g) rfl (fun _ => Nat.le_of_ble_eq_true rfl) (by omega) rfl (ef_X12_hourEnds_73 (d := d + 0) (h := h) g hk11) rfl ?_
      change am_At _ _ _ 131 [_, _, _, _, _, _, _, _] [] _ _
      refine am_iinc dX12_letter_131 rfl (am_ix _) ?_
      change am_At _ _ _ 134 [_, _, _, _, _, _, _, _] [] _ _
      refine am_iload dX12_letter_134 rfl ?_
      refine am_aload_n dX12_letter_136 rfl ?_
      refine am_getR 12 12 58 dX12_letter_137 fg_X12_23 (sh_54 g) (by decide) rfl (rf_54_12 g) ?_
      refine am_iconst 3 (v := 3) dX12_letter_140 (by decide) ?_
      refine am_iald dX12_letter_141 (am_ia.one (sh_58 g)) (am_lit rfl) ?_
      refine am_iadd dX12_letter_142 ?_
      refine am_istore dX12_letter_143 (am_lb rfl) ?_
      change am_At _ _ _ 145 [_, _, _, _, _, _, _, _] [] _ _
      refine am_goto (-75) 70 dX12_letter_145 rfl ?_
      cases hyp
      exact hx
    · intro hc10n
      have hc10n : ¬ (v9 = 0) := hc10n
      replace hyp := it_neg hc10n hyp
      refine am_iload dX12_letter_94 rfl ?_
      refine am_if_ne (8) 104 dX12_letter_96 rfl ?_ ?_
      · intro hc12n
        have hc12n : ¬ (x5 = 0) := hc12n
        replace hyp := it_neg hc12n hyp
        refine am_iload_n dX12_letter_104 rfl ?_
        refine am_istore_n dX12_letter_105 (am_lb rfl) ?_
        change am_At _ _ _ 106 [_, _, _, _, _, _, _, _] [] _ _
        refine am_iload dX12_letter_106 rfl ?_
        refine am_if_neT (8) 116 dX12_letter_108 rfl hc12n ?_
        refine am_iload dX12_letter_116 rfl ?_
        refine am_istore dX12_letter_118 (am_lb rfl) ?_
        change am_At _ _ _ 120 [_, _, _, _, _, _, _, _] [] _ _
        refine am_iinc dX12_letter_120 rfl (am_ix _) ?_
        change am_At _ _ _ 123 [_, _, _, _, _, _, _, _] [] _ _
        refine am_aload_n dX12_letter_123 rfl ?_
        refine am_aload_n dX12_letter_124 rfl ?_
        refine am_getR 12 30 73 dX12_letter_125 fg_X12_70 (sh_54 g) (by decide) rfl (rf_54_30 g) ?_
        obtain ⟨M13, hk13, hyp⟩ := bd_some hyp
        try dsimp only at hyp
        refine am_callV [_] dX12_letter_128 ml_X12_297 vm_X12_hourEnds (sh_54 g) rfl (fun _ => Nat.le_of_ble_eq_true rfl) (by omega) rfl (ef_X12_hourEnds_73 (d := d + 0) (h := h) g hk13) rfl ?_
        change am_At _ _ _ 131 [_, _, _, _, _, _, _, _] [] _ _
        refine am_iinc dX12_letter_131 rfl (am_ix _) ?_
        change am_At _ _ _ 134 [_, _, _, _, _, _, _, _] [] _ _
        refine am_iload dX12_letter_134 rfl ?_
        refine am_aload_n dX12_letter_136 rfl ?_
        refine am_getR 12 12 58 dX12_letter_137 fg_X12_23 (sh_54 g) (by decide) rfl (rf_54_12 g) ?_
        refine am_iconst 3 (v := 3) dX12_letter_140 (by decide) ?_
        refine am_iald dX12_letter_141 (am_ia.one (sh_58 g)) (am_lit rfl) ?_
        refine am_iadd dX12_letter_142 ?_
        refine am_istore dX12_letter_143 (am_lb rfl) ?_
        change am_At _ _ _ 145 [_, _, _, _, _, _, _, _] [] _ _
        refine am_goto (-75) 70 dX12_letter_145 rfl ?_
        cases hyp
        exact hx
      · intro hc12
        have hc12 : x5 = 0 := hc12
        replace hyp := it_pos hc12 hyp
        refine am_iload dX12_letter_99 rfl ?_
        refine am_goto (4) 105 dX12_letter_101 rfl ?_
        refine am_istore_n dX12_letter_105 (am_lb rfl) ?_
        change am_At _ _ _ 106 [_, _, _, _, _, _, _, _] [] _ _
        refine am_iload dX12_letter_106 rfl ?_
        refine am_if_neF (8) 116 dX12_letter_108 rfl hc12 ?_
        refine am_iload dX12_letter_111 rfl ?_
        refine am_goto (5) 118 dX12_letter_113 rfl ?_
        refine am_istore dX12_letter_118 (am_lb rfl) ?_
        change am_At _ _ _ 120 [_, _, _, _, _, _, _, _] [] _ _
        refine am_iinc dX12_letter_120 rfl (am_ix _) ?_
        change am_At _ _ _ 123 [_, _, _, _, _, _, _, _] [] _ _
        refine am_aload_n dX12_letter_123 rfl ?_
        refine am_aload_n dX12_letter_124 rfl ?_
        refine am_getR 12 30 73 dX12_letter_125 fg_X12_70 (sh_54 g) (by decide) rfl (rf_54_30 g) ?_
        obtain ⟨M14, hk14, hyp⟩ := bd_some hyp
        try dsimp only at hyp
        refine am_callV [_] dX12_letter_128 ml_X12_297 vm_X12_hourEnds (sh_54 g) rfl (fun _ => Nat.le_of_ble_eq_true rfl) (by omega) rfl (ef_X12_hourEnds_73 (d := d + 0) (h := h) g hk14) rfl ?_
        change am_At _ _ _ 131 [_, _, _, _, _, _, _, _] [] _ _
        refine am_iinc dX12_letter_131 rfl (am_ix _) ?_
        change am_At _ _ _ 134 [_, _, _, _, _, _, _, _] [] _ _
        refine am_iload dX12_letter_134 rfl ?_
        refine am_aload_n dX12_letter_136 rfl ?_
        refine am_getR 12 12 58 dX12_letter_137 fg_X12_23 (sh_54 g) (by decide) rfl (rf_54_12 g) ?_
        refine am_iconst 3 (v := 3) dX12_letter_140 (by decide) ?_
        refine am_iald dX12_letter_141 (am_ia.one (sh_58 g)) (am_lit rfl) ?_
        refine am_iadd dX12_letter_142 ?_
        refine am_istore dX12_letter_143 (am_lb rfl) ?_
        change am_At _ _ _ 145 [_, _, _, _, _, _, _, _] [] _ _
        refine am_goto (-75) 70 dX12_letter_145 rfl ?_
        cases hyp
        exact hx
theorem ef_X12_letter {d : Nat} {h : am_H} (g : lay h) {x1 x2 : Int32} {M : Mem} {v : Int32} {M' : Mem} (hyp : f_X12_letter x1 x2 M = some (v, M')) : am_Ev (d + 8) mX12_letter [.inr (54, 0), am_I x1, am_I x2] (am_hM h M) (.inl (some (am_I v), am_hM h M')) := by
  unfold f_X12_letter at hyp
  refine am_Ev.mk (by decide +kernel) rfl rfl (Nat.le_refl _) (Nat.le_refl _) ?_
  change am_At _ _ _ 0 [_, _, _, _, _, _, _, _] [] _ _
  refine am_aload_n dX12_letter_0 rfl ?_
  refine am_iconst 0 (v := 0) dX12_letter_1 (by decide) ?_
  refine am_putI 12 0 dX12_letter_2 (Or.inl fp_X12_103) (sh_54 g) (by decide) rfl rfl rfl ?_
  refine am_aload_n dX12_letter_5 rfl ?_
  refine am_aload_n dX12_letter_6 rfl ?_
  refine am_iload_n dX12_letter_7 rfl ?_
  refine am_callV [_] dX12_letter_8 ml_X12_327 vm_X12_isBoard (sh_54 g) rfl (fun _ => Nat.le_of_ble_eq_true rfl) (by omega) rfl (ef_X12_isBoard (d := d + 6) (h := h) g (x1 := x1) (M := (am_u3 M 54 0 0 (0 : Int32))) rfl) rfl ?_
  change am_At _ _ _ 11 [_, _, _, _, _, _, _, _] [_, _] _ _
  refine am_if_ne (7) 18 dX12_letter_11 rfl ?_ ?_
  · intro hc1n
    have hc1n : ¬ ((f_X12_in x1 (0 : Int32) (((am_u3 M 54 0 0 (0 : Int32)) 58 0 0) - (1 : Int32))) = 0) := hc1n
    replace hyp := it_neg hc1n hyp
    refine am_iconst 0 (v := 0) dX12_letter_18 (by decide) ?_
    refine am_iconst 1 (v := 1) dX12_letter_19 (by decide) ?_
    refine am_iconst 0 (v := 0) dX12_letter_20 (by decide) ?_
    obtain ⟨⟨v2, M2⟩, hk2, hyp⟩ := bd_some hyp
    try dsimp only at hyp
    refine am_callV [_, _, _] dX12_letter_21 ml_X12_179 vm_X12_bad (sh_54 g) rfl (fun _ => Nat.le_of_ble_eq_true rfl) (by omega) rfl (ef_X12_bad (d := d + 7) (h := h) g hk2) rfl ?_
    change am_At _ _ _ 24 [_, _, _, _, _, _, _, _] [_] _ _
    refine am_if_ne (26) 50 dX12_letter_24 rfl ?_ ?_
    · intro hc3n
      have hc3n : ¬ (v2 = 0) := hc3n
      replace hyp := it_neg hc3n hyp
      refine am_iconst 0 (v := 0) dX12_letter_50 (by decide) ?_
      cases hyp
      exact am_iret dX12_letter_51 rfl
    · intro hc3
      have hc3 : v2 = 0 := hc3
      replace hyp := it_pos hc3 hyp
      refine am_aload_n dX12_letter_27 rfl ?_
      refine am_iload_n dX12_letter_28 rfl ?_
      refine am_iconst 0 (v := 0) dX12_letter_29 (by decide) ?_
      refine am_iconst 2 (v := 2) dX12_letter_30 (by decide) ?_
      refine am_callS (c := 0) (k := 0) (n := 0) (w := 0) [_, _, _] dX12_letter_31 ml_X12_137 sm_X12_in rfl (fun _ => Nat.le_of_ble_eq_true rfl) (by omega) rfl (ef_X12_in (d := d + 7) (h := am_hM h M2) (x0 := x2) (x1 := (0 : Int32)) (x2 := (2 : Int32))  rfl) rfl ?_
      change am_At _ _ _ 34 [_, _, _, _, _, _, _, _] [_, _] _ _
      refine am_if_ne (7) 41 dX12_letter_34 rfl ?_ ?_
      · intro hc4n
        have hc4n : ¬ ((f_X12_in x2 (0 : Int32) (2 : Int32)) = 0) := hc4n
        replace hyp := it_neg hc4n hyp
        refine am_iconst 0 (v := 0) dX12_letter_41 (by decide) ?_
        refine am_iconst 2 (v := 2) dX12_letter_42 (by decide) ?_
        refine am_iconst 1 (v := 1) dX12_letter_43 (by decide) ?_
        obtain ⟨⟨v5, M5⟩, hk5, hyp⟩ := bd_some hyp
        try dsimp only at hyp
        refine am_callV [_, _, _] dX12_letter_44 ml_X12_179 vm_X12_bad (sh_54 g) rfl (fun _ => Nat.le_of_ble_eq_true rfl) (by omega) rfl (ef_X12_bad (d := d + 7) (h := h) g hk5) rfl ?_
        change am_At _ _ _ 47 [_, _, _, _, _, _, _, _] [_] _ _
        refine am_if_eq (5) 52 dX12_letter_47 rfl ?_ ?_
        · intro hc6
          have hc6 : v5 = 0 := hc6
          replace hyp := it_pos hc6 hyp
          refine am_iconst (-1) (v := (-1)) dX12_letter_52 (by decide) ?_
          refine am_istore_n dX12_letter_53 (am_lb rfl) ?_
          change am_At _ _ _ 54 [_, _, _, _, _, _, _, _] [] _ _
          refine am_iconst (-1) (v := (-1)) dX12_letter_54 (by decide) ?_
          refine am_istore dX12_letter_55 (am_lb rfl) ?_
          change am_At _ _ _ 57 [_, _, _, _, _, _, _, _] [] _ _
          refine am_iconst 0 (v := 0) dX12_letter_57 (by decide) ?_
          refine am_istore dX12_letter_58 (am_lb rfl) ?_
          change am_At _ _ _ 60 [_, _, _, _, _, _, _, _] [] _ _
          refine am_iconst 0 (v := 0) dX12_letter_60 (by decide) ?_
          refine am_istore dX12_letter_61 (am_lb rfl) ?_
          change am_At _ _ _ 63 [_, _, _, _, _, _, _, _] [] _ _
          refine am_aload_n dX12_letter_63 rfl ?_
          obtain ⟨M7, hk7, hyp⟩ := bd_some hyp
          try dsimp only at hyp
          refine am_callV [] dX12_letter_64 ml_X12_333 vm_X12_tries (sh_54 g) rfl (fun _ => Nat.le_of_ble_eq_true rfl) (by omega) rfl (ef_X12_tries (d := d + 6) (h := h) g hk7) rfl ?_
          change am_At _ _ _ 67 [_, _, _, _, _, _, _, _] [] _ _
          refine am_iload_n dX12_letter_67 rfl ?_
          refine am_istore dX12_letter_68 (am_lb rfl) ?_
          change am_At _ _ _ 70 [_, _, _, _, _, _, _, _] [] _ _
          obtain ⟨⟨x3_15, x4_15, x5_15, M15⟩, hw15, hyp⟩ := bd_some hyp
          refine am_At.drop 1 ?_
          try dsimp only at hyp
          refine eL_X12_letter_70 (d := d) (h := h) g  FU ((-1 : Int32), (-1 : Int32), (0 : Int32), (0 : Int32), x1, M7) (x3_15, x4_15, x5_15, M15) hw15 ?_
          change am_At _ _ _ 148 [_, _, _, _, _, _, _, _] [] _ _
          refine am_iload_n dX12_letter_148 rfl ?_
          refine am_if_ne (7) 156 dX12_letter_149 rfl ?_ ?_
          · intro hc16n
            have hc16n : ¬ (x2 = 0) := hc16n
            replace hyp := it_neg hc16n hyp
            refine am_iload_n dX12_letter_156 rfl ?_
            refine am_iconst 1 (v := 1) dX12_letter_157 (by decide) ?_
            refine am_icmp_ne (8) 166 dX12_letter_158 rfl ?_ ?_
            · intro hc17n
              have hc17n : ¬ (x2 = (1 : Int32)) := hc17n
              replace hyp := it_neg hc17n hyp
              refine am_iload dX12_letter_166 rfl ?_
              cases hyp
              exact am_iret dX12_letter_168 rfl
            · intro hc17
              have hc17 : x2 = (1 : Int32) := hc17
              replace hyp := it_pos hc17 hyp
              refine am_iload dX12_letter_161 rfl ?_
              refine am_goto (5) 168 dX12_letter_163 rfl ?_
              cases hyp
              exact am_iret dX12_letter_168 rfl
          · intro hc16
            have hc16 : x2 = 0 := hc16
            replace hyp := it_pos hc16 hyp
            refine am_iload_n dX12_letter_152 rfl ?_
            refine am_goto (15) 168 dX12_letter_153 rfl ?_
            cases hyp
            exact am_iret dX12_letter_168 rfl
        · intro hc6n
          have hc6n : ¬ (v5 = 0) := hc6n
          replace hyp := it_neg hc6n hyp
          refine am_iconst 0 (v := 0) dX12_letter_50 (by decide) ?_
          cases hyp
          exact am_iret dX12_letter_51 rfl
      · intro hc4
        have hc4 : (f_X12_in x2 (0 : Int32) (2 : Int32)) = 0 := hc4
        replace hyp := it_pos hc4 hyp
        refine am_iconst 1 (v := 1) dX12_letter_37 (by decide) ?_
        refine am_goto (4) 42 dX12_letter_38 rfl ?_
        refine am_iconst 2 (v := 2) dX12_letter_42 (by decide) ?_
        refine am_iconst 1 (v := 1) dX12_letter_43 (by decide) ?_
        obtain ⟨⟨v18, M18⟩, hk18, hyp⟩ := bd_some hyp
        try dsimp only at hyp
        refine am_callV [_, _, _] dX12_letter_44 ml_X12_179 vm_X12_bad (sh_54 g) rfl (fun _ => Nat.le_of_ble_eq_true rfl) (by omega) rfl (ef_X12_bad (d := d + 7) (h := h) g hk18) rfl ?_
        change am_At _ _ _ 47 [_, _, _, _, _, _, _, _] [_] _ _
        refine am_if_eq (5) 52 dX12_letter_47 rfl ?_ ?_
        · intro hc19
          have hc19 : v18 = 0 := hc19
          replace hyp := it_pos hc19 hyp
          refine am_iconst (-1) (v := (-1)) dX12_letter_52 (by decide) ?_
          refine am_istore_n dX12_letter_53 (am_lb rfl) ?_
          change am_At _ _ _ 54 [_, _, _, _, _, _, _, _] [] _ _
          refine am_iconst (-1) (v := (-1)) dX12_letter_54 (by decide) ?_
          refine am_istore dX12_letter_55 (am_lb rfl) ?_
          change am_At _ _ _ 57 [_, _, _, _, _, _, _, _] [] _ _
          refine am_iconst 0 (v := 0) dX12_letter_57 (by decide) ?_
          refine am_istore dX12_letter_58 (am_lb rfl) ?_
          change am_At _ _ _ 60 [_, _, _, _, _, _, _, _] [] _ _
          refine am_iconst 0 (v := 0) dX12_letter_60 (by decide) ?_
          refine am_istore dX12_letter_61 (am_lb rfl) ?_
          change am_At _ _ _ 63 [_, _, _, _, _, _, _, _] [] _ _
          refine am_aload_n dX12_letter_63 rfl ?_
          obtain ⟨M20, hk20, hyp⟩ := bd_some hyp
          try dsimp only at hyp
          refine am_callV [] dX12_letter_64 ml_X12_333 vm_X12_tries (sh_54 g) rfl (fun _ => Nat.le_of_ble_eq_true rfl) (by omega) rfl (ef_X12_tries (d := d + 6) (h := h) g hk20) rfl ?_
          change am_At _ _ _ 67 [_, _, _, _, _, _, _, _] [] _ _
          refine am_iload_n dX12_letter_67 rfl ?_
          refine am_istore dX12_letter_68 (am_lb rfl) ?_
          change am_At _ _ _ 70 [_, _, _, _, _, _, _, _] [] _ _
          obtain ⟨⟨x3_21, x4_21, x5_21, M21⟩, hw21, hyp⟩ := bd_some hyp
          refine am_At.drop 1 ?_
          try dsimp only at hyp
          refine eL_X12_letter_70 (d := d) (h := h) g  FU ((-1 : Int32), (-1 : Int32), (0 : Int32), (0 : Int32), x1, M20) (x3_21, x4_21, x5_21, M21) hw21 ?_
          change am_At _ _ _ 148 [_, _, _, _, _, _, _, _] [] _ _
          refine am_iload_n dX12_letter_148 rfl ?_
          refine am_if_ne (7) 156 dX12_letter_149 rfl ?_ ?_
          · intro hc22n
            have hc22n : ¬ (x2 = 0) := hc22n
            replace hyp := it_neg hc22n hyp
            refine am_iload_n dX12_letter_156 rfl ?_
            refine am_iconst 1 (v := 1) dX12_letter_157 (by decide) ?_
            refine am_icmp_ne (8) 166 dX12_letter_158 rfl ?_ ?_
            · intro hc23n
              have hc23n : ¬ (x2 = (1 : Int32)) := hc23n
              replace hyp := it_neg hc23n hyp
              refine am_iload dX12_letter_166 rfl ?_
              cases hyp
              exact am_iret dX12_letter_168 rfl
            · intro hc23
              have hc23 : x2 = (1 : Int32) := hc23
              replace hyp := it_pos hc23 hyp
              refine am_iload dX12_letter_161 rfl ?_
              refine am_goto (5) 168 dX12_letter_163 rfl ?_
              cases hyp
              exact am_iret dX12_letter_168 rfl
          · intro hc22
            have hc22 : x2 = 0 := hc22
            replace hyp := it_pos hc22 hyp
            refine am_iload_n dX12_letter_152 rfl ?_
            refine am_goto (15) 168 dX12_letter_153 rfl ?_
            cases hyp
            exact am_iret dX12_letter_168 rfl
        · intro hc19n
          have hc19n : ¬ (v18 = 0) := hc19n
          replace hyp := it_neg hc19n hyp
          refine am_iconst 0 (v := 0) dX12_letter_50 (by decide) ?_
          cases hyp
          exact am_iret dX12_letter_51 rfl
  · intro hc1
    have hc1 : (f_X12_in x1 (0 : Int32) (((am_u3 M 54 0 0 (0 : Int32)) 58 0 0) - (1 : Int32))) = 0 := hc1
    replace hyp := it_pos hc1 hyp
    refine am_iconst 1 (v := 1) dX12_letter_14 (by decide) ?_
    refine am_goto (4) 19 dX12_letter_15 rfl ?_
    refine am_iconst 1 (v := 1) dX12_letter_19 (by decide) ?_
    refine am_iconst 0 (v := 0) dX12_letter_20 (by decide) ?_
    obtain ⟨⟨v24, M24⟩, hk24, hyp⟩ := bd_some hyp
    try dsimp only at hyp
    refine am_callV [_, _, _] dX12_letter_21 ml_X12_179 vm_X12_bad (sh_54 g) rfl (fun _ => Nat.le_of_ble_eq_true rfl) (by omega) rfl (ef_X12_bad (d := d + 7) (h := h) g hk24) rfl ?_
    change am_At _ _ _ 24 [_, _, _, _, _, _, _, _] [_] _ _
    refine am_if_ne (26) 50 dX12_letter_24 rfl ?_ ?_
    · intro hc25n
      have hc25n : ¬ (v24 = 0) := hc25n
      replace hyp := it_neg hc25n hyp
      refine am_iconst 0 (v := 0) dX12_letter_50 (by decide) ?_
      cases hyp
      exact am_iret dX12_letter_51 rfl
    · intro hc25
      have hc25 : v24 = 0 := hc25
      replace hyp := it_pos hc25 hyp
      refine am_aload_n dX12_letter_27 rfl ?_
      refine am_iload_n dX12_letter_28 rfl ?_
      refine am_iconst 0 (v := 0) dX12_letter_29 (by decide) ?_
      refine am_iconst 2 (v := 2) dX12_letter_30 (by decide) ?_
      refine am_callS (c := 0) (k := 0) (n := 0) (w := 0) [_, _, _] dX12_letter_31 ml_X12_137 sm_X12_in rfl (fun _ => Nat.le_of_ble_eq_true rfl) (by omega) rfl (ef_X12_in (d := d + 7) (h := am_hM h M24) (x0 := x2) (x1 := (0 : Int32)) (x2 := (2 : Int32))  rfl) rfl ?_
      change am_At _ _ _ 34 [_, _, _, _, _, _, _, _] [_, _] _ _
      refine am_if_ne (7) 41 dX12_letter_34 rfl ?_ ?_
      · intro hc26n
        have hc26n : ¬ ((f_X12_in x2 (0 : Int32) (2 : Int32)) = 0) := hc26n
        replace hyp := it_neg hc26n hyp
        refine am_iconst 0 (v := 0) dX12_letter_41 (by decide) ?_
        refine am_iconst 2 (v := 2) dX12_letter_42 (by decide) ?_
        refine am_iconst 1 (v := 1) dX12_letter_43 (by decide) ?_
        obtain ⟨⟨v27, M27⟩, hk27, hyp⟩ := bd_some hyp
        try dsimp only at hyp
        refine am_callV [_, _, _] dX12_letter_44 ml_X12_179 vm_X12_bad (sh_54 g) rfl (fun _ => Nat.le_of_ble_eq_true rfl) (by omega) rfl (ef_X12_bad (d := d + 7) (h := h) g hk27) rfl ?_
        change am_At _ _ _ 47 [_, _, _, _, _, _, _, _] [_] _ _
        refine am_if_eq (5) 52 dX12_letter_47 rfl ?_ ?_
        · intro hc28
          have hc28 : v27 = 0 := hc28
          replace hyp := it_pos hc28 hyp
          refine am_iconst (-1) (v := (-1)) dX12_letter_52 (by decide) ?_
          refine am_istore_n dX12_letter_53 (am_lb rfl) ?_
          change am_At _ _ _ 54 [_, _, _, _, _, _, _, _] [] _ _
          refine am_iconst (-1) (v := (-1)) dX12_letter_54 (by decide) ?_
          refine am_istore dX12_letter_55 (am_lb rfl) ?_
          change am_At _ _ _ 57 [_, _, _, _, _, _, _, _] [] _ _
          refine am_iconst 0 (v := 0) dX12_letter_57 (by decide) ?_
          refine am_istore dX12_letter_58 (am_lb rfl) ?_
          change am_At _ _ _ 60 [_, _, _, _, _, _, _, _] [] _ _
          refine am_iconst 0 (v := 0) dX12_letter_60 (by decide) ?_
          refine am_istore dX12_letter_61 (am_lb rfl) ?_
          change am_At _ _ _ 63 [_, _, _, _, _, _, _, _] [] _ _
          refine am_aload_n dX12_letter_63 rfl ?_
          obtain ⟨M29, hk29, hyp⟩ := bd_some hyp
          try dsimp only at hyp
          refine am_callV [] dX12_letter_64 ml_X12_333 vm_X12_tries (sh_54 g) rfl (fun _ => Nat.le_of_ble_eq_true rfl) (by omega) rfl (ef_X12_tries (d := d + 6) (h := h) g hk29) rfl ?_
          change am_At _ _ _ 67 [_, _, _, _, _, _, _, _] [] _ _
          refine am_iload_n dX12_letter_67 rfl ?_
          refine am_istore dX12_letter_68 (am_lb rfl) ?_
          change am_At _ _ _ 70 [_, _, _, _, _, _, _, _] [] _ _
          obtain ⟨⟨x3_30, x4_30, x5_30, M30⟩, hw30, hyp⟩ := bd_some hyp
          refine am_At.drop 1 ?_
          try dsimp only at hyp
          refine eL_X12_letter_70 (d := d) (h := h) g  FU ((-1 : Int32), (-1 : Int32), (0 : Int32), (0 : Int32), x1, M29) (x3_30, x4_30, x5_30, M30) hw30 ?_
          change am_At _ _ _ 148 [_, _, _, _, _, _, _, _] [] _ _
          refine am_iload_n dX12_letter_148 rfl ?_
          refine am_if_ne (7) 156 dX12_letter_149 rfl ?_ ?_
          · intro hc31n
            have hc31n : ¬ (x2 = 0) := hc31n
            replace hyp := it_neg hc31n hyp
            refine am_iload_n dX12_letter_156 rfl ?_
            refine am_iconst 1 (v := 1) dX12_letter_157 (by decide) ?_
            refine am_icmp_ne (8) 166 dX12_letter_158 rfl ?_ ?_
            · intro hc32n
              have hc32n : ¬ (x2 = (1 : Int32)) := hc32n
              replace hyp := it_neg hc32n hyp
              refine am_iload dX12_letter_166 rfl ?_
              cases hyp
              exact am_iret dX12_letter_168 rfl
            · intro hc32
              have hc32 : x2 = (1 : Int32) := hc32
              replace hyp := it_pos hc32 hyp
              refine am_iload dX12_letter_161 rfl ?_
              refine am_goto (5) 168 dX12_letter_163 rfl ?_
              cases hyp
              exact am_iret dX12_letter_168 rfl
          · intro hc31
            have hc31 : x2 = 0 := hc31
            replace hyp := it_pos hc31 hyp
            refine am_iload_n dX12_letter_152 rfl ?_
            refine am_goto (15) 168 dX12_letter_153 rfl ?_
            cases hyp
            exact am_iret dX12_letter_168 rfl
        · intro hc28n
          have hc28n : ¬ (v27 = 0) := hc28n
          replace hyp := it_neg hc28n hyp
          refine am_iconst 0 (v := 0) dX12_letter_50 (by decide) ?_
          cases hyp
          exact am_iret dX12_letter_51 rfl
      · intro hc26
        have hc26 : (f_X12_in x2 (0 : Int32) (2 : Int32)) = 0 := hc26
        replace hyp := it_pos hc26 hyp
        refine am_iconst 1 (v := 1) dX12_letter_37 (by decide) ?_
        refine am_goto (4) 42 dX12_letter_38 rfl ?_
        refine am_iconst 2 (v := 2) dX12_letter_42 (by decide) ?_
        refine am_iconst 1 (v := 1) dX12_letter_43 (by decide) ?_
        obtain ⟨⟨v33, M33⟩, hk33, hyp⟩ := bd_some hyp
        try dsimp only at hyp
        refine am_callV [_, _, _] dX12_letter_44 ml_X12_179 vm_X12_bad (sh_54 g) rfl (fun _ => Nat.le_of_ble_eq_true rfl) (by omega) rfl (ef_X12_bad (d := d + 7) (h := h) g hk33) rfl ?_
        change am_At _ _ _ 47 [_, _, _, _, _, _, _, _] [_] _ _
        refine am_if_eq (5) 52 dX12_letter_47 rfl ?_ ?_
        · intro hc34
          have hc34 : v33 = 0 := hc34
          replace hyp := it_pos hc34 hyp
          refine am_iconst (-1) (v := (-1)) dX12_letter_52 (by decide) ?_
          refine am_istore_n dX12_letter_53 (am_lb rfl) ?_
          change am_At _ _ _ 54 [_, _, _, _, _, _, _, _] [] _ _
          refine am_iconst (-1) (v := (-1)) dX12_letter_54 (by decide) ?_
          refine am_istore dX12_letter_55 (am_lb rfl) ?_
          change am_At _ _ _ 57 [_, _, _, _, _, _, _, _] [] _ _
          refine am_iconst 0 (v := 0) dX12_letter_57 (by decide) ?_
          refine am_istore dX12_letter_58 (am_lb rfl) ?_
          change am_At _ _ _ 60 [_, _, _, _, _, _, _, _] [] _ _
          refine am_iconst 0 (v := 0) dX12_letter_60 (by decide) ?_
          refine am_istore dX12_letter_61 (am_lb rfl) ?_
          change am_At _ _ _ 63 [_, _, _, _, _, _, _, _] [] _ _
          refine am_aload_n dX12_letter_63 rfl ?_
          obtain ⟨M35, hk35, hyp⟩ := bd_some hyp
          try dsimp only at hyp
          refine am_callV [] dX12_letter_64 ml_X12_333 vm_X12_tries (sh_54 g) rfl (fun _ => Nat.le_of_ble_eq_true rfl) (by omega) rfl (ef_X12_tries (d := d + 6) (h := h) g hk35) rfl ?_
          change am_At _ _ _ 67 [_, _, _, _, _, _, _, _] [] _ _
          refine am_iload_n dX12_letter_67 rfl ?_
          refine am_istore dX12_letter_68 (am_lb rfl) ?_
          change am_At _ _ _ 70 [_, _, _, _, _, _, _, _] [] _ _
          obtain ⟨⟨x3_36, x4_36, x5_36, M36⟩, hw36, hyp⟩ := bd_some hyp
          refine am_At.drop 1 ?_
          try dsimp only at hyp
          refine eL_X12_letter_70 (d := d) (h := h) g  FU ((-1 : Int32), (-1 : Int32), (0 : Int32), (0 : Int32), x1, M35) (x3_36, x4_36, x5_36, M36) hw36 ?_
          change am_At _ _ _ 148 [_, _, _, _, _, _, _, _] [] _ _
          refine am_iload_n dX12_letter_148 rfl ?_
          refine am_if_ne (7) 156 dX12_letter_149 rfl ?_ ?_
          · intro hc37n
            have hc37n : ¬ (x2 = 0) := hc37n
            replace hyp := it_neg hc37n hyp
            refine am_iload_n dX12_letter_156 rfl ?_
            refine am_iconst 1 (v := 1) dX12_letter_157 (by decide) ?_
            refine am_icmp_ne (8) 166 dX12_letter_158 rfl ?_ ?_
            · intro hc38n
              have hc38n : ¬ (x2 = (1 : Int32)) := hc38n
              replace hyp := it_neg hc38n hyp
              refine am_iload dX12_letter_166 rfl ?_
              cases hyp
              exact am_iret dX12_letter_168 rfl
            · intro hc38
              have hc38 : x2 = (1 : Int32) := hc38
              replace hyp := it_pos hc38 hyp
              refine am_iload dX12_letter_161 rfl ?_
              refine am_goto (5) 168 dX12_letter_163 rfl ?_
              cases hyp
              exact am_iret dX12_letter_168 rfl
          · intro hc37
            have hc37 : x2 = 0 := hc37
            replace hyp := it_pos hc37 hyp
            refine am_iload_n dX12_letter_152 rfl ?_
            refine am_goto (15) 168 dX12_letter_153 rfl ?_
            cases hyp
            exact am_iret dX12_letter_168 rfl
        · intro hc34n
          have hc34n : ¬ (v33 = 0) := hc34n
          replace hyp := it_neg hc34n hyp
          refine am_iconst 0 (v := 0) dX12_letter_50 (by decide) ?_
          cases hyp
          exact am_iret dX12_letter_51 rfl
theorem eL_X12_often_63 {d : Nat} {h : am_H} (g : lay h) {x1 x2 : Int32} {r : am_R} (n : Nat) : ∀ (s : Int32 × Int32 × Mem) (e : Int32 × Mem), wh (L_X12_often_63 x1 x2) n s = some e → (match e with | (x3, M) => am_At am_X0 (d + 8) mX12_often 103 [some (.inr (54, 0)), some (am_I (x1)), some (am_I (x2)), some (am_I (x3)), none] [] (am_hM h M) r) → (match s with | (x3, x4, M) => am_At am_X0 (d + 8) mX12_often 63 [some (.inr (54, 0)), some (am_I (x1)), some (am_I (x2)), some (am_I (x3)), some (am_I (x4))] [] (am_hM h M) r) := by
  refine am_wh (At := fun (s : Int32 × Int32 × Mem) => match s with | (x3, x4, M) => am_At am_X0 (d + 8) mX12_often 63 [some (.inr (54, 0)), some (am_I (x1)), some (am_I (x2)), some (am_I (x3)), some (am_I (x4))] [] (am_hM h M) r) (Ex := fun (e : Int32 × Mem) => match e with | (x3, M) => am_At am_X0 (d + 8) mX12_often 103 [some (.inr (54, 0)), some (am_I (x1)), some (am_I (x2)), some (am_I (x3)), none] [] (am_hM h M) r) ?_ n
  rintro ⟨x3, x4, M⟩ y hyp hx
  unfold L_X12_often_63 at hyp
  try dsimp only at hyp
  change am_At _ _ _ 63 [_, _, _, _, _] [] _ _
  refine am_iload dX12_often_63 rfl ?_
  refine am_iload_n dX12_often_65 rfl ?_
  refine am_icmp_ge (37) 103 dX12_often_66 rfl ?_ ?_
  · intro hc8
    have hc8 : x2 ≤ x4 := hc8
    replace hyp := it_pos hc8 hyp
    cases hyp
    refine am_At.drop 4 ?_
    exact hx
  · intro hc8n
    have hc8n : ¬ (x2 ≤ x4) := hc8n
    replace hyp := it_neg hc8n hyp
    refine am_iload_n dX12_often_69 rfl ?_
    refine am_aload_n dX12_often_70 rfl ?_
    refine am_aload_n dX12_often_71 rfl ?_
    refine am_getR 12 30 73 dX12_often_72 fg_X12_70 (sh_54 g) (by decide) rfl (rf_54_30 g) ?_
    refine am_iload_n dX12_often_75 rfl ?_
    obtain ⟨⟨v9, M9⟩, hk9, hyp⟩ := bd_some hyp
    try dsimp only at hyp
    refine am_callV [_, _] dX12_often_76 ml_X12_273 vm_X12_opensIn (sh_54 g) rfl (fun _ => Nat.le_of_ble_eq_true rfl) (by omega) rfl (ef_X12_opensIn_73 (d := d + 2) (h := h) g hk9) rfl ?_
    change am_At _ _ _ 79 [_, _, _, _, _] [_, _] _ _
    refine am_if_eq (7) 86 dX12_often_79 rfl ?_ ?_
    · intro hc10
      have hc10 : v9 = 0 := hc10
      replace hyp := it_pos hc10 hyp
      refine am_iconst 0 (v := 0) dX12_often_86 (by decide) ?_
      refine am_iadd dX12_often_87 ?_
      refine am_istore_n dX12_often_88 (am_lb rfl) ?_
      change am_At _ _ _ 89 [_, _, _, _, _] [] _ _
      refine am_aload_n dX12_often_89 rfl ?_
      refine am_aload_n dX12_often_90 rfl ?_
      refine am_getR 12 30 73 dX12_often_91 fg_X12_70 (sh_54 g) (by decide) rfl (rf_54_30 g) ?_
      obtain ⟨M11, hk11, hyp⟩ := bd_some hyp
      try dsimp only at hyp
      refine am_callV [_] dX12_often_94 ml_X12_297 vm_X12_hourEnds (sh_54 g) rfl (fun _ => Nat.le_of_ble_eq_true rfl) (by omega) rfl (ef_X12_hourEnds_73 (d := d + 0) (h := h) g hk11) rfl ?_
      change am_At _ _ _ 97 [_, _, _, _, _] [] _ _
      refine am_iinc dX12_often_97 rfl (am_ix _) ?_
      change am_At _ _ _ 100 [_, _, _, _, _] [] _ _
      refine am_goto (-37) 63 dX12_often_100 rfl ?_
      cases hyp
      exact hx
    · intro hc10n
      have hc10n : ¬ (v9 = 0) := hc10n
      replace hyp := it_neg hc10n hyp
      refine am_iconst 1 (v := 1) dX12_often_82 (by decide) ?_
      refine am_goto (4) 87 dX12_often_83 rfl ?_
      refine am_iadd dX12_often_87 ?_
      refine am_istore_n dX12_often_88 (am_lb rfl) ?_
      change am_At _ _ _ 89 [_, _, _, _, _] [] _ _
      refine am_aload_n dX12_often_89 rfl ?_
      refine am_aload_n dX12_often_90 rfl ?_
      refine am_getR 12 30 73 dX12_often_91 fg_X12_70 (sh_54 g) (by decide) rfl (rf_54_30 g) ?_
      obtain ⟨M12, hk12, hyp⟩ := bd_some hyp
      try dsimp only at hyp
      refine am_callV [_] dX12_often_94 ml_X12_297 vm_X12_hourEnds (sh_54 g) rfl (fun _ => Nat.le_of_ble_eq_true rfl) (by omega) rfl (ef_X12_hourEnds_73 (d := d + 0) (h := h) g hk12) rfl ?_
      change am_At _ _ _ 97 [_, _, _, _, _] [] _ _
      refine am_iinc dX12_often_97 rfl (am_ix _) ?_
      change am_At _ _ _ 100 [_, _, _, _, _] [] _ _
      refine am_goto (-37) 63 dX12_often_100 rfl ?_
      cases hyp
      exact hx
theorem ef_X12_often {d : Nat} {h : am_H} (g : lay h) {x1 x2 : Int32} {M : Mem} {v : Int32} {M' : Mem} (hyp : f_X12_often x1 x2 M = some (v, M')) : am_Ev (d + 8) mX12_often [.inr (54, 0), am_I x1, am_I x2] (am_hM h M) (.inl (some (am_I v), am_hM h M')) := by
  unfold f_X12_often at hyp
  refine am_Ev.mk (by decide +kernel) rfl rfl (Nat.le_refl _) (Nat.le_refl _) ?_
  change am_At _ _ _ 0 [_, _, _, _, _] [] _ _
  refine am_aload_n dX12_often_0 rfl ?_
  refine am_iconst 0 (v := 0) dX12_often_1 (by decide) ?_
  refine am_putI 12 0 dX12_often_2 (Or.inl fp_X12_103) (sh_54 g) (by decide) rfl rfl rfl ?_
  refine am_aload_n dX12_often_5 rfl ?_
  refine am_aload_n dX12_often_6 rfl ?_
  refine am_iload_n dX12_often_7 rfl ?_
  refine am_callV [_] dX12_often_8 ml_X12_327 vm_X12_isBoard (sh_54 g) rfl (fun _ => Nat.le_of_ble_eq_true rfl) (by omega) rfl (ef_X12_isBoard (d := d + 6) (h := h) g (x1 := x1) (M := (am_u3 M 54 0 0 (0 : Int32))) rfl) rfl ?_
  change am_At _ _ _ 11 [_, _, _, _, _] [_, _] _ _
  refine am_if_ne (7) 18 dX12_often_11 rfl ?_ ?_
  · intro hc1n
    have hc1n : ¬ ((f_X12_in x1 (0 : Int32) (((am_u3 M 54 0 0 (0 : Int32)) 58 0 0) - (1 : Int32))) = 0) := hc1n
    replace hyp := it_neg hc1n hyp
    refine am_iconst 0 (v := 0) dX12_often_18 (by decide) ?_
    refine am_iconst 1 (v := 1) dX12_often_19 (by decide) ?_
    refine am_iconst 0 (v := 0) dX12_often_20 (by decide) ?_
    obtain ⟨⟨v2, M2⟩, hk2, hyp⟩ := bd_some hyp
    try dsimp only at hyp
    refine am_callV [_, _, _] dX12_often_21 ml_X12_179 vm_X12_bad (sh_54 g) rfl (fun _ => Nat.le_of_ble_eq_true rfl) (by omega) rfl (ef_X12_bad (d := d + 7) (h := h) g hk2) rfl ?_
    change am_At _ _ _ 24 [_, _, _, _, _] [_] _ _
    refine am_if_ne (28) 52 dX12_often_24 rfl ?_ ?_
    · intro hc3n
      have hc3n : ¬ (v2 = 0) := hc3n
      replace hyp := it_neg hc3n hyp
      refine am_iconst 0 (v := 0) dX12_often_52 (by decide) ?_
      cases hyp
      exact am_iret dX12_often_53 rfl
    · intro hc3
      have hc3 : v2 = 0 := hc3
      replace hyp := it_pos hc3 hyp
      refine am_aload_n dX12_often_27 rfl ?_
      refine am_iload_n dX12_often_28 rfl ?_
      refine am_iconst 0 (v := 0) dX12_often_29 (by decide) ?_
      refine am_sipush 240 (v := 240) dX12_often_30 (by decide) ?_
      refine am_callS (c := 0) (k := 0) (n := 0) (w := 0) [_, _, _] dX12_often_33 ml_X12_137 sm_X12_in rfl (fun _ => Nat.le_of_ble_eq_true rfl) (by omega) rfl (ef_X12_in (d := d + 7) (h := am_hM h M2) (x0 := x2) (x1 := (0 : Int32)) (x2 := (240 : Int32))  rfl) rfl ?_
      change am_At _ _ _ 36 [_, _, _, _, _] [_, _] _ _
      refine am_if_ne (7) 43 dX12_often_36 rfl ?_ ?_
      · intro hc4n
        have hc4n : ¬ ((f_X12_in x2 (0 : Int32) (240 : Int32)) = 0) := hc4n
        replace hyp := it_neg hc4n hyp
        refine am_iconst 0 (v := 0) dX12_often_43 (by decide) ?_
        refine am_iconst 2 (v := 2) dX12_often_44 (by decide) ?_
        refine am_iconst 1 (v := 1) dX12_often_45 (by decide) ?_
        obtain ⟨⟨v5, M5⟩, hk5, hyp⟩ := bd_some hyp
        try dsimp only at hyp
        refine am_callV [_, _, _] dX12_often_46 ml_X12_179 vm_X12_bad (sh_54 g) rfl (fun _ => Nat.le_of_ble_eq_true rfl) (by omega) rfl (ef_X12_bad (d := d + 7) (h := h) g hk5) rfl ?_
        change am_At _ _ _ 49 [_, _, _, _, _] [_] _ _
        refine am_if_eq (5) 54 dX12_often_49 rfl ?_ ?_
        · intro hc6
          have hc6 : v5 = 0 := hc6
          replace hyp := it_pos hc6 hyp
          refine am_iconst 0 (v := 0) dX12_often_54 (by decide) ?_
          refine am_istore_n dX12_often_55 (am_lb rfl) ?_
          change am_At _ _ _ 56 [_, _, _, _, _] [] _ _
          refine am_aload_n dX12_often_56 rfl ?_
          obtain ⟨M7, hk7, hyp⟩ := bd_some hyp
          try dsimp only at hyp
          refine am_callV [] dX12_often_57 ml_X12_333 vm_X12_tries (sh_54 g) rfl (fun _ => Nat.le_of_ble_eq_true rfl) (by omega) rfl (ef_X12_tries (d := d + 6) (h := h) g hk7) rfl ?_
          change am_At _ _ _ 60 [_, _, _, _, _] [] _ _
          refine am_iconst 0 (v := 0) dX12_often_60 (by decide) ?_
          refine am_istore dX12_often_61 (am_lb rfl) ?_
          change am_At _ _ _ 63 [_, _, _, _, _] [] _ _
          obtain ⟨⟨x3_13, M13⟩, hw13, hyp⟩ := bd_some hyp
          try dsimp only at hyp
          refine eL_X12_often_63 (d := d) (h := h) g  FU ((0 : Int32), (0 : Int32), M7) (x3_13, M13) hw13 ?_
          change am_At _ _ _ 103 [_, _, _, _, _] [] _ _
          refine am_iload_n dX12_often_103 rfl ?_
          cases hyp
          exact am_iret dX12_often_104 rfl
        · intro hc6n
          have hc6n : ¬ (v5 = 0) := hc6n
          replace hyp := it_neg hc6n hyp
          refine am_iconst 0 (v := 0) dX12_often_52 (by decide) ?_
          cases hyp
          exact am_iret dX12_often_53 rfl
      · intro hc4
        have hc4 : (f_X12_in x2 (0 : Int32) (240 : Int32)) = 0 := hc4
        replace hyp := it_pos hc4 hyp
        refine am_iconst 1 (v := 1) dX12_often_39 (by decide) ?_
        refine am_goto (4) 44 dX12_often_40 rfl ?_
        refine am_iconst 2 (v := 2) dX12_often_44 (by decide) ?_
        refine am_iconst 1 (v := 1) dX12_often_45 (by decide) ?_
        obtain ⟨⟨v14, M14⟩, hk14, hyp⟩ := bd_some hyp
        try dsimp only at hyp
        refine am_callV [_, _, _] dX12_often_46 ml_X12_179 vm_X12_bad (sh_54 g) rfl (fun _ => Nat.le_of_ble_eq_true rfl) (by omega) rfl (ef_X12_bad (d := d + 7) (h := h) g hk14) rfl ?_
        change am_At _ _ _ 49 [_, _, _, _, _] [_] _ _
        refine am_if_eq (5) 54 dX12_often_49 rfl ?_ ?_
        · intro hc15
          have hc15 : v14 = 0 := hc15
          replace hyp := it_pos hc15 hyp
          refine am_iconst 0 (v := 0) dX12_often_54 (by decide) ?_
          refine am_istore_n dX12_often_55 (am_lb rfl) ?_
          change am_At _ _ _ 56 [_, _, _, _, _] [] _ _
          refine am_aload_n dX12_often_56 rfl ?_
          obtain ⟨M16, hk16, hyp⟩ := bd_some hyp
          try dsimp only at hyp
          refine am_callV [] dX12_often_57 ml_X12_333 vm_X12_tries (sh_54 g) rfl (fun _ => Nat.le_of_ble_eq_true rfl) (by omega) rfl (ef_X12_tries (d := d + 6) (h := h) g hk16) rfl ?_
          change am_At _ _ _ 60 [_, _, _, _, _] [] _ _
          refine am_iconst 0 (v := 0) dX12_often_60 (by decide) ?_
          refine am_istore dX12_often_61 (am_lb rfl) ?_
          change am_At _ _ _ 63 [_, _, _, _, _] [] _ _
          obtain ⟨⟨x3_17, M17⟩, hw17, hyp⟩ := bd_some hyp
          try dsimp only at hyp
          refine eL_X12_often_63 (d := d) (h := h) g  FU ((0 : Int32), (0 : Int32), M16) (x3_17, M17) hw17 ?_
          change am_At _ _ _ 103 [_, _, _, _, _] [] _ _
          refine am_iload_n dX12_often_103 rfl ?_
          cases hyp
          exact am_iret dX12_often_104 rfl
        · intro hc15n
          have hc15n : ¬ (v14 = 0) := hc15n
          replace hyp := it_neg hc15n hyp
          refine am_iconst 0 (v := 0) dX12_often_52 (by decide) ?_
          cases hyp
          exact am_iret dX12_often_53 rfl
  · intro hc1
    have hc1 : (f_X12_in x1 (0 : Int32) (((am_u3 M 54 0 0 (0 : Int32)) 58 0 0) - (1 : Int32))) = 0 := hc1
    replace hyp := it_pos hc1 hyp
    refine am_iconst 1 (v := 1) dX12_often_14 (by decide) ?_
    refine am_goto (4) 19 dX12_often_15 rfl ?_
    refine am_iconst 1 (v := 1) dX12_often_19 (by decide) ?_
    refine am_iconst 0 (v := 0) dX12_often_20 (by decide) ?_
    obtain ⟨⟨v18, M18⟩, hk18, hyp⟩ := bd_some hyp
    try dsimp only at hyp
    refine am_callV [_, _, _] dX12_often_21 ml_X12_179 vm_X12_bad (sh_54 g) rfl (fun _ => Nat.le_of_ble_eq_true rfl) (by omega) rfl (ef_X12_bad (d := d + 7) (h := h) g hk18) rfl ?_
    change am_At _ _ _ 24 [_, _, _, _, _] [_] _ _
    refine am_if_ne (28) 52 dX12_often_24 rfl ?_ ?_
    · intro hc19n
      have hc19n : ¬ (v18 = 0) := hc19n
      replace hyp := it_neg hc19n hyp
      refine am_iconst 0 (v := 0) dX12_often_52 (by decide) ?_
      cases hyp
      exact am_iret dX12_often_53 rfl
    · intro hc19
      have hc19 : v18 = 0 := hc19
      replace hyp := it_pos hc19 hyp
      refine am_aload_n dX12_often_27 rfl ?_
      refine am_iload_n dX12_often_28 rfl ?_
      refine am_iconst 0 (v := 0) dX12_often_29 (by decide) ?_
      refine am_sipush 240 (v := 240) dX12_often_30 (by decide) ?_
      refine am_callS (c := 0) (k := 0) (n := 0) (w := 0) [_, _, _] dX12_often_33 ml_X12_137 sm_X12_in rfl (fun _ => Nat.le_of_ble_eq_true rfl) (by omega) rfl (ef_X12_in (d := d + 7) (h := am_hM h M18) (x0 := x2) (x1 := (0 : Int32)) (x2 := (240 : Int32))  rfl) rfl ?_
      change am_At _ _ _ 36 [_, _, _, _, _] [_, _] _ _
      refine am_if_ne (7) 43 dX12_often_36 rfl ?_ ?_
      · intro hc20n
        have hc20n : ¬ ((f_X12_in x2 (0 : Int32) (240 : Int32)) = 0) := hc20n
        replace hyp := it_neg hc20n hyp
        refine am_iconst 0 (v := 0) dX12_often_43 (by decide) ?_
        refine am_iconst 2 (v := 2) dX12_often_44 (by decide) ?_
        refine am_iconst 1 (v := 1) dX12_often_45 (by decide) ?_
        obtain ⟨⟨v21, M21⟩, hk21, hyp⟩ := bd_some hyp
        try dsimp only at hyp
        refine am_callV [_, _, _] dX12_often_46 ml_X12_179 vm_X12_bad (sh_54 g) rfl (fun _ => Nat.le_of_ble_eq_true rfl) (by omega) rfl (ef_X12_bad (d := d + 7) (h := h) g hk21) rfl ?_
        change am_At _ _ _ 49 [_, _, _, _, _] [_] _ _
        refine am_if_eq (5) 54 dX12_often_49 rfl ?_ ?_
        · intro hc22
          have hc22 : v21 = 0 := hc22
          replace hyp := it_pos hc22 hyp
          refine am_iconst 0 (v := 0) dX12_often_54 (by decide) ?_
          refine am_istore_n dX12_often_55 (am_lb rfl) ?_
          change am_At _ _ _ 56 [_, _, _, _, _] [] _ _
          refine am_aload_n dX12_often_56 rfl ?_
          obtain ⟨M23, hk23, hyp⟩ := bd_some hyp
          try dsimp only at hyp
          refine am_callV [] dX12_often_57 ml_X12_333 vm_X12_tries (sh_54 g) rfl (fun _ => Nat.le_of_ble_eq_true rfl) (by omega) rfl (ef_X12_tries (d := d + 6) (h := h) g hk23) rfl ?_
          change am_At _ _ _ 60 [_, _, _, _, _] [] _ _
          refine am_iconst 0 (v := 0) dX12_often_60 (by decide) ?_
          refine am_istore dX12_often_61 (am_lb rfl) ?_
          change am_At _ _ _ 63 [_, _, _, _, _] [] _ _
          obtain ⟨⟨x3_24, M24⟩, hw24, hyp⟩ := bd_some hyp
          try dsimp only at hyp
          refine eL_X12_often_63 (d := d) (h := h) g  FU ((0 : Int32), (0 : Int32), M23) (x3_24, M24) hw24 ?_
          change am_At _ _ _ 103 [_, _, _, _, _] [] _ _
          refine am_iload_n dX12_often_103 rfl ?_
          cases hyp
          exact am_iret dX12_often_104 rfl
        · intro hc22n
          have hc22n : ¬ (v21 = 0) := hc22n
          replace hyp := it_neg hc22n hyp
          refine am_iconst 0 (v := 0) dX12_often_52 (by decide) ?_
          cases hyp
          exact am_iret dX12_often_53 rfl
      · intro hc20
        have hc20 : (f_X12_in x2 (0 : Int32) (240 : Int32)) = 0 := hc20
        replace hyp := it_pos hc20 hyp
        refine am_iconst 1 (v := 1) dX12_often_39 (by decide) ?_
        refine am_goto (4) 44 dX12_often_40 rfl ?_
        refine am_iconst 2 (v := 2) dX12_often_44 (by decide) ?_
        refine am_iconst 1 (v := 1) dX12_often_45 (by decide) ?_
        obtain ⟨⟨v25, M25⟩, hk25, hyp⟩ := bd_some hyp
        try dsimp only at hyp
        refine am_callV [_, _, _] dX12_often_46 ml_X12_179 vm_X12_bad (sh_54 g) rfl (fun _ => Nat.le_of_ble_eq_true rfl) (by omega) rfl (ef_X12_bad (d := d + 7) (h := h) g hk25) rfl ?_
        change am_At _ _ _ 49 [_, _, _, _, _] [_] _ _
        refine am_if_eq (5) 54 dX12_often_49 rfl ?_ ?_
        · intro hc26
          have hc26 : v25 = 0 := hc26
          replace hyp := it_pos hc26 hyp
          refine am_iconst 0 (v := 0) dX12_often_54 (by decide) ?_
          refine am_istore_n dX12_often_55 (am_lb rfl) ?_
          change am_At _ _ _ 56 [_, _, _, _, _] [] _ _
          refine am_aload_n dX12_often_56 rfl ?_
          obtain ⟨M27, hk27, hyp⟩ := bd_some hyp
          try dsimp only at hyp
          refine am_callV [] dX12_often_57 ml_X12_333 vm_X12_tries (sh_54 g) rfl (fun _ => Nat.le_of_ble_eq_true rfl) (by omega) rfl (ef_X12_tries (d := d + 6) (h := h) g hk27) rfl ?_
          change am_At _ _ _ 60 [_, _, _, _, _] [] _ _
          refine am_iconst 0 (v := 0) dX12_often_60 (by decide) ?_
          refine am_istore dX12_often_61 (am_lb rfl) ?_
          change am_At _ _ _ 63 [_, _, _, _, _] [] _ _
          obtain ⟨⟨x3_28, M28⟩, hw28, hyp⟩ := bd_some hyp
          try dsimp only at hyp
          refine eL_X12_often_63 (d := d) (h := h) g  FU ((0 : Int32), (0 : Int32), M27) (x3_28, M28) hw28 ?_
          change am_At _ _ _ 103 [_, _, _, _, _] [] _ _
          refine am_iload_n dX12_often_103 rfl ?_
          cases hyp
          exact am_iret dX12_often_104 rfl
        · intro hc26n
          have hc26n : ¬ (v25 = 0) := hc26n
          replace hyp := it_neg hc26n hyp
          refine am_iconst 0 (v := 0) dX12_often_52 (by decide) ?_
          cases hyp
          exact am_iret dX12_often_53 rfl
theorem eL_X12_opens_35 {d : Nat} {h : am_H} (g : lay h) {x1 : Int32} {r : am_R} (n : Nat) : ∀ (s : Int32 × Mem) (e : (Int32 × Mem) ⊕ (Mem)), wh (L_X12_opens_35 x1) n s = some e → (match e with | (Sum.inl (x2, M)) => am_At am_X0 (d + 8) mX12_opens 54 [some (.inr (54, 0)), some (am_I (x1)), some (am_I (x2))] [] (am_hM h M) r | (Sum.inr M) => am_At am_X0 (d + 8) mX12_opens 70 [some (.inr (54, 0)), some (am_I (x1)), none] [] (am_hM h M) r) → (match s with | (x2, M) => am_At am_X0 (d + 8) mX12_opens 35 [some (.inr (54, 0)), some (am_I (x1)), some (am_I (x2))] [] (am_hM h M) r) := by
  refine am_wh (At := fun (s : Int32 × Mem) => match s with | (x2, M) => am_At am_X0 (d + 8) mX12_opens 35 [some (.inr (54, 0)), some (am_I (x1)), some (am_I (x2))] [] (am_hM h M) r) (Ex := fun (e : (Int32 × Mem) ⊕ (Mem)) => match e with | (Sum.inl (x2, M)) => am_At am_X0 (d + 8) mX12_opens 54 [some (.inr (54, 0)), some (am_I (x1)), some (am_I (x2))] [] (am_hM h M) r | (Sum.inr M) => am_At am_X0 (d + 8) mX12_opens 70 [some (.inr (54, 0)), some (am_I (x1)), none] [] (am_hM h M) r) ?_ n
  rintro ⟨x2, M⟩ y hyp hx
  unfold L_X12_opens_35 at hyp
  try dsimp only at hyp
  change am_At _ _ _ 35 [_, _, _] [] _ _
  refine am_iload_n dX12_opens_35 rfl ?_
  refine am_sipush 240 (v := 240) dX12_opens_36 (by decide) ?_
  refine am_icmp_gt (31) 70 dX12_opens_39 rfl ?_ ?_
  · intro hc5
    have hc5 : (240 : Int32) < x2 := hc5
    replace hyp := it_pos hc5 hyp
    cases hyp
    refine am_At.drop 2 ?_
    exact hx
  · intro hc5n
    have hc5n : ¬ ((240 : Int32) < x2) := hc5n
    replace hyp := it_neg hc5n hyp
    refine am_aload_n dX12_opens_42 rfl ?_
    refine am_aload_n dX12_opens_43 rfl ?_
    refine am_getR 12 30 73 dX12_opens_44 fg_X12_70 (sh_54 g) (by decide) rfl (rf_54_30 g) ?_
    refine am_iload_n dX12_opens_47 rfl ?_
    obtain ⟨⟨v6, M6⟩, hk6, hyp⟩ := bd_some hyp
    try dsimp only at hyp
    refine am_callV [_, _] dX12_opens_48 ml_X12_273 vm_X12_opensIn (sh_54 g) rfl (fun _ => Nat.le_of_ble_eq_true rfl) (by omega) rfl (ef_X12_opensIn_73 (d := d + 2) (h := h) g hk6) rfl ?_
    change am_At _ _ _ 51 [_, _, _] [_] _ _
    refine am_if_eq (5) 56 dX12_opens_51 rfl ?_ ?_
    · intro hc7
      have hc7 : v6 = 0 := hc7
      replace hyp := it_pos hc7 hyp
      refine am_aload_n dX12_opens_56 rfl ?_
      refine am_aload_n dX12_opens_57 rfl ?_
      refine am_getR 12 30 73 dX12_opens_58 fg_X12_70 (sh_54 g) (by decide) rfl (rf_54_30 g) ?_
      obtain ⟨M8, hk8, hyp⟩ := bd_some hyp
      try dsimp only at hyp
      refine am_callV [_] dX12_opens_61 ml_X12_297 vm_X12_hourEnds (sh_54 g) rfl (fun _ => Nat.le_of_ble_eq_true rfl) (by omega) rfl (ef_X12_hourEnds_73 (d := d + 0) (h := h) g hk8) rfl ?_
      change am_At _ _ _ 64 [_, _, _] [] _ _
      refine am_iinc dX12_opens_64 rfl (am_ix _) ?_
      change am_At _ _ _ 67 [_, _, _] [] _ _
      refine am_goto (-32) 35 dX12_opens_67 rfl ?_
      cases hyp
      exact hx
    · intro hc7n
      have hc7n : ¬ (v6 = 0) := hc7n
      replace hyp := it_neg hc7n hyp
      cases hyp
      exact hx
theorem ef_X12_opens {d : Nat} {h : am_H} (g : lay h) {x1 : Int32} {M : Mem} {v : Int32} {M' : Mem} (hyp : f_X12_opens x1 M = some (v, M')) : am_Ev (d + 8) mX12_opens [.inr (54, 0), am_I x1] (am_hM h M) (.inl (some (am_I v), am_hM h M')) := by
  unfold f_X12_opens at hyp
  refine am_Ev.mk (by decide +kernel) rfl rfl (Nat.le_refl _) (Nat.le_refl _) ?_
  change am_At _ _ _ 0 [_, _, _] [] _ _
  refine am_aload_n dX12_opens_0 rfl ?_
  refine am_iconst 0 (v := 0) dX12_opens_1 (by decide) ?_
  refine am_putI 12 0 dX12_opens_2 (Or.inl fp_X12_103) (sh_54 g) (by decide) rfl rfl rfl ?_
  refine am_aload_n dX12_opens_5 rfl ?_
  refine am_aload_n dX12_opens_6 rfl ?_
  refine am_iload_n dX12_opens_7 rfl ?_
  refine am_callV [_] dX12_opens_8 ml_X12_327 vm_X12_isBoard (sh_54 g) rfl (fun _ => Nat.le_of_ble_eq_true rfl) (by omega) rfl (ef_X12_isBoard (d := d + 6) (h := h) g (x1 := x1) (M := (am_u3 M 54 0 0 (0 : Int32))) rfl) rfl ?_
  change am_At _ _ _ 11 [_, _, _] [_, _] _ _
  refine am_if_ne (7) 18 dX12_opens_11 rfl ?_ ?_
  · intro hc1n
    have hc1n : ¬ ((f_X12_in x1 (0 : Int32) (((am_u3 M 54 0 0 (0 : Int32)) 58 0 0) - (1 : Int32))) = 0) := hc1n
    replace hyp := it_neg hc1n hyp
    refine am_iconst 0 (v := 0) dX12_opens_18 (by decide) ?_
    refine am_iconst 1 (v := 1) dX12_opens_19 (by decide) ?_
    refine am_iconst 0 (v := 0) dX12_opens_20 (by decide) ?_
    obtain ⟨⟨v2, M2⟩, hk2, hyp⟩ := bd_some hyp
    try dsimp only at hyp
    refine am_callV [_, _, _] dX12_opens_21 ml_X12_179 vm_X12_bad (sh_54 g) rfl (fun _ => Nat.le_of_ble_eq_true rfl) (by omega) rfl (ef_X12_bad (d := d + 7) (h := h) g hk2) rfl ?_
    change am_At _ _ _ 24 [_, _, _] [_] _ _
    refine am_if_eq (5) 29 dX12_opens_24 rfl ?_ ?_
    · intro hc3
      have hc3 : v2 = 0 := hc3
      replace hyp := it_pos hc3 hyp
      refine am_aload_n dX12_opens_29 rfl ?_
      obtain ⟨M4, hk4, hyp⟩ := bd_some hyp
      try dsimp only at hyp
      refine am_callV [] dX12_opens_30 ml_X12_333 vm_X12_tries (sh_54 g) rfl (fun _ => Nat.le_of_ble_eq_true rfl) (by omega) rfl (ef_X12_tries (d := d + 6) (h := h) g hk4) rfl ?_
      change am_At _ _ _ 33 [_, _, _] [] _ _
      refine am_iconst 0 (v := 0) dX12_opens_33 (by decide) ?_
      refine am_istore_n dX12_opens_34 (am_lb rfl) ?_
      change am_At _ _ _ 35 [_, _, _] [] _ _
      obtain ⟨e9, hw9, hyp⟩ := bd_some hyp
      rcases e9 with ⟨x2_9, M9⟩ | M9
      · try dsimp only at hyp
        refine eL_X12_opens_35 (d := d) (h := h) g  FU ((0 : Int32), M4) (Sum.inl (x2_9, M9)) hw9 ?_
        change am_At _ _ _ 54 [_, _, _] [] _ _
        refine am_iload_n dX12_opens_54 rfl ?_
        cases hyp
        exact am_iret dX12_opens_55 rfl
      · try dsimp only at hyp
        refine eL_X12_opens_35 (d := d) (h := h) g  FU ((0 : Int32), M4) (Sum.inr M9) hw9 ?_
        change am_At _ _ _ 70 [_, _, _] [] _ _
        refine am_iconst (-1) (v := (-1)) dX12_opens_70 (by decide) ?_
        cases hyp
        exact am_iret dX12_opens_71 rfl
    · intro hc3n
      have hc3n : ¬ (v2 = 0) := hc3n
      replace hyp := it_neg hc3n hyp
      refine am_iconst 0 (v := 0) dX12_opens_27 (by decide) ?_
      cases hyp
      exact am_iret dX12_opens_28 rfl
  · intro hc1
    have hc1 : (f_X12_in x1 (0 : Int32) (((am_u3 M 54 0 0 (0 : Int32)) 58 0 0) - (1 : Int32))) = 0 := hc1
    replace hyp := it_pos hc1 hyp
    refine am_iconst 1 (v := 1) dX12_opens_14 (by decide) ?_
    refine am_goto (4) 19 dX12_opens_15 rfl ?_
    refine am_iconst 1 (v := 1) dX12_opens_19 (by decide) ?_
    refine am_iconst 0 (v := 0) dX12_opens_20 (by decide) ?_
    obtain ⟨⟨v10, M10⟩, hk10, hyp⟩ := bd_some hyp
    try dsimp only at hyp
    refine am_callV [_, _, _] dX12_opens_21 ml_X12_179 vm_X12_bad (sh_54 g) rfl (fun _ => Nat.le_of_ble_eq_true rfl) (by omega) rfl (ef_X12_bad (d := d + 7) (h := h) g hk10) rfl ?_
    change am_At _ _ _ 24 [_, _, _] [_] _ _
    refine am_if_eq (5) 29 dX12_opens_24 rfl ?_ ?_
    · intro hc11
      have hc11 : v10 = 0 := hc11
      replace hyp := it_pos hc11 hyp
      refine am_aload_n dX12_opens_29 rfl ?_
      obtain ⟨M12, hk12, hyp⟩ := bd_some hyp
      try dsimp only at hyp
      refine am_callV [] dX12_opens_30 ml_X12_333 vm_X12_tries (sh_54 g) rfl (fun _ => Nat.le_of_ble_eq_true rfl) (by omega) rfl (ef_X12_tries (d := d + 6) (h := h) g hk12) rfl ?_
      change am_At _ _ _ 33 [_, _, _] [] _ _
      refine am_iconst 0 (v := 0) dX12_opens_33 (by decide) ?_
      refine am_istore_n dX12_opens_34 (am_lb rfl) ?_
      change am_At _ _ _ 35 [_, _, _] [] _ _
      obtain ⟨e13, hw13, hyp⟩ := bd_some hyp
      rcases e13 with ⟨x2_13, M13⟩ | M13
      · try dsimp only at hyp
        refine eL_X12_opens_35 (d := d) (h := h) g  FU ((0 : Int32), M12) (Sum.inl (x2_13, M13)) hw13 ?_
        change am_At _ _ _ 54 [_, _, _] [] _ _
        refine am_iload_n dX12_opens_54 rfl ?_
        cases hyp
        exact am_iret dX12_opens_55 rfl
      · try dsimp only at hyp
        refine eL_X12_opens_35 (d := d) (h := h) g  FU ((0 : Int32), M12) (Sum.inr M13) hw13 ?_
        change am_At _ _ _ 70 [_, _, _] [] _ _
        refine am_iconst (-1) (v := (-1)) dX12_opens_70 (by decide) ?_
        cases hyp
        exact am_iret dX12_opens_71 rfl
    · intro hc11n
      have hc11n : ¬ (v10 = 0) := hc11n
      replace hyp := it_neg hc11n hyp
      refine am_iconst 0 (v := 0) dX12_opens_27 (by decide) ?_
      cases hyp
      exact am_iret dX12_opens_28 rfl
theorem eL_X12_peak_41 {d : Nat} {h : am_H} (g : lay h) {x1 : Int32} {r : am_R} (n : Nat) : ∀ (s : Int32 × Int32 × Int32 × Mem) (e : Int32 × Int32 × Mem), wh (L_X12_peak_41) n s = some e → (match e with | (x2, x3, M) => am_At am_X0 (d + 8) mX12_peak 88 [some (.inr (54, 0)), some (am_I (x1)), some (am_I (x2)), some (am_I (x3)), none, none] [] (am_hM h M) r) → (match s with | (x2, x3, x4, M) => am_At am_X0 (d + 8) mX12_peak 41 [some (.inr (54, 0)), some (am_I (x1)), some (am_I (x2)), some (am_I (x3)), some (am_I (x4)), none] [] (am_hM h M) r) := by
  refine am_wh (At := fun (s : Int32 × Int32 × Int32 × Mem) => match s with | (x2, x3, x4, M) => am_At am_X0 (d + 8) mX12_peak 41 [some (.inr (54, 0)), some (am_I (x1)), some (am_I (x2)), some (am_I (x3)), some (am_I (x4)), none] [] (am_hM h M) r) (Ex := fun (e : Int32 × Int32 × Mem) => match e with | (x2, x3, M) => am_At am_X0 (d + 8) mX12_peak 88 [some (.inr (54, 0)), some (am_I (x1)), some (am_I (x2)), some (am_I (x3)), none, none] [] (am_hM h M) r) ?_ n
  rintro ⟨x2, x3, x4, M⟩ y hyp hx
  unfold L_X12_peak_41 at hyp
  try dsimp only at hyp
  change am_At _ _ _ 41 [_, _, _, _, _, _] [] _ _
  refine am_iload dX12_peak_41 rfl ?_
  refine am_sipush 240 (v := 240) dX12_peak_43 (by decide) ?_
  refine am_icmp_ge (42) 88 dX12_peak_46 rfl ?_ ?_
  · intro hc5
    have hc5 : (240 : Int32) ≤ x4 := hc5
    replace hyp := it_pos hc5 hyp
    cases hyp
    refine am_At.drop 4 ?_
    exact hx
  · intro hc5n
    have hc5n : ¬ ((240 : Int32) ≤ x4) := hc5n
    replace hyp := it_neg hc5n hyp
    refine am_aload_n dX12_peak_49 rfl ?_
    refine am_aload_n dX12_peak_50 rfl ?_
    refine am_getR 12 30 73 dX12_peak_51 fg_X12_70 (sh_54 g) (by decide) rfl (rf_54_30 g) ?_
    obtain ⟨⟨v6, M6⟩, hk6, hyp⟩ := bd_some hyp
    try dsimp only at hyp
    refine am_callV [_] dX12_peak_54 ml_X12_276 vm_X12_openBits (sh_54 g) rfl (fun _ => Nat.le_of_ble_eq_true rfl) (by omega) rfl (ef_X12_openBits_73 (d := d + 1) (h := h) g hk6) rfl ?_
    change am_At _ _ _ 57 [_, _, _, _, _, _] [_] _ _
    obtain ⟨v7, hk7, hyp⟩ := bd_some hyp
    try dsimp only at hyp
    refine am_callS (c := 0) (k := 0) (n := 0) (w := 0) [_] dX12_peak_57 ml_X12_318 sm_X12_ones rfl (fun _ => Nat.le_of_ble_eq_true rfl) (by omega) rfl (ef_X12_ones (d := d + 7) (h := am_hM h M6) hk7) rfl ?_
    change am_At _ _ _ 60 [_, _, _, _, _, _] [_] _ _
    refine am_istore dX12_peak_60 (am_lb rfl) ?_
    change am_At _ _ _ 62 [_, _, _, _, _, _] [] _ _
    refine am_iload dX12_peak_62 rfl ?_
    refine am_iload_n dX12_peak_64 rfl ?_
    refine am_icmp_le (9) 74 dX12_peak_65 rfl ?_ ?_
    · intro hc8
      have hc8 : v7 ≤ x3 := hc8
      replace hyp := it_pos hc8 hyp
      refine am_aload_n dX12_peak_74 rfl ?_
      refine am_aload_n dX12_peak_75 rfl ?_
      refine am_getR 12 30 73 dX12_peak_76 fg_X12_70 (sh_54 g) (by decide) rfl (rf_54_30 g) ?_
      obtain ⟨M9, hk9, hyp⟩ := bd_some hyp
      try dsimp only at hyp
      refine am_callV [_] dX12_peak_79 ml_X12_297 vm_X12_hourEnds (sh_54 g) rfl (fun _ => Nat.le_of_ble_eq_true rfl) (by omega) rfl (ef_X12_hourEnds_73 (d := d + 0) (h := h) g hk9) rfl ?_
      change am_At _ _ _ 82 [_, _, _, _, _, _] [] _ _
      refine am_iinc dX12_peak_82 rfl (am_ix _) ?_
      change am_At _ _ _ 85 [_, _, _, _, _, _] [] _ _
      refine am_goto (-44) 41 dX12_peak_85 rfl ?_
      cases hyp
      refine am_At.drop 5 ?_
      exact hx
    · intro hc8n
      have hc8n : ¬ (v7 ≤ x3) := hc8n
      replace hyp := it_neg hc8n hyp
      refine am_iload dX12_peak_68 rfl ?_
      refine am_istore_n dX12_peak_70 (am_lb rfl) ?_
      change am_At _ _ _ 71 [_, _, _, _, _, _] [] _ _
      refine am_iload dX12_peak_71 rfl ?_
      refine am_istore_n dX12_peak_73 (am_lb rfl) ?_
      change am_At _ _ _ 74 [_, _, _, _, _, _] [] _ _
      refine am_aload_n dX12_peak_74 rfl ?_
      refine am_aload_n dX12_peak_75 rfl ?_
      refine am_getR 12 30 73 dX12_peak_76 fg_X12_70 (sh_54 g) (by decide) rfl (rf_54_30 g) ?_
      obtain ⟨M10, hk10, hyp⟩ := bd_some hyp
      try dsimp only at hyp
      refine am_callV [_] dX12_peak_79 ml_X12_297 vm_X12_hourEnds (sh_54 g) rfl (fun _ => Nat.le_of_ble_eq_true rfl) (by omega) rfl (ef_X12_hourEnds_73 (d := d + 0) (h := h) g hk10) rfl ?_
      change am_At _ _ _ 82 [_, _, _, _, _, _] [] _ _
      refine am_iinc dX12_peak_82 rfl (am_ix _) ?_
      change am_At _ _ _ 85 [_, _, _, _, _, _] [] _ _
      refine am_goto (-44) 41 dX12_peak_85 rfl ?_
      cases hyp
      refine am_At.drop 5 ?_
      exact hx
theorem ef_X12_peak {d : Nat} {h : am_H} (g : lay h) {x1 : Int32} {M : Mem} {v : Int32} {M' : Mem} (hyp : f_X12_peak x1 M = some (v, M')) : am_Ev (d + 8) mX12_peak [.inr (54, 0), am_I x1] (am_hM h M) (.inl (some (am_I v), am_hM h M')) := by
  unfold f_X12_peak at hyp
  refine am_Ev.mk (by decide +kernel) rfl rfl (Nat.le_refl _) (Nat.le_refl _) ?_
  change am_At _ _ _ 0 [_, _, _, _, _, _] [] _ _
  refine am_aload_n dX12_peak_0 rfl ?_
  refine am_iconst 0 (v := 0) dX12_peak_1 (by decide) ?_
  refine am_putI 12 0 dX12_peak_2 (Or.inl fp_X12_103) (sh_54 g) (by decide) rfl rfl rfl ?_
  refine am_aload_n dX12_peak_5 rfl ?_
  refine am_iload_n dX12_peak_6 rfl ?_
  refine am_iconst 0 (v := 0) dX12_peak_7 (by decide) ?_
  refine am_iconst 1 (v := 1) dX12_peak_8 (by decide) ?_
  refine am_callS (c := 0) (k := 0) (n := 0) (w := 0) [_, _, _] dX12_peak_9 ml_X12_137 sm_X12_in rfl (fun _ => Nat.le_of_ble_eq_true rfl) (by omega) rfl (ef_X12_in (d := d + 7) (h := am_hM h (am_u3 M 54 0 0 (0 : Int32))) (x0 := x1) (x1 := (0 : Int32)) (x2 := (1 : Int32))  rfl) rfl ?_
  change am_At _ _ _ 12 [_, _, _, _, _, _] [_, _] _ _
  refine am_if_ne (7) 19 dX12_peak_12 rfl ?_ ?_
  · intro hc1n
    have hc1n : ¬ ((f_X12_in x1 (0 : Int32) (1 : Int32)) = 0) := hc1n
    replace hyp := it_neg hc1n hyp
    refine am_iconst 0 (v := 0) dX12_peak_19 (by decide) ?_
    refine am_iconst 1 (v := 1) dX12_peak_20 (by decide) ?_
    refine am_iconst 1 (v := 1) dX12_peak_21 (by decide) ?_
    obtain ⟨⟨v2, M2⟩, hk2, hyp⟩ := bd_some hyp
    try dsimp only at hyp
    refine am_callV [_, _, _] dX12_peak_22 ml_X12_179 vm_X12_bad (sh_54 g) rfl (fun _ => Nat.le_of_ble_eq_true rfl) (by omega) rfl (ef_X12_bad (d := d + 7) (h := h) g hk2) rfl ?_
    change am_At _ _ _ 25 [_, _, _, _, _, _] [_] _ _
    refine am_if_eq (5) 30 dX12_peak_25 rfl ?_ ?_
    · intro hc3
      have hc3 : v2 = 0 := hc3
      replace hyp := it_pos hc3 hyp
      refine am_iconst 0 (v := 0) dX12_peak_30 (by decide) ?_
      refine am_istore_n dX12_peak_31 (am_lb rfl) ?_
      change am_At _ _ _ 32 [_, _, _, _, _, _] [] _ _
      refine am_iconst (-1) (v := (-1)) dX12_peak_32 (by decide) ?_
      refine am_istore_n dX12_peak_33 (am_lb rfl) ?_
      change am_At _ _ _ 34 [_, _, _, _, _, _] [] _ _
      refine am_aload_n dX12_peak_34 rfl ?_
      obtain ⟨M4, hk4, hyp⟩ := bd_some hyp
      try dsimp only at hyp
      refine am_callV [] dX12_peak_35 ml_X12_333 vm_X12_tries (sh_54 g) rfl (fun _ => Nat.le_of_ble_eq_true rfl) (by omega) rfl (ef_X12_tries (d := d + 6) (h := h) g hk4) rfl ?_
      change am_At _ _ _ 38 [_, _, _, _, _, _] [] _ _
      refine am_iconst 0 (v := 0) dX12_peak_38 (by decide) ?_
      refine am_istore dX12_peak_39 (am_lb rfl) ?_
      change am_At _ _ _ 41 [_, _, _, _, _, _] [] _ _
      obtain ⟨⟨x2_11, x3_11, M11⟩, hw11, hyp⟩ := bd_some hyp
      try dsimp only at hyp
      refine eL_X12_peak_41 (d := d) (h := h) g  FU ((0 : Int32), (-1 : Int32), (0 : Int32), M4) (x2_11, x3_11, M11) hw11 ?_
      change am_At _ _ _ 88 [_, _, _, _, _, _] [] _ _
      refine am_iload_n dX12_peak_88 rfl ?_
      refine am_if_ne (7) 96 dX12_peak_89 rfl ?_ ?_
      · intro hc12n
        have hc12n : ¬ (x1 = 0) := hc12n
        replace hyp := it_neg hc12n hyp
        refine am_iload_n dX12_peak_96 rfl ?_
        cases hyp
        exact am_iret dX12_peak_97 rfl
      · intro hc12
        have hc12 : x1 = 0 := hc12
        replace hyp := it_pos hc12 hyp
        refine am_iload_n dX12_peak_92 rfl ?_
        refine am_goto (4) 97 dX12_peak_93 rfl ?_
        cases hyp
        exact am_iret dX12_peak_97 rfl
    · intro hc3n
      have hc3n : ¬ (v2 = 0) := hc3n
      replace hyp := it_neg hc3n hyp
      refine am_iconst 0 (v := 0) dX12_peak_28 (by decide) ?_
      cases hyp
      exact am_iret dX12_peak_29 rfl
  · intro hc1
    have hc1 : (f_X12_in x1 (0 : Int32) (1 : Int32)) = 0 := hc1
    replace hyp := it_pos hc1 hyp
    refine am_iconst 1 (v := 1) dX12_peak_15 (by decide) ?_
    refine am_goto (4) 20 dX12_peak_16 rfl ?_
    refine am_iconst 1 (v := 1) dX12_peak_20 (by decide) ?_
    refine am_iconst 1 (v := 1) dX12_peak_21 (by decide) ?_
    obtain ⟨⟨v13, M13⟩, hk13, hyp⟩ := bd_some hyp
    try dsimp only at hyp
    refine am_callV [_, _, _] dX12_peak_22 ml_X12_179 vm_X12_bad (sh_54 g) rfl (fun _ => Nat.le_of_ble_eq_true rfl) (by omega) rfl (ef_X12_bad (d := d + 7) (h := h) g hk13) rfl ?_
    change am_At _ _ _ 25 [_, _, _, _, _, _] [_] _ _
    refine am_if_eq (5) 30 dX12_peak_25 rfl ?_ ?_
    · intro hc14
      have hc14 : v13 = 0 := hc14
      replace hyp := it_pos hc14 hyp
      refine am_iconst 0 (v := 0) dX12_peak_30 (by decide) ?_
      refine am_istore_n dX12_peak_31 (am_lb rfl) ?_
      change am_At _ _ _ 32 [_, _, _, _, _, _] [] _ _
      refine am_iconst (-1) (v := (-1)) dX12_peak_32 (by decide) ?_
      refine am_istore_n dX12_peak_33 (am_lb rfl) ?_
      change am_At _ _ _ 34 [_, _, _, _, _, _] [] _ _
      refine am_aload_n dX12_peak_34 rfl ?_
      obtain ⟨M15, hk15, hyp⟩ := bd_some hyp
      try dsimp only at hyp
      refine am_callV [] dX12_peak_35 ml_X12_333 vm_X12_tries (sh_54 g) rfl (fun _ => Nat.le_of_ble_eq_true rfl) (by omega) rfl (ef_X12_tries (d := d + 6) (h := h) g hk15) rfl ?_
      change am_At _ _ _ 38 [_, _, _, _, _, _] [] _ _
      refine am_iconst 0 (v := 0) dX12_peak_38 (by decide) ?_
      refine am_istore dX12_peak_39 (am_lb rfl) ?_
      change am_At _ _ _ 41 [_, _, _, _, _, _] [] _ _
      obtain ⟨⟨x2_16, x3_16, M16⟩, hw16, hyp⟩ := bd_some hyp
      try dsimp only at hyp
      refine eL_X12_peak_41 (d := d) (h := h) g  FU ((0 : Int32), (-1 : Int32), (0 : Int32), M15) (x2_16, x3_16, M16) hw16 ?_
      change am_At _ _ _ 88 [_, _, _, _, _, _] [] _ _
      refine am_iload_n dX12_peak_88 rfl ?_
      refine am_if_ne (7) 96 dX12_peak_89 rfl ?_ ?_
      · intro hc17n
        have hc17n : ¬ (x1 = 0) := hc17n
        replace hyp := it_neg hc17n hyp
        refine am_iload_n dX12_peak_96 rfl ?_
        cases hyp
        exact am_iret dX12_peak_97 rfl
      · intro hc17
        have hc17 : x1 = 0 := hc17
        replace hyp := it_pos hc17 hyp
        refine am_iload_n dX12_peak_92 rfl ?_
        refine am_goto (4) 97 dX12_peak_93 rfl ?_
        cases hyp
        exact am_iret dX12_peak_97 rfl
    · intro hc14n
      have hc14n : ¬ (v13 = 0) := hc14n
      replace hyp := it_neg hc14n hyp
      refine am_iconst 0 (v := 0) dX12_peak_28 (by decide) ?_
      cases hyp
      exact am_iret dX12_peak_29 rfl
