theorem eL_X12_span_62 {d : Nat} {h : am_H} (g : lay h) {x1 x2 x3 x4 x5 : Int32} {r : am_R} (n : Nat) : ∀ (s : Int32 × Int32 × Int32 × Int32 × Mem) (e : Int32 × Int32 × Int32 × Mem), wh (L_X12_span_62 x1 x2 x3 x4) n s = some e → (match e with | (x6, x7, x8, M) => am_At am_X0 (d + 9) mX12_span 164 [some (.inr (54, 0)), some (am_I (x1)), some (am_I (x2)), some (am_I (x3)), some (am_I (x4)), some (am_I (x5)), some (am_I (x6)), some (am_I (x7)), some (am_I (x8)), none, none] [] (am_hM h M) r) → (match s with | (x6, x7, x8, x9, M) => am_At am_X0 (d + 9) mX12_span 62 [some (.inr (54, 0)), some (am_I (x1)), some (am_I (x2)), some (am_I (x3)), some (am_I (x4)), some (am_I (x5)), some (am_I (x6)), some (am_I (x7)), some (am_I (x8)), some (am_I (x9)), none] [] (am_hM h M) r) := by
  refine am_wh (At := fun (s : Int32 × Int32 × Int32 × Int32 × Mem) => match s with | (x6, x7, x8, x9, M) => am_At am_X0 (d + 9) mX12_span 62 [some (.inr (54, 0)), some (am_I (x1)), some (am_I (x2)), some (am_I (x3)), some (am_I (x4)), some (am_I (x5)), some (am_I (x6)), some (am_I (x7)), some (am_I (x8)), some (am_I (x9)), none] [] (am_hM h M) r) (Ex := fun (e : Int32 × Int32 × Int32 × Mem) => match e with | (x6, x7, x8, M) => am_At am_X0 (d + 9) mX12_span 164 [some (.inr (54, 0)), some (am_I (x1)), some (am_I (x2)), some (am_I (x3)), some (am_I (x4)), some (am_I (x5)), some (am_I (x6)), some (am_I (x7)), some (am_I (x8)), none, none] [] (am_hM h M) r) ?_ n
  rintro ⟨x6, x7, x8, x9, M⟩ y hyp hx
  unfold L_X12_span_62 at hyp
  try dsimp only at hyp
  change am_At _ _ _ 62 [_, _, _, _, _, _, _, _, _, _, _] [] _ _
  refine am_iload dX12_span_62 rfl ?_
  refine am_iload_n dX12_span_64 rfl ?_
  refine am_icmp_ge (99) 164 dX12_span_65 rfl ?_ ?_
  · intro hc4
    have hc4 : x2 ≤ x9 := hc4
    replace hyp := it_pos hc4 hyp
    cases hyp
    refine am_At.drop 9 ?_
    exact hx
  · intro hc4n
    have hc4n : ¬ (x2 ≤ x9) := hc4n
    replace hyp := it_neg hc4n hyp
    refine am_aload_n dX12_span_68 rfl ?_
    refine am_iload_n dX12_span_69 rfl ?_
    refine am_iload dX12_span_70 rfl ?_
    refine am_iadd dX12_span_72 ?_
    refine am_iload_n dX12_span_73 rfl ?_
    refine am_iload dX12_span_74 rfl ?_
    obtain ⟨M5, hk5, hyp⟩ := bd_some hyp
    try dsimp only at hyp
    refine am_callV [_, _, _] dX12_span_76 ml_X12_379 vm_X12_wintersBy (sh_54 g) rfl (fun _ => Nat.le_of_ble_eq_true rfl) (by omega) rfl (ef_X12_wintersBy (d := d + 0) (h := h) g hk5) rfl ?_
    change am_At _ _ _ 79 [_, _, _, _, _, _, _, _, _, _, _] [] _ _
    refine am_aload_n dX12_span_79 rfl ?_
    refine am_aload_n dX12_span_80 rfl ?_
    refine am_getR 12 30 73 dX12_span_81 fg_X12_70 (sh_54 g) (by decide) rfl (rf_54_30 g) ?_
    refine am_bipush 32 (v := 32) dX12_span_84 (by decide) ?_
    obtain ⟨v6, hk6, hyp⟩ := bd_some hyp
    try dsimp only at hyp
    refine am_callV [_, _] dX12_span_86 ml_X12_321 vm_X12_sumOf (sh_54 g) rfl (fun _ => Nat.le_of_ble_eq_true rfl) (by omega) rfl (ef_X12_sumOf_73 (d := d + 8) (h := h) g hk6) rfl ?_
    change am_At _ _ _ 89 [_, _, _, _, _, _, _, _, _, _, _] [_] _ _
    refine am_aload_n dX12_span_89 rfl ?_
    refine am_aload_n dX12_span_90 rfl ?_
    refine am_getR 12 29 72 dX12_span_91 fg_X12_67 (sh_54 g) (by decide) rfl (rf_54_29 g) ?_
    refine am_bipush 32 (v := 32) dX12_span_94 (by decide) ?_
    obtain ⟨v7, hk7, hyp⟩ := bd_some hyp
    try dsimp only at hyp
    refine am_callV [_, _] dX12_span_96 ml_X12_321 vm_X12_sumOf (sh_54 g) rfl (fun _ => Nat.le_of_ble_eq_true rfl) (by omega) rfl (ef_X12_sumOf_72 (d := d + 8) (h := h) g hk7) rfl ?_
    change am_At _ _ _ 99 [_, _, _, _, _, _, _, _, _, _, _] [_, _] _ _
    refine am_isub dX12_span_99 ?_
    refine am_istore dX12_span_100 (am_lb rfl) ?_
    change am_At _ _ _ 102 [_, _, _, _, _, _, _, _, _, _, _] [] _ _
    refine am_iload dX12_span_102 rfl ?_
    refine am_iconst (-1) (v := (-1)) dX12_span_104 (by decide) ?_
    refine am_icmp_ne (8) 113 dX12_span_105 rfl ?_ ?_
    · intro hc8n
      have hc8n : ¬ (x6 = (-1 : Int32)) := hc8n
      replace hyp := it_neg hc8n hyp
      refine am_iload dX12_span_113 rfl ?_
      refine am_iload dX12_span_115 rfl ?_
      refine am_callS (c := 0) (k := 0) (n := 0) (w := 0) [_, _] dX12_span_117 ml_X12_239 sm_X12_less rfl (fun _ => Nat.le_of_ble_eq_true rfl) (by omega) rfl (ef_X12_less (d := d + 8) (h := am_hM h M5) (x0 := x6) (x1 := (v6 - v7))  rfl) rfl ?_
      change am_At _ _ _ 120 [_, _, _, _, _, _, _, _, _, _, _] [_] _ _
      refine am_istore dX12_span_120 (am_lb rfl) ?_
      change am_At _ _ _ 122 [_, _, _, _, _, _, _, _, _, _, _] [] _ _
      refine am_iload dX12_span_122 rfl ?_
      refine am_iload dX12_span_124 rfl ?_
      refine am_callS (c := 0) (k := 0) (n := 0) (w := 0) [_, _] dX12_span_126 ml_X12_242 sm_X12_more rfl (fun _ => Nat.le_of_ble_eq_true rfl) (by omega) rfl (ef_X12_more (d := d + 8) (h := am_hM h M5) (x0 := x7) (x1 := (v6 - v7))  rfl) rfl ?_
      change am_At _ _ _ 129 [_, _, _, _, _, _, _, _, _, _, _] [_] _ _
      refine am_istore dX12_span_129 (am_lb rfl) ?_
      change am_At _ _ _ 131 [_, _, _, _, _, _, _, _, _, _, _] [] _ _
      refine am_iload dX12_span_131 rfl ?_
      refine am_aload_n dX12_span_133 rfl ?_
      refine am_aload_n dX12_span_134 rfl ?_
      refine am_getR 12 30 73 dX12_span_135 fg_X12_70 (sh_54 g) (by decide) rfl (rf_54_30 g) ?_
      obtain ⟨v9, hk9, hyp⟩ := bd_some hyp
      try dsimp only at hyp
      refine am_callV [_] dX12_span_138 ml_X12_324 vm_X12_throughIn (sh_54 g) rfl (fun _ => Nat.le_of_ble_eq_true rfl) (by omega) rfl (ef_X12_throughIn_73 (d := d + 8) (h := h) g hk9) rfl ?_
      change am_At _ _ _ 141 [_, _, _, _, _, _, _, _, _, _, _] [_, _] _ _
      refine am_aload_n dX12_span_141 rfl ?_
      refine am_getR 12 12 58 dX12_span_142 fg_X12_23 (sh_54 g) (by decide) rfl (rf_54_12 g) ?_
      refine am_iconst 1 (v := 1) dX12_span_145 (by decide) ?_
      refine am_iald dX12_span_146 (am_ia.one (sh_58 g)) (am_lit rfl) ?_
      refine am_icmp_ne (7) 154 dX12_span_147 rfl ?_ ?_
      · intro hc10n
        have hc10n : ¬ (v9 = (M5 58 0 1)) := hc10n
        replace hyp := it_neg hc10n hyp
        refine am_iconst 0 (v := 0) dX12_span_154 (by decide) ?_
        refine am_iadd dX12_span_155 ?_
        refine am_istore dX12_span_156 (am_lb rfl) ?_
        change am_At _ _ _ 158 [_, _, _, _, _, _, _, _, _, _, _] [] _ _
        refine am_iinc dX12_span_158 rfl (am_ix _) ?_
        change am_At _ _ _ 161 [_, _, _, _, _, _, _, _, _, _, _] [] _ _
        refine am_goto (-99) 62 dX12_span_161 rfl ?_
        cases hyp
        refine am_At.drop 10 ?_
        exact hx
      · intro hc10
        have hc10 : v9 = (M5 58 0 1) := hc10
        replace hyp := it_pos hc10 hyp
        refine am_iconst 1 (v := 1) dX12_span_150 (by decide) ?_
        refine am_goto (4) 155 dX12_span_151 rfl ?_
        refine am_iadd dX12_span_155 ?_
        refine am_istore dX12_span_156 (am_lb rfl) ?_
        change am_At _ _ _ 158 [_, _, _, _, _, _, _, _, _, _, _] [] _ _
        refine am_iinc dX12_span_158 rfl (am_ix _) ?_
        change am_At _ _ _ 161 [_, _, _, _, _, _, _, _, _, _, _] [] _ _
        refine am_goto (-99) 62 dX12_span_161 rfl ?_
        cases hyp
        refine am_At.drop 10 ?_
        exact hx
    · intro hc8
      have hc8 : x6 = (-1 : Int32) := hc8
      replace hyp := it_pos hc8 hyp
      refine am_iload dX12_span_108 rfl ?_
      refine am_goto (10) 120 dX12_span_110 rfl ?_
      refine am_istore dX12_span_120 (am_lb rfl) ?_
      change am_At _ _ _ 122 [_, _, _, _, _, _, _, _, _, _, _] [] _ _
      refine am_iload dX12_span_122 rfl ?_
      refine am_iload dX12_span_124 rfl ?_
      refine am_callS (c := 0) (k := 0) (n := 0) (w := 0) [_, _] dX12_span_126 ml_X12_242 sm_X12_more rfl (fun _ => Nat.le_of_ble_eq_true rfl) (by omega) rfl (ef_X12_more (d := d + 8) (h := am_hM h M5) (x0 := x7) (x1 := (v6 - v7))  rfl) rfl ?_
      change am_At _ _ _ 129 [_, _, _, _, _, _, _, _, _, _, _] [_] _ _
      refine am_istore dX12_span_129 (am_lb rfl) ?_
      change am_At _ _ _ 131 [_, _, _, _, _, _, _, _, _, _, _] [] _ _
      refine am_iload dX12_span_131 rfl ?_
      refine am_aload_n dX12_span_133 rfl ?_
      refine am_aload_n dX12_span_134 rfl ?_
      refine am_getR 12 30 73 dX12_span_135 fg_X12_70 (sh_54 g) (by decide) rfl (rf_54_30 g) ?_
      obtain ⟨v11, hk11, hyp⟩ := bd_some hyp
      try dsimp only at hyp
      refine am_callV [_] dX12_span_138 ml_X12_324 vm_X12_throughIn (sh_54 g) rfl (fun _ => Nat.le_of_ble_eq_true rfl) (by omega) rfl (ef_X12_throughIn_73 (d := d + 8) (h := h) g hk11) rfl ?_
      change am_At _ _ _ 141 [_, _, _, _, _, _, _, _, _, _, _] [_, _] _ _
      refine am_aload_n dX12_span_141 rfl ?_
      refine am_getR 12 12 58 dX12_span_142 fg_X12_23 (sh_54 g) (by decide) rfl (rf_54_12 g) ?_
      refine am_iconst 1 (v := 1) dX12_span_145 (by decide) ?_
      refine am_iald dX12_span_146 (am_ia.one (sh_58 g)) (am_lit rfl) ?_
      refine am_icmp_ne (7) 154 dX12_span_147 rfl ?_ ?_
      · intro hc12n
        have hc12n : ¬ (v11 = (M5 58 0 1)) := hc12n
        replace hyp := it_neg hc12n hyp
        refine am_iconst 0 (v := 0) dX12_span_154 (by decide) ?_
        refine am_iadd dX12_span_155 ?_
        refine am_istore dX12_span_156 (am_lb rfl) ?_
        change am_At _ _ _ 158 [_, _, _, _, _, _, _, _, _, _, _] [] _ _
        refine am_iinc dX12_span_158 rfl (am_ix _) ?_
        change am_At _ _ _ 161 [_, _, _, _, _, _, _, _, _, _, _] [] _ _
        refine am_goto (-99) 62 dX12_span_161 rfl ?_
        cases hyp
        refine am_At.drop 10 ?_
        exact hx
      · intro hc12
        have hc12 : v11 = (M5 58 0 1) := hc12
        replace hyp := it_pos hc12 hyp
        refine am_iconst 1 (v := 1) dX12_span_150 (by decide) ?_
        refine am_goto (4) 155 dX12_span_151 rfl ?_
        refine am_iadd dX12_span_155 ?_
        refine am_istore dX12_span_156 (am_lb rfl) ?_
        change am_At _ _ _ 158 [_, _, _, _, _, _, _, _, _, _, _] [] _ _
        refine am_iinc dX12_span_158 rfl (am_ix _) ?_
        change am_At _ _ _ 161 [_, _, _, _, _, _, _, _, _, _, _] [] _ _
        refine am_goto (-99) 62 dX12_span_161 rfl ?_
        cases hyp
        refine am_At.drop 10 ?_
        exact hx
theorem ef_X12_span {d : Nat} {h : am_H} (g : lay h) {x1 x2 x3 x4 x5 : Int32} {M : Mem} {v : Int32} {M' : Mem} (hyp : f_X12_span x1 x2 x3 x4 x5 M = some (v, M')) : am_Ev (d + 9) mX12_span [.inr (54, 0), am_I x1, am_I x2, am_I x3, am_I x4, am_I x5] (am_hM h M) (.inl (some (am_I v), am_hM h M')) := by
  unfold f_X12_span at hyp
  refine am_Ev.mk (by decide +kernel) rfl rfl (Nat.le_refl _) (Nat.le_refl _) ?_
  change am_At _ _ _ 0 [_, _, _, _, _, _, _, _, _, _, _] [] _ _
  refine am_aload_n dX12_span_0 rfl ?_
  refine am_iconst 0 (v := 0) dX12_span_1 (by decide) ?_
  refine am_putI 12 0 dX12_span_2 (Or.inl fp_X12_103) (sh_54 g) (by decide) rfl rfl rfl ?_
  refine am_aload_n dX12_span_5 rfl ?_
  refine am_iload_n dX12_span_6 rfl ?_
  refine am_iconst 1 (v := 1) dX12_span_7 (by decide) ?_
  refine am_bipush 20 (v := 20) dX12_span_8 (by decide) ?_
  refine am_callS (c := 0) (k := 0) (n := 0) (w := 0) [_, _, _] dX12_span_10 ml_X12_137 sm_X12_in rfl (fun _ => Nat.le_of_ble_eq_true rfl) (by omega) rfl (ef_X12_in (d := d + 8) (h := am_hM h (am_u3 M 54 0 0 (0 : Int32))) (x0 := x2) (x1 := (1 : Int32)) (x2 := (20 : Int32))  rfl) rfl ?_
  change am_At _ _ _ 13 [_, _, _, _, _, _, _, _, _, _, _] [_, _] _ _
  refine am_if_eq (22) 35 dX12_span_13 rfl ?_ ?_
  · intro hc1
    have hc1 : (f_X12_in x2 (1 : Int32) (20 : Int32)) = 0 := hc1
    replace hyp := it_pos hc1 hyp
    refine am_iconst 1 (v := 1) dX12_span_35 (by decide) ?_
    refine am_goto (4) 40 dX12_span_36 rfl ?_
    refine am_iconst 1 (v := 1) dX12_span_40 (by decide) ?_
    refine am_iconst 1 (v := 1) dX12_span_41 (by decide) ?_
    obtain ⟨⟨v2, M2⟩, hk2, hyp⟩ := bd_some hyp
    try dsimp only at hyp
    refine am_callV [_, _, _] dX12_span_42 ml_X12_179 vm_X12_bad (sh_54 g) rfl (fun _ => Nat.le_of_ble_eq_true rfl) (by omega) rfl (ef_X12_bad (d := d + 8) (h := h) g hk2) rfl ?_
    change am_At _ _ _ 45 [_, _, _, _, _, _, _, _, _, _, _] [_] _ _
    refine am_if_eq (5) 50 dX12_span_45 rfl ?_ ?_
    · intro hc3
      have hc3 : v2 = 0 := hc3
      replace hyp := it_pos hc3 hyp
      refine am_iconst (-1) (v := (-1)) dX12_span_50 (by decide) ?_
      refine am_istore dX12_span_51 (am_lb rfl) ?_
      change am_At _ _ _ 53 [_, _, _, _, _, _, _, _, _, _, _] [] _ _
      refine am_iconst 0 (v := 0) dX12_span_53 (by decide) ?_
      refine am_istore dX12_span_54 (am_lb rfl) ?_
      change am_At _ _ _ 56 [_, _, _, _, _, _, _, _, _, _, _] [] _ _
      refine am_iconst 0 (v := 0) dX12_span_56 (by decide) ?_
      refine am_istore dX12_span_57 (am_lb rfl) ?_
      change am_At _ _ _ 59 [_, _, _, _, _, _, _, _, _, _, _] [] _ _
      refine am_iconst 0 (v := 0) dX12_span_59 (by decide) ?_
      refine am_istore dX12_span_60 (am_lb rfl) ?_
      change am_At _ _ _ 62 [_, _, _, _, _, _, _, _, _, _, _] [] _ _
      obtain ⟨⟨x6_13, x7_13, x8_13, M13⟩, hw13, hyp⟩ := bd_some hyp
      try dsimp only at hyp
      refine eL_X12_span_62 (d := d) (h := h) g  FU ((-1 : Int32), (0 : Int32), (0 : Int32), (0 : Int32), M2) (x6_13, x7_13, x8_13, M13) hw13 ?_
      change am_At _ _ _ 164 [_, _, _, _, _, _, _, _, _, _, _] [] _ _
      refine am_iload dX12_span_164 rfl ?_
      refine am_if_ne (8) 174 dX12_span_166 rfl ?_ ?_
      · intro hc14n
        have hc14n : ¬ (x5 = 0) := hc14n
        replace hyp := it_neg hc14n hyp
        refine am_iload dX12_span_174 rfl ?_
        refine am_iconst 1 (v := 1) dX12_span_176 (by decide) ?_
        refine am_icmp_ne (8) 185 dX12_span_177 rfl ?_ ?_
        · intro hc15n
          have hc15n : ¬ (x5 = (1 : Int32)) := hc15n
          replace hyp := it_neg hc15n hyp
          refine am_iload dX12_span_185 rfl ?_
          cases hyp
          exact am_iret dX12_span_187 rfl
        · intro hc15
          have hc15 : x5 = (1 : Int32) := hc15
          replace hyp := it_pos hc15 hyp
          refine am_iload dX12_span_180 rfl ?_
          refine am_goto (5) 187 dX12_span_182 rfl ?_
          cases hyp
          exact am_iret dX12_span_187 rfl
      · intro hc14
        have hc14 : x5 = 0 := hc14
        replace hyp := it_pos hc14 hyp
        refine am_iload dX12_span_169 rfl ?_
        refine am_goto (16) 187 dX12_span_171 rfl ?_
        cases hyp
        exact am_iret dX12_span_187 rfl
    · intro hc3n
      have hc3n : ¬ (v2 = 0) := hc3n
      replace hyp := it_neg hc3n hyp
      refine am_iconst 0 (v := 0) dX12_span_48 (by decide) ?_
      cases hyp
      exact am_iret dX12_span_49 rfl
  · intro hc1n
    have hc1n : ¬ ((f_X12_in x2 (1 : Int32) (20 : Int32)) = 0) := hc1n
    replace hyp := it_neg hc1n hyp
    refine am_iload_n dX12_span_16 rfl ?_
    refine am_iload dX12_span_17 rfl ?_
    refine am_callS (c := 0) (k := 0) (n := 0) (w := 0) [_, _] dX12_span_19 ml_X12_376 sm_X12_isWinter rfl (fun _ => Nat.le_of_ble_eq_true rfl) (by omega) rfl (ef_X12_isWinter (d := d + 7) (h := am_hM h (am_u3 M 54 0 0 (0 : Int32))) (x0 := x3) (x1 := x4)  rfl) rfl ?_
    change am_At _ _ _ 22 [_, _, _, _, _, _, _, _, _, _, _] [_, _] _ _
    refine am_if_eq (13) 35 dX12_span_22 rfl ?_ ?_
    · intro hc16
      have hc16 : (f_X12_isWinter x3 x4) = 0 := hc16
      replace hyp := it_pos hc16 hyp
      refine am_iconst 1 (v := 1) dX12_span_35 (by decide) ?_
      refine am_goto (4) 40 dX12_span_36 rfl ?_
      refine am_iconst 1 (v := 1) dX12_span_40 (by decide) ?_
      refine am_iconst 1 (v := 1) dX12_span_41 (by decide) ?_
      obtain ⟨⟨v17, M17⟩, hk17, hyp⟩ := bd_some hyp
      try dsimp only at hyp
      refine am_callV [_, _, _] dX12_span_42 ml_X12_179 vm_X12_bad (sh_54 g) rfl (fun _ => Nat.le_of_ble_eq_true rfl) (by omega) rfl (ef_X12_bad (d := d + 8) (h := h) g hk17) rfl ?_
      change am_At _ _ _ 45 [_, _, _, _, _, _, _, _, _, _, _] [_] _ _
      refine am_if_eq (5) 50 dX12_span_45 rfl ?_ ?_
      · intro hc18
        have hc18 : v17 = 0 := hc18
        replace hyp := it_pos hc18 hyp
        refine am_iconst (-1) (v := (-1)) dX12_span_50 (by decide) ?_
        refine am_istore dX12_span_51 (am_lb rfl) ?_
        change am_At _ _ _ 53 [_, _, _, _, _, _, _, _, _, _, _] [] _ _
        refine am_iconst 0 (v := 0) dX12_span_53 (by decide) ?_
        refine am_istore dX12_span_54 (am_lb rfl) ?_
        change am_At _ _ _ 56 [_, _, _, _, _, _, _, _, _, _, _] [] _ _
        refine am_iconst 0 (v := 0) dX12_span_56 (by decide) ?_
        refine am_istore dX12_span_57 (am_lb rfl) ?_
        change am_At _ _ _ 59 [_, _, _, _, _, _, _, _, _, _, _] [] _ _
        refine am_iconst 0 (v := 0) dX12_span_59 (by decide) ?_
        refine am_istore dX12_span_60 (am_lb rfl) ?_
        change am_At _ _ _ 62 [_, _, _, _, _, _, _, _, _, _, _] [] _ _
        obtain ⟨⟨x6_19, x7_19, x8_19, M19⟩, hw19, hyp⟩ := bd_some hyp
        try dsimp only at hyp
        refine eL_X12_span_62 (d := d) (h := h) g  FU ((-1 : Int32), (0 : Int32), (0 : Int32), (0 : Int32), M17) (x6_19, x7_19, x8_19, M19) hw19 ?_
        change am_At _ _ _ 164 [_, _, _, _, _, _, _, _, _, _, _] [] _ _
        refine am_iload dX12_span_164 rfl ?_
        refine am_if_ne (8) 174 dX12_span_166 rfl ?_ ?_
        · intro hc20n
          have hc20n : ¬ (x5 = 0) := hc20n
          replace hyp := it_neg hc20n hyp
          refine am_iload dX12_span_174 rfl ?_
          refine am_iconst 1 (v := 1) dX12_span_176 (by decide) ?_
          refine am_icmp_ne (8) 185 dX12_span_177 rfl ?_ ?_
          · intro hc21n
            have hc21n : ¬ (x5 = (1 : Int32)) := hc21n
            replace hyp := it_neg hc21n hyp
            refine am_iload dX12_span_185 rfl ?_
            cases hyp
            exact am_iret dX12_span_187 rfl
          · intro hc21
            have hc21 : x5 = (1 : Int32) := hc21
            replace hyp := it_pos hc21 hyp
            refine am_iload dX12_span_180 rfl ?_
            refine am_goto (5) 187 dX12_span_182 rfl ?_
            cases hyp
            exact am_iret dX12_span_187 rfl
        · intro hc20
          have hc20 : x5 = 0 := hc20
          replace hyp := it_pos hc20 hyp
          refine am_iload dX12_span_169 rfl ?_
          refine am_goto (16) 187 dX12_span_171 rfl ?_
          cases hyp
          exact am_iret dX12_span_187 rfl
      · intro hc18n
        have hc18n : ¬ (v17 = 0) := hc18n
        replace hyp := it_neg hc18n hyp
        refine am_iconst 0 (v := 0) dX12_span_48 (by decide) ?_
        cases hyp
        exact am_iret dX12_span_49 rfl
    · intro hc16n
      have hc16n : ¬ ((f_X12_isWinter x3 x4) = 0) := hc16n
      replace hyp := it_neg hc16n hyp
      refine am_iload dX12_span_25 rfl ?_
      refine am_iconst 0 (v := 0) dX12_span_27 (by decide) ?_
      refine am_iconst 2 (v := 2) dX12_span_28 (by decide) ?_
      refine am_callS (c := 0) (k := 0) (n := 0) (w := 0) [_, _, _] dX12_span_29 ml_X12_137 sm_X12_in rfl (fun _ => Nat.le_of_ble_eq_true rfl) (by omega) rfl (ef_X12_in (d := d + 8) (h := am_hM h (am_u3 M 54 0 0 (0 : Int32))) (x0 := x5) (x1 := (0 : Int32)) (x2 := (2 : Int32))  rfl) rfl ?_
      change am_At _ _ _ 32 [_, _, _, _, _, _, _, _, _, _, _] [_, _] _ _
      refine am_if_ne (7) 39 dX12_span_32 rfl ?_ ?_
      · intro hc22n
        have hc22n : ¬ ((f_X12_in x5 (0 : Int32) (2 : Int32)) = 0) := hc22n
        replace hyp := it_neg hc22n hyp
        refine am_iconst 0 (v := 0) dX12_span_39 (by decide) ?_
        refine am_iconst 1 (v := 1) dX12_span_40 (by decide) ?_
        refine am_iconst 1 (v := 1) dX12_span_41 (by decide) ?_
        obtain ⟨⟨v23, M23⟩, hk23, hyp⟩ := bd_some hyp
        try dsimp only at hyp
        refine am_callV [_, _, _] dX12_span_42 ml_X12_179 vm_X12_bad (sh_54 g) rfl (fun _ => Nat.le_of_ble_eq_true rfl) (by omega) rfl (ef_X12_bad (d := d + 8) (h := h) g hk23) rfl ?_
        change am_At _ _ _ 45 [_, _, _, _, _, _, _, _, _, _, _] [_] _ _
        refine am_if_eq (5) 50 dX12_span_45 rfl ?_ ?_
        · intro hc24
          have hc24 : v23 = 0 := hc24
          replace hyp := it_pos hc24 hyp
          refine am_iconst (-1) (v := (-1)) dX12_span_50 (by decide) ?_
          refine am_istore dX12_span_51 (am_lb rfl) ?_
          change am_At _ _ _ 53 [_, _, _, _, _, _, _, _, _, _, _] [] _ _
          refine am_iconst 0 (v := 0) dX12_span_53 (by decide) ?_
          refine am_istore dX12_span_54 (am_lb rfl) ?_
          change am_At _ _ _ 56 [_, _, _, _, _, _, _, _, _, _, _] [] _ _
          refine am_iconst 0 (v := 0) dX12_span_56 (by decide) ?_
          refine am_istore dX12_span_57 (am_lb rfl) ?_
          change am_At _ _ _ 59 [_, _, _, _, _, _, _, _, _, _, _] [] _ _
          refine am_iconst 0 (v := 0) dX12_span_59 (by decide) ?_
          refine am_istore dX12_span_60 (am_lb rfl) ?_
          change am_At _ _ _ 62 [_, _, _, _, _, _, _, _, _, _, _] [] _ _
          obtain ⟨⟨x6_25, x7_25, x8_25, M25⟩, hw25, hyp⟩ := bd_some hyp
          try dsimp only at hyp
          refine eL_X12_span_62 (d := d) (h := h) g  FU ((-1 : Int32), (0 : Int32), (0 : Int32), (0 : Int32), M23) (x6_25, x7_25, x8_25, M25) hw25 ?_
          change am_At _ _ _ 164 [_, _, _, _, _, _, _, _, _, _, _] [] _ _
          refine am_iload dX12_span_164 rfl ?_
          refine am_if_ne (8) 174 dX12_span_166 rfl ?_ ?_
          · intro hc26n
            have hc26n : ¬ (x5 = 0) := hc26n
            replace hyp := it_neg hc26n hyp
            refine am_iload dX12_span_174 rfl ?_
            refine am_iconst 1 (v := 1) dX12_span_176 (by decide) ?_
            refine am_icmp_ne (8) 185 dX12_span_177 rfl ?_ ?_
            · intro hc27n
              have hc27n : ¬ (x5 = (1 : Int32)) := hc27n
              replace hyp := it_neg hc27n hyp
              refine am_iload dX12_span_185 rfl ?_
              cases hyp
              exact am_iret dX12_span_187 rfl
            · intro hc27
              have hc27 : x5 = (1 : Int32) := hc27
              replace hyp := it_pos hc27 hyp
              refine am_iload dX12_span_180 rfl ?_
              refine am_goto (5) 187 dX12_span_182 rfl ?_
              cases hyp
              exact am_iret dX12_span_187 rfl
          · intro hc26
            have hc26 : x5 = 0 := hc26
            replace hyp := it_pos hc26 hyp
            refine am_iload dX12_span_169 rfl ?_
            refine am_goto (16) 187 dX12_span_171 rfl ?_
            cases hyp
            exact am_iret dX12_span_187 rfl
        · intro hc24n
          have hc24n : ¬ (v23 = 0) := hc24n
          replace hyp := it_neg hc24n hyp
          refine am_iconst 0 (v := 0) dX12_span_48 (by decide) ?_
          cases hyp
          exact am_iret dX12_span_49 rfl
      · intro hc22
        have hc22 : (f_X12_in x5 (0 : Int32) (2 : Int32)) = 0 := hc22
        replace hyp := it_pos hc22 hyp
        refine am_iconst 1 (v := 1) dX12_span_35 (by decide) ?_
        refine am_goto (4) 40 dX12_span_36 rfl ?_
        refine am_iconst 1 (v := 1) dX12_span_40 (by decide) ?_
        refine am_iconst 1 (v := 1) dX12_span_41 (by decide) ?_
        obtain ⟨⟨v28, M28⟩, hk28, hyp⟩ := bd_some hyp
        try dsimp only at hyp
        refine am_callV [_, _, _] dX12_span_42 ml_X12_179 vm_X12_bad (sh_54 g) rfl (fun _ => Nat.le_of_ble_eq_true rfl) (by omega) rfl (ef_X12_bad (d := d + 8) (h := h) g hk28) rfl ?_
        change am_At _ _ _ 45 [_, _, _, _, _, _, _, _, _, _, _] [_] _ _
        refine am_if_eq (5) 50 dX12_span_45 rfl ?_ ?_
        · intro hc29
          have hc29 : v28 = 0 := hc29
          replace hyp := it_pos hc29 hyp
          refine am_iconst (-1) (v := (-1)) dX12_span_50 (by decide) ?_
          refine am_istore dX12_span_51 (am_lb rfl) ?_
          change am_At _ _ _ 53 [_, _, _, _, _, _, _, _, _, _, _] [] _ _
          refine am_iconst 0 (v := 0) dX12_span_53 (by decide) ?_
          refine am_istore dX12_span_54 (am_lb rfl) ?_
          change am_At _ _ _ 56 [_, _, _, _, _, _, _, _, _, _, _] [] _ _
          refine am_iconst 0 (v := 0) dX12_span_56 (by decide) ?_
          refine am_istore dX12_span_57 (am_lb rfl) ?_
          change am_At _ _ _ 59 [_, _, _, _, _, _, _, _, _, _, _] [] _ _
          refine am_iconst 0 (v := 0) dX12_span_59 (by decide) ?_
          refine am_istore dX12_span_60 (am_lb rfl) ?_
          change am_At _ _ _ 62 [_, _, _, _, _, _, _, _, _, _, _] [] _ _
          obtain ⟨⟨x6_30, x7_30, x8_30, M30⟩, hw30, hyp⟩ := bd_some hyp
          try dsimp only at hyp
          refine eL_X12_span_62 (d := d) (h := h) g  FU ((-1 : Int32), (0 : Int32), (0 : Int32), (0 : Int32), M28) (x6_30, x7_30, x8_30, M30) hw30 ?_
          change am_At _ _ _ 164 [_, _, _, _, _, _, _, _, _, _, _] [] _ _
          refine am_iload dX12_span_164 rfl ?_
          refine am_if_ne (8) 174 dX12_span_166 rfl ?_ ?_
          · intro hc31n
            have hc31n : ¬ (x5 = 0) := hc31n
            replace hyp := it_neg hc31n hyp
            refine am_iload dX12_span_174 rfl ?_
            refine am_iconst 1 (v := 1) dX12_span_176 (by decide) ?_
            refine am_icmp_ne (8) 185 dX12_span_177 rfl ?_ ?_
            · intro hc32n
              have hc32n : ¬ (x5 = (1 : Int32)) := hc32n
              replace hyp := it_neg hc32n hyp
              refine am_iload dX12_span_185 rfl ?_
              cases hyp
              exact am_iret dX12_span_187 rfl
            · intro hc32
              have hc32 : x5 = (1 : Int32) := hc32
              replace hyp := it_pos hc32 hyp
              refine am_iload dX12_span_180 rfl ?_
              refine am_goto (5) 187 dX12_span_182 rfl ?_
              cases hyp
              exact am_iret dX12_span_187 rfl
          · intro hc31
            have hc31 : x5 = 0 := hc31
            replace hyp := it_pos hc31 hyp
            refine am_iload dX12_span_169 rfl ?_
            refine am_goto (16) 187 dX12_span_171 rfl ?_
            cases hyp
            exact am_iret dX12_span_187 rfl
        · intro hc29n
          have hc29n : ¬ (v28 = 0) := hc29n
          replace hyp := it_neg hc29n hyp
          refine am_iconst 0 (v := 0) dX12_span_48 (by decide) ?_
          cases hyp
          exact am_iret dX12_span_49 rfl
theorem eL_X12_tallest_34 {d : Nat} {h : am_H} (g : lay h) {x1 : Int32} {r : am_R} (n : Nat) : ∀ (s : Int32 × Mem) (e : (Int32 × Mem) ⊕ (Mem)), wh (L_X12_tallest_34 x1) n s = some e → (match e with | (Sum.inl (x2, M)) => am_At am_X0 (d + 9) mX12_tallest 48 [some (.inr (54, 0)), some (am_I (x1)), some (am_I (x2))] [] (am_hM h M) r | (Sum.inr M) => am_At am_X0 (d + 9) mX12_tallest 56 [some (.inr (54, 0)), some (am_I (x1)), none] [] (am_hM h M) r) → (match s with | (x2, M) => am_At am_X0 (d + 9) mX12_tallest 34 [some (.inr (54, 0)), some (am_I (x1)), some (am_I (x2))] [] (am_hM h M) r) := by
  refine am_wh (At := fun (s : Int32 × Mem) => match s with | (x2, M) => am_At am_X0 (d + 9) mX12_tallest 34 [some (.inr (54, 0)), some (am_I (x1)), some (am_I (x2))] [] (am_hM h M) r) (Ex := fun (e : (Int32 × Mem) ⊕ (Mem)) => match e with | (Sum.inl (x2, M)) => am_At am_X0 (d + 9) mX12_tallest 48 [some (.inr (54, 0)), some (am_I (x1)), some (am_I (x2))] [] (am_hM h M) r | (Sum.inr M) => am_At am_X0 (d + 9) mX12_tallest 56 [some (.inr (54, 0)), some (am_I (x1)), none] [] (am_hM h M) r) ?_ n
  rintro ⟨x2, M⟩ y hyp hx
  unfold L_X12_tallest_34 at hyp
  try dsimp only at hyp
  change am_At _ _ _ 34 [_, _, _] [] _ _
  refine am_iload_n dX12_tallest_34 rfl ?_
  refine am_if_lt (21) 56 dX12_tallest_35 rfl ?_ ?_
  · intro hc4
    have hc4 : x2 < 0 := hc4
    replace hyp := it_pos hc4 hyp
    cases hyp
    refine am_At.drop 2 ?_
    exact hx
  · intro hc4n
    have hc4n : ¬ (x2 < 0) := hc4n
    replace hyp := it_neg hc4n hyp
    refine am_aload_n dX12_tallest_38 rfl ?_
    refine am_iload_n dX12_tallest_39 rfl ?_
    refine am_iload_n dX12_tallest_40 rfl ?_
    obtain ⟨⟨v5, M5⟩, hk5, hyp⟩ := bd_some hyp
    try dsimp only at hyp
    refine am_callV [_, _] dX12_tallest_41 ml_X12_339 vm_X12_trips (sh_54 g) rfl (fun _ => Nat.le_of_ble_eq_true rfl) (by omega) rfl (ef_X12_trips (d := d + 0) (h := h) g hk5) rfl ?_
    change am_At _ _ _ 44 [_, _, _] [_] _ _
    refine am_iconst (-1) (v := (-1)) dX12_tallest_44 (by decide) ?_
    refine am_icmp_eq (5) 50 dX12_tallest_45 rfl ?_ ?_
    · intro hc6
      have hc6 : v5 = (-1 : Int32) := hc6
      replace hyp := it_pos hc6 hyp
      refine am_iinc dX12_tallest_50 rfl (am_dx _) ?_
      change am_At _ _ _ 53 [_, _, _] [] _ _
      refine am_goto (-19) 34 dX12_tallest_53 rfl ?_
      cases hyp
      exact hx
    · intro hc6n
      have hc6n : ¬ (v5 = (-1 : Int32)) := hc6n
      replace hyp := it_neg hc6n hyp
      cases hyp
      exact hx
theorem ef_X12_tallest {d : Nat} {h : am_H} (g : lay h) {x1 : Int32} {M : Mem} {v : Int32} {M' : Mem} (hyp : f_X12_tallest x1 M = some (v, M')) : am_Ev (d + 9) mX12_tallest [.inr (54, 0), am_I x1] (am_hM h M) (.inl (some (am_I v), am_hM h M')) := by
  unfold f_X12_tallest at hyp
  refine am_Ev.mk (by decide +kernel) rfl rfl (Nat.le_refl _) (Nat.le_refl _) ?_
  change am_At _ _ _ 0 [_, _, _] [] _ _
  refine am_aload_n dX12_tallest_0 rfl ?_
  refine am_iconst 0 (v := 0) dX12_tallest_1 (by decide) ?_
  refine am_putI 12 0 dX12_tallest_2 (Or.inl fp_X12_103) (sh_54 g) (by decide) rfl rfl rfl ?_
  refine am_aload_n dX12_tallest_5 rfl ?_
  refine am_iload_n dX12_tallest_6 rfl ?_
  refine am_iconst 0 (v := 0) dX12_tallest_7 (by decide) ?_
  refine am_bipush 48 (v := 48) dX12_tallest_8 (by decide) ?_
  refine am_callS (c := 0) (k := 0) (n := 0) (w := 0) [_, _, _] dX12_tallest_10 ml_X12_137 sm_X12_in rfl (fun _ => Nat.le_of_ble_eq_true rfl) (by omega) rfl (ef_X12_in (d := d + 8) (h := am_hM h (am_u3 M 54 0 0 (0 : Int32))) (x0 := x1) (x1 := (0 : Int32)) (x2 := (48 : Int32))  rfl) rfl ?_
  change am_At _ _ _ 13 [_, _, _] [_, _] _ _
  refine am_if_ne (7) 20 dX12_tallest_13 rfl ?_ ?_
  · intro hc1n
    have hc1n : ¬ ((f_X12_in x1 (0 : Int32) (48 : Int32)) = 0) := hc1n
    replace hyp := it_neg hc1n hyp
    refine am_iconst 0 (v := 0) dX12_tallest_20 (by decide) ?_
    refine am_iconst 1 (v := 1) dX12_tallest_21 (by decide) ?_
    refine am_iconst 1 (v := 1) dX12_tallest_22 (by decide) ?_
    obtain ⟨⟨v2, M2⟩, hk2, hyp⟩ := bd_some hyp
    try dsimp only at hyp
    refine am_callV [_, _, _] dX12_tallest_23 ml_X12_179 vm_X12_bad (sh_54 g) rfl (fun _ => Nat.le_of_ble_eq_true rfl) (by omega) rfl (ef_X12_bad (d := d + 8) (h := h) g hk2) rfl ?_
    change am_At _ _ _ 26 [_, _, _] [_] _ _
    refine am_if_eq (5) 31 dX12_tallest_26 rfl ?_ ?_
    · intro hc3
      have hc3 : v2 = 0 := hc3
      replace hyp := it_pos hc3 hyp
      refine am_bipush 9 (v := 9) dX12_tallest_31 (by decide) ?_
      refine am_istore_n dX12_tallest_33 (am_lb rfl) ?_
      change am_At _ _ _ 34 [_, _, _] [] _ _
      obtain ⟨e7, hw7, hyp⟩ := bd_some hyp
      rcases e7 with ⟨x2_7, M7⟩ | M7
      · try dsimp only at hyp
        refine eL_X12_tallest_34 (d := d) (h := h) g  FU ((9 : Int32), M2) (Sum.inl (x2_7, M7)) hw7 ?_
        change am_At _ _ _ 48 [_, _, _] [] _ _
        refine am_iload_n dX12_tallest_48 rfl ?_
        cases hyp
        exact am_iret dX12_tallest_49 rfl
      · try dsimp only at hyp
        refine eL_X12_tallest_34 (d := d) (h := h) g  FU ((9 : Int32), M2) (Sum.inr M7) hw7 ?_
        change am_At _ _ _ 56 [_, _, _] [] _ _
        refine am_iconst (-1) (v := (-1)) dX12_tallest_56 (by decide) ?_
        cases hyp
        exact am_iret dX12_tallest_57 rfl
    · intro hc3n
      have hc3n : ¬ (v2 = 0) := hc3n
      replace hyp := it_neg hc3n hyp
      refine am_iconst 0 (v := 0) dX12_tallest_29 (by decide) ?_
      cases hyp
      exact am_iret dX12_tallest_30 rfl
  · intro hc1
    have hc1 : (f_X12_in x1 (0 : Int32) (48 : Int32)) = 0 := hc1
    replace hyp := it_pos hc1 hyp
    refine am_iconst 1 (v := 1) dX12_tallest_16 (by decide) ?_
    refine am_goto (4) 21 dX12_tallest_17 rfl ?_
    refine am_iconst 1 (v := 1) dX12_tallest_21 (by decide) ?_
    refine am_iconst 1 (v := 1) dX12_tallest_22 (by decide) ?_
    obtain ⟨⟨v8, M8⟩, hk8, hyp⟩ := bd_some hyp
    try dsimp only at hyp
    refine am_callV [_, _, _] dX12_tallest_23 ml_X12_179 vm_X12_bad (sh_54 g) rfl (fun _ => Nat.le_of_ble_eq_true rfl) (by omega) rfl (ef_X12_bad (d := d + 8) (h := h) g hk8) rfl ?_
    change am_At _ _ _ 26 [_, _, _] [_] _ _
    refine am_if_eq (5) 31 dX12_tallest_26 rfl ?_ ?_
    · intro hc9
      have hc9 : v8 = 0 := hc9
      replace hyp := it_pos hc9 hyp
      refine am_bipush 9 (v := 9) dX12_tallest_31 (by decide) ?_
      refine am_istore_n dX12_tallest_33 (am_lb rfl) ?_
      change am_At _ _ _ 34 [_, _, _] [] _ _
      obtain ⟨e10, hw10, hyp⟩ := bd_some hyp
      rcases e10 with ⟨x2_10, M10⟩ | M10
      · try dsimp only at hyp
        refine eL_X12_tallest_34 (d := d) (h := h) g  FU ((9 : Int32), M8) (Sum.inl (x2_10, M10)) hw10 ?_
        change am_At _ _ _ 48 [_, _, _] [] _ _
        refine am_iload_n dX12_tallest_48 rfl ?_
        cases hyp
        exact am_iret dX12_tallest_49 rfl
      · try dsimp only at hyp
        refine eL_X12_tallest_34 (d := d) (h := h) g  FU ((9 : Int32), M8) (Sum.inr M10) hw10 ?_
        change am_At _ _ _ 56 [_, _, _] [] _ _
        refine am_iconst (-1) (v := (-1)) dX12_tallest_56 (by decide) ?_
        cases hyp
        exact am_iret dX12_tallest_57 rfl
    · intro hc9n
      have hc9n : ¬ (v8 = 0) := hc9n
      replace hyp := it_neg hc9n hyp
      refine am_iconst 0 (v := 0) dX12_tallest_29 (by decide) ?_
      cases hyp
      exact am_iret dX12_tallest_30 rfl
theorem eL_X12_trip_67 {d : Nat} {h : am_H} (g : lay h) {x3 x4 : Int32} {M : Mem} {r : am_R} (n : Nat) : ∀ (s : Int32 × Int32 × Int32 × Int32) (e : Int32 × Int32), wh (L_X12_trip_67 M) n s = some e → (match e with | (x6, x7) => am_At am_X0 (d + 9) mX12_trip 124 [some (.inr (54, 0)), none, none, some (am_I (x3)), some (am_I (x4)), none, some (am_I (x6)), some (am_I (x7)), none] [] (am_hM h M) r) → (match s with | (x5, x6, x7, x8) => am_At am_X0 (d + 9) mX12_trip 67 [some (.inr (54, 0)), none, none, some (am_I (x3)), some (am_I (x4)), some (am_I (x5)), some (am_I (x6)), some (am_I (x7)), some (am_I (x8))] [] (am_hM h M) r) := by
  refine am_wh (At := fun (s : Int32 × Int32 × Int32 × Int32) => match s with | (x5, x6, x7, x8) => am_At am_X0 (d + 9) mX12_trip 67 [some (.inr (54, 0)), none, none, some (am_I (x3)), some (am_I (x4)), some (am_I (x5)), some (am_I (x6)), some (am_I (x7)), some (am_I (x8))] [] (am_hM h M) r) (Ex := fun (e : Int32 × Int32) => match e with | (x6, x7) => am_At am_X0 (d + 9) mX12_trip 124 [some (.inr (54, 0)), none, none, some (am_I (x3)), some (am_I (x4)), none, some (am_I (x6)), some (am_I (x7)), none] [] (am_hM h M) r) ?_ n
  rintro ⟨x5, x6, x7, x8⟩ y hyp hx
  unfold L_X12_trip_67 at hyp
  try dsimp only at hyp
  change am_At _ _ _ 67 [_, _, _, _, _, _, _, _, _] [] _ _
  refine am_iload dX12_trip_67 rfl ?_
  refine am_aload_n dX12_trip_69 rfl ?_
  refine am_getR 12 12 58 dX12_trip_70 fg_X12_23 (sh_54 g) (by decide) rfl (rf_54_12 g) ?_
  refine am_iconst 0 (v := 0) dX12_trip_73 (by decide) ?_
  refine am_iald dX12_trip_74 (am_ia.one (sh_58 g)) (am_lit rfl) ?_
  refine am_icmp_ge (49) 124 dX12_trip_75 rfl ?_ ?_
  · intro hc5
    have hc5 : (M 58 0 0) ≤ x8 := hc5
    replace hyp := it_pos hc5 hyp
    cases hyp
    refine am_At.drop 5 ?_
    refine am_At.drop 8 ?_
    exact hx
  · intro hc5n
    have hc5n : ¬ ((M 58 0 0) ≤ x8) := hc5n
    replace hyp := it_neg hc5n hyp
    refine am_iload dX12_trip_78 rfl ?_
    refine am_aload_n dX12_trip_80 rfl ?_
    refine am_getR 12 42 77 dX12_trip_81 fg_X12_82 (sh_54 g) (by decide) rfl (rf_54_42 g) ?_
    refine am_iload dX12_trip_84 rfl ?_
    obtain ⟨hg6, hyp⟩ := gd_some hyp
    refine am_iald dX12_trip_86 (am_ia.one (sh_77 g)) (am_lit hg6) ?_
    refine am_iadd dX12_trip_87 ?_
    refine am_istore dX12_trip_88 (am_lb rfl) ?_
    change am_At _ _ _ 90 [_, _, _, _, _, _, _, _, _] [] _ _
    refine am_aload_n dX12_trip_90 rfl ?_
    refine am_getR 12 42 77 dX12_trip_91 fg_X12_82 (sh_54 g) (by decide) rfl (rf_54_42 g) ?_
    refine am_iload dX12_trip_94 rfl ?_
    refine am_iald dX12_trip_96 (am_ia.one (sh_77 g)) (am_lit hg6) ?_
    refine am_iload dX12_trip_97 rfl ?_
    refine am_icmp_gt (6) 105 dX12_trip_99 rfl ?_ ?_
    · intro hc7
      have hc7 : x5 < (M 77 0 x8.toNatClampNeg) := hc7
      replace hyp := it_pos hc7 hyp
      refine am_iload dX12_trip_105 rfl ?_
      refine am_istore dX12_trip_107 (am_lb rfl) ?_
      change am_At _ _ _ 109 [_, _, _, _, _, _, _, _, _] [] _ _
      refine am_aload_n dX12_trip_109 rfl ?_
      refine am_getR 12 42 77 dX12_trip_110 fg_X12_82 (sh_54 g) (by decide) rfl (rf_54_42 g) ?_
      refine am_iload dX12_trip_113 rfl ?_
      refine am_iald dX12_trip_115 (am_ia.one (sh_77 g)) (am_lit hg6) ?_
      refine am_istore dX12_trip_116 (am_lb rfl) ?_
      change am_At _ _ _ 118 [_, _, _, _, _, _, _, _, _] [] _ _
      refine am_iinc dX12_trip_118 rfl (am_ix _) ?_
      change am_At _ _ _ 121 [_, _, _, _, _, _, _, _, _] [] _ _
      refine am_goto (-54) 67 dX12_trip_121 rfl ?_
      cases hyp
      exact hx
    · intro hc7n
      have hc7n : ¬ (x5 < (M 77 0 x8.toNatClampNeg)) := hc7n
      replace hyp := it_neg hc7n hyp
      refine am_goto (16) 118 dX12_trip_102 rfl ?_
      refine am_iinc dX12_trip_118 rfl (am_ix _) ?_
      change am_At _ _ _ 121 [_, _, _, _, _, _, _, _, _] [] _ _
      refine am_goto (-54) 67 dX12_trip_121 rfl ?_
      cases hyp
      exact hx
theorem ef_X12_trip {d : Nat} {h : am_H} (g : lay h) {x1 x2 x3 : Int32} {M : Mem} {v : Int32} {M' : Mem} (hyp : f_X12_trip x1 x2 x3 M = some (v, M')) : am_Ev (d + 9) mX12_trip [.inr (54, 0), am_I x1, am_I x2, am_I x3] (am_hM h M) (.inl (some (am_I v), am_hM h M')) := by
  unfold f_X12_trip at hyp
  refine am_Ev.mk (by decide +kernel) rfl rfl (Nat.le_refl _) (Nat.le_refl _) ?_
  change am_At _ _ _ 0 [_, _, _, _, _, _, _, _, _] [] _ _
  refine am_aload_n dX12_trip_0 rfl ?_
  refine am_iconst 0 (v := 0) dX12_trip_1 (by decide) ?_
  refine am_putI 12 0 dX12_trip_2 (Or.inl fp_X12_103) (sh_54 g) (by decide) rfl rfl rfl ?_
  refine am_aload_n dX12_trip_5 rfl ?_
  refine am_iload_n dX12_trip_6 rfl ?_
  refine am_callS (c := 0) (k := 0) (n := 0) (w := 0) [_] dX12_trip_7 ml_X12_336 sm_X12_isMast rfl (fun _ => Nat.le_of_ble_eq_true rfl) (by omega) rfl (ef_X12_isMast (d := d + 7) (h := am_hM h (am_u3 M 54 0 0 (0 : Int32))) (x0 := x1)  rfl) rfl ?_
  change am_At _ _ _ 10 [_, _, _, _, _, _, _, _, _] [_, _] _ _
  refine am_if_eq (22) 32 dX12_trip_10 rfl ?_ ?_
  · intro hc1
    have hc1 : (f_X12_in x1 (0 : Int32) (9 : Int32)) = 0 := hc1
    replace hyp := it_pos hc1 hyp
    refine am_iconst 1 (v := 1) dX12_trip_32 (by decide) ?_
    refine am_goto (4) 37 dX12_trip_33 rfl ?_
    refine am_iconst 1 (v := 1) dX12_trip_37 (by decide) ?_
    refine am_iconst 1 (v := 1) dX12_trip_38 (by decide) ?_
    obtain ⟨⟨v2, M2⟩, hk2, hyp⟩ := bd_some hyp
    try dsimp only at hyp
    refine am_callV [_, _, _] dX12_trip_39 ml_X12_179 vm_X12_bad (sh_54 g) rfl (fun _ => Nat.le_of_ble_eq_true rfl) (by omega) rfl (ef_X12_bad (d := d + 8) (h := h) g hk2) rfl ?_
    change am_At _ _ _ 42 [_, _, _, _, _, _, _, _, _] [_] _ _
    refine am_if_eq (5) 47 dX12_trip_42 rfl ?_ ?_
    · intro hc3
      have hc3 : v2 = 0 := hc3
      replace hyp := it_pos hc3 hyp
      refine am_aload_n dX12_trip_47 rfl ?_
      refine am_iload_n dX12_trip_48 rfl ?_
      refine am_iload_n dX12_trip_49 rfl ?_
      obtain ⟨⟨v4, M4⟩, hk4, hyp⟩ := bd_some hyp
      try dsimp only at hyp
      refine am_callV [_, _] dX12_trip_50 ml_X12_339 vm_X12_trips (sh_54 g) rfl (fun _ => Nat.le_of_ble_eq_true rfl) (by omega) rfl (ef_X12_trips (d := d + 0) (h := h) g hk4) rfl ?_
      change am_At _ _ _ 53 [_, _, _, _, _, _, _, _, _] [_] _ _
      refine am_istore dX12_trip_53 (am_lb rfl) ?_
      change am_At _ _ _ 55 [_, _, _, _, _, _, _, _, _] [] _ _
      refine am_iconst 0 (v := 0) dX12_trip_55 (by decide) ?_
      refine am_istore dX12_trip_56 (am_lb rfl) ?_
      change am_At _ _ _ 58 [_, _, _, _, _, _, _, _, _] [] _ _
      refine am_iconst 0 (v := 0) dX12_trip_58 (by decide) ?_
      refine am_istore dX12_trip_59 (am_lb rfl) ?_
      change am_At _ _ _ 61 [_, _, _, _, _, _, _, _, _] [] _ _
      refine am_iconst (-1) (v := (-1)) dX12_trip_61 (by decide) ?_
      refine am_istore dX12_trip_62 (am_lb rfl) ?_
      change am_At _ _ _ 64 [_, _, _, _, _, _, _, _, _] [] _ _
      refine am_iconst 0 (v := 0) dX12_trip_64 (by decide) ?_
      refine am_istore dX12_trip_65 (am_lb rfl) ?_
      change am_At _ _ _ 67 [_, _, _, _, _, _, _, _, _] [] _ _
      obtain ⟨⟨x6_8, x7_8⟩, hw8, hyp⟩ := bd_some hyp
      refine am_At.drop 1 ?_
      refine am_At.drop 2 ?_
      try dsimp only at hyp
      refine eL_X12_trip_67 (d := d) (h := h) g (M := M4) FU ((0 : Int32), (0 : Int32), (-1 : Int32), (0 : Int32)) (x6_8, x7_8) hw8 ?_
      change am_At _ _ _ 124 [_, _, _, _, _, _, _, _, _] [] _ _
      refine am_iload_n dX12_trip_124 rfl ?_
      refine am_if_ne (8) 133 dX12_trip_125 rfl ?_ ?_
      · intro hc9n
        have hc9n : ¬ (x3 = 0) := hc9n
        replace hyp := it_neg hc9n hyp
        refine am_iload_n dX12_trip_133 rfl ?_
        refine am_iconst 1 (v := 1) dX12_trip_134 (by decide) ?_
        refine am_icmp_ne (8) 143 dX12_trip_135 rfl ?_ ?_
        · intro hc10n
          have hc10n : ¬ (x3 = (1 : Int32)) := hc10n
          replace hyp := it_neg hc10n hyp
          refine am_iload dX12_trip_143 rfl ?_
          cases hyp
          exact am_iret dX12_trip_145 rfl
        · intro hc10
          have hc10 : x3 = (1 : Int32) := hc10
          replace hyp := it_pos hc10 hyp
          refine am_iload dX12_trip_138 rfl ?_
          refine am_goto (5) 145 dX12_trip_140 rfl ?_
          cases hyp
          exact am_iret dX12_trip_145 rfl
      · intro hc9
        have hc9 : x3 = 0 := hc9
        replace hyp := it_pos hc9 hyp
        refine am_iload dX12_trip_128 rfl ?_
        refine am_goto (15) 145 dX12_trip_130 rfl ?_
        cases hyp
        exact am_iret dX12_trip_145 rfl
    · intro hc3n
      have hc3n : ¬ (v2 = 0) := hc3n
      replace hyp := it_neg hc3n hyp
      refine am_iconst 0 (v := 0) dX12_trip_45 (by decide) ?_
      cases hyp
      exact am_iret dX12_trip_46 rfl
  · intro hc1n
    have hc1n : ¬ ((f_X12_in x1 (0 : Int32) (9 : Int32)) = 0) := hc1n
    replace hyp := it_neg hc1n hyp
    refine am_iload_n dX12_trip_13 rfl ?_
    refine am_iconst 0 (v := 0) dX12_trip_14 (by decide) ?_
    refine am_bipush 48 (v := 48) dX12_trip_15 (by decide) ?_
    refine am_callS (c := 0) (k := 0) (n := 0) (w := 0) [_, _, _] dX12_trip_17 ml_X12_137 sm_X12_in rfl (fun _ => Nat.le_of_ble_eq_true rfl) (by omega) rfl (ef_X12_in (d := d + 8) (h := am_hM h (am_u3 M 54 0 0 (0 : Int32))) (x0 := x2) (x1 := (0 : Int32)) (x2 := (48 : Int32))  rfl) rfl ?_
    change am_At _ _ _ 20 [_, _, _, _, _, _, _, _, _] [_, _] _ _
    refine am_if_eq (12) 32 dX12_trip_20 rfl ?_ ?_
    · intro hc11
      have hc11 : (f_X12_in x2 (0 : Int32) (48 : Int32)) = 0 := hc11
      replace hyp := it_pos hc11 hyp
      refine am_iconst 1 (v := 1) dX12_trip_32 (by decide) ?_
      refine am_goto (4) 37 dX12_trip_33 rfl ?_
      refine am_iconst 1 (v := 1) dX12_trip_37 (by decide) ?_
      refine am_iconst 1 (v := 1) dX12_trip_38 (by decide) ?_
      obtain ⟨⟨v12, M12⟩, hk12, hyp⟩ := bd_some hyp
      try dsimp only at hyp
      refine am_callV [_, _, _] dX12_trip_39 ml_X12_179 vm_X12_bad (sh_54 g) rfl (fun _ => Nat.le_of_ble_eq_true rfl) (by omega) rfl (ef_X12_bad (d := d + 8) (h := h) g hk12) rfl ?_
      change am_At _ _ _ 42 [_, _, _, _, _, _, _, _, _] [_] _ _
      refine am_if_eq (5) 47 dX12_trip_42 rfl ?_ ?_
      · intro hc13
        have hc13 : v12 = 0 := hc13
        replace hyp := it_pos hc13 hyp
        refine am_aload_n dX12_trip_47 rfl ?_
        refine am_iload_n dX12_trip_48 rfl ?_
        refine am_iload_n dX12_trip_49 rfl ?_
        obtain ⟨⟨v14, M14⟩, hk14, hyp⟩ := bd_some hyp
        try dsimp only at hyp
        refine am_callV [_, _] dX12_trip_50 ml_X12_339 vm_X12_trips (sh_54 g) rfl (fun _ => Nat.le_of_ble_eq_true rfl) (by omega) rfl (ef_X12_trips (d := d + 0) (h := h) g hk14) rfl ?_
        change am_At _ _ _ 53 [_, _, _, _, _, _, _, _, _] [_] _ _
        refine am_istore dX12_trip_53 (am_lb rfl) ?_
        change am_At _ _ _ 55 [_, _, _, _, _, _, _, _, _] [] _ _
        refine am_iconst 0 (v := 0) dX12_trip_55 (by decide) ?_
        refine am_istore dX12_trip_56 (am_lb rfl) ?_
        change am_At _ _ _ 58 [_, _, _, _, _, _, _, _, _] [] _ _
        refine am_iconst 0 (v := 0) dX12_trip_58 (by decide) ?_
        refine am_istore dX12_trip_59 (am_lb rfl) ?_
        change am_At _ _ _ 61 [_, _, _, _, _, _, _, _, _] [] _ _
        refine am_iconst (-1) (v := (-1)) dX12_trip_61 (by decide) ?_
        refine am_istore dX12_trip_62 (am_lb rfl) ?_
        change am_At _ _ _ 64 [_, _, _, _, _, _, _, _, _] [] _ _
        refine am_iconst 0 (v := 0) dX12_trip_64 (by decide) ?_
        refine am_istore dX12_trip_65 (am_lb rfl) ?_
        change am_At _ _ _ 67 [_, _, _, _, _, _, _, _, _] [] _ _
        obtain ⟨⟨x6_15, x7_15⟩, hw15, hyp⟩ := bd_some hyp
        refine am_At.drop 1 ?_
        refine am_At.drop 2 ?_
        try dsimp only at hyp
        refine eL_X12_trip_67 (d := d) (h := h) g (M := M14) FU ((0 : Int32), (0 : Int32), (-1 : Int32), (0 : Int32)) (x6_15, x7_15) hw15 ?_
        change am_At _ _ _ 124 [_, _, _, _, _, _, _, _, _] [] _ _
        refine am_iload_n dX12_trip_124 rfl ?_
        refine am_if_ne (8) 133 dX12_trip_125 rfl ?_ ?_
        · intro hc16n
          have hc16n : ¬ (x3 = 0) := hc16n
          replace hyp := it_neg hc16n hyp
          refine am_iload_n dX12_trip_133 rfl ?_
          refine am_iconst 1 (v := 1) dX12_trip_134 (by decide) ?_
          refine am_icmp_ne (8) 143 dX12_trip_135 rfl ?_ ?_
          · intro hc17n
            have hc17n : ¬ (x3 = (1 : Int32)) := hc17n
            replace hyp := it_neg hc17n hyp
            refine am_iload dX12_trip_143 rfl ?_
            cases hyp
            exact am_iret dX12_trip_145 rfl
          · intro hc17
            have hc17 : x3 = (1 : Int32) := hc17
            replace hyp := it_pos hc17 hyp
            refine am_iload dX12_trip_138 rfl ?_
            refine am_goto (5) 145 dX12_trip_140 rfl ?_
            cases hyp
            exact am_iret dX12_trip_145 rfl
        · intro hc16
          have hc16 : x3 = 0 := hc16
          replace hyp := it_pos hc16 hyp
          refine am_iload dX12_trip_128 rfl ?_
          refine am_goto (15) 145 dX12_trip_130 rfl ?_
          cases hyp
          exact am_iret dX12_trip_145 rfl
      · intro hc13n
        have hc13n : ¬ (v12 = 0) := hc13n
        replace hyp := it_neg hc13n hyp
        refine am_iconst 0 (v := 0) dX12_trip_45 (by decide) ?_
        cases hyp
        exact am_iret dX12_trip_46 rfl
    · intro hc11n
      have hc11n : ¬ ((f_X12_in x2 (0 : Int32) (48 : Int32)) = 0) := hc11n
      replace hyp := it_neg hc11n hyp
      refine am_iload_n dX12_trip_23 rfl ?_
      refine am_iconst 0 (v := 0) dX12_trip_24 (by decide) ?_
      refine am_iconst 2 (v := 2) dX12_trip_25 (by decide) ?_
      refine am_callS (c := 0) (k := 0) (n := 0) (w := 0) [_, _, _] dX12_trip_26 ml_X12_137 sm_X12_in rfl (fun _ => Nat.le_of_ble_eq_true rfl) (by omega) rfl (ef_X12_in (d := d + 8) (h := am_hM h (am_u3 M 54 0 0 (0 : Int32))) (x0 := x3) (x1 := (0 : Int32)) (x2 := (2 : Int32))  rfl) rfl ?_
      change am_At _ _ _ 29 [_, _, _, _, _, _, _, _, _] [_, _] _ _
      refine am_if_ne (7) 36 dX12_trip_29 rfl ?_ ?_
      · intro hc18n
        have hc18n : ¬ ((f_X12_in x3 (0 : Int32) (2 : Int32)) = 0) := hc18n
        replace hyp := it_neg hc18n hyp
        refine am_iconst 0 (v := 0) dX12_trip_36 (by decide) ?_
        refine am_iconst 1 (v := 1) dX12_trip_37 (by decide) ?_
        refine am_iconst 1 (v := 1) dX12_trip_38 (by decide) ?_
        obtain ⟨⟨v19, M19⟩, hk19, hyp⟩ := bd_some hyp
        try dsimp only at hyp
        refine am_callV [_, _, _] dX12_trip_39 ml_X12_179 vm_X12_bad (sh_54 g) rfl (fun _ => Nat.le_of_ble_eq_true rfl) (by omega) rfl (ef_X12_bad (d := d + 8) (h := h) g hk19) rfl ?_
        change am_At _ _ _ 42 [_, _, _, _, _, _, _, _, _] [_] _ _
        refine am_if_eq (5) 47 dX12_trip_42 rfl ?_ ?_
        · intro hc20
          have hc20 : v19 = 0 := hc20
          replace hyp := it_pos hc20 hyp
          refine am_aload_n dX12_trip_47 rfl ?_
          refine am_iload_n dX12_trip_48 rfl ?_
          refine am_iload_n dX12_trip_49 rfl ?_
          obtain ⟨⟨v21, M21⟩, hk21, hyp⟩ := bd_some hyp
          try dsimp only at hyp
          refine am_callV [_, _] dX12_trip_50 ml_X12_339 vm_X12_trips (sh_54 g) rfl (fun _ => Nat.le_of_ble_eq_true rfl) (by omega) rfl (ef_X12_trips (d := d + 0) (h := h) g hk21) rfl ?_
          change am_At _ _ _ 53 [_, _, _, _, _, _, _, _, _] [_] _ _
          refine am_istore dX12_trip_53 (am_lb rfl) ?_
          change am_At _ _ _ 55 [_, _, _, _, _, _, _, _, _] [] _ _
          refine am_iconst 0 (v := 0) dX12_trip_55 (by decide) ?_
          refine am_istore dX12_trip_56 (am_lb rfl) ?_
          change am_At _ _ _ 58 [_, _, _, _, _, _, _, _, _] [] _ _
          refine am_iconst 0 (v := 0) dX12_trip_58 (by decide) ?_
          refine am_istore dX12_trip_59 (am_lb rfl) ?_
          change am_At _ _ _ 61 [_, _, _, _, _, _, _, _, _] [] _ _
          refine am_iconst (-1) (v := (-1)) dX12_trip_61 (by decide) ?_
          refine am_istore dX12_trip_62 (am_lb rfl) ?_
          change am_At _ _ _ 64 [_, _, _, _, _, _, _, _, _] [] _ _
          refine am_iconst 0 (v := 0) dX12_trip_64 (by decide) ?_
          refine am_istore dX12_trip_65 (am_lb rfl) ?_
          change am_At _ _ _ 67 [_, _, _, _, _, _, _, _, _] [] _ _
          obtain ⟨⟨x6_22, x7_22⟩, hw22, hyp⟩ := bd_some hyp
          refine am_At.drop 1 ?_
          refine am_At.drop 2 ?_
          try dsimp only at hyp
          refine eL_X12_trip_67 (d := d) (h := h) g (M := M21) FU ((0 : Int32), (0 : Int32), (-1 : Int32), (0 : Int32)) (x6_22, x7_22) hw22 ?_
          change am_At _ _ _ 124 [_, _, _, _, _, _, _, _, _] [] _ _
          refine am_iload_n dX12_trip_124 rfl ?_
          refine am_if_ne (8) 133 dX12_trip_125 rfl ?_ ?_
          · intro hc23n
            have hc23n : ¬ (x3 = 0) := hc23n
            replace hyp := it_neg hc23n hyp
            refine am_iload_n dX12_trip_133 rfl ?_
            refine am_iconst 1 (v := 1) dX12_trip_134 (by decide) ?_
            refine am_icmp_ne (8) 143 dX12_trip_135 rfl ?_ ?_
            · intro hc24n
              have hc24n : ¬ (x3 = (1 : Int32)) := hc24n
              replace hyp := it_neg hc24n hyp
              refine am_iload dX12_trip_143 rfl ?_
              cases hyp
              exact am_iret dX12_trip_145 rfl
            · intro hc24
              have hc24 : x3 = (1 : Int32) := hc24
              replace hyp := it_pos hc24 hyp
              refine am_iload dX12_trip_138 rfl ?_
              refine am_goto (5) 145 dX12_trip_140 rfl ?_
              cases hyp
              exact am_iret dX12_trip_145 rfl
          · intro hc23
            have hc23 : x3 = 0 := hc23
            replace hyp := it_pos hc23 hyp
            refine am_iload dX12_trip_128 rfl ?_
            refine am_goto (15) 145 dX12_trip_130 rfl ?_
            cases hyp
            exact am_iret dX12_trip_145 rfl
        · intro hc20n
          have hc20n : ¬ (v19 = 0) := hc20n
          replace hyp := it_neg hc20n hyp
          refine am_iconst 0 (v := 0) dX12_trip_45 (by decide) ?_
          cases hyp
          exact am_iret dX12_trip_46 rfl
      · intro hc18
        have hc18 : (f_X12_in x3 (0 : Int32) (2 : Int32)) = 0 := hc18
        replace hyp := it_pos hc18 hyp
        refine am_iconst 1 (v := 1) dX12_trip_32 (by decide) ?_
        refine am_goto (4) 37 dX12_trip_33 rfl ?_
        refine am_iconst 1 (v := 1) dX12_trip_37 (by decide) ?_
        refine am_iconst 1 (v := 1) dX12_trip_38 (by decide) ?_
        obtain ⟨⟨v25, M25⟩, hk25, hyp⟩ := bd_some hyp
        try dsimp only at hyp
        refine am_callV [_, _, _] dX12_trip_39 ml_X12_179 vm_X12_bad (sh_54 g) rfl (fun _ => Nat.le_of_ble_eq_true rfl) (by omega) rfl (ef_X12_bad (d := d + 8) (h := h) g hk25) rfl ?_
        change am_At _ _ _ 42 [_, _, _, _, _, _, _, _, _] [_] _ _
        refine am_if_eq (5) 47 dX12_trip_42 rfl ?_ ?_
        · intro hc26
          have hc26 : v25 = 0 := hc26
          replace hyp := it_pos hc26 hyp
          refine am_aload_n dX12_trip_47 rfl ?_
          refine am_iload_n dX12_trip_48 rfl ?_
          refine am_iload_n dX12_trip_49 rfl ?_
          obtain ⟨⟨v27, M27⟩, hk27, hyp⟩ := bd_some hyp
          try dsimp only at hyp
          refine am_callV [_, _] dX12_trip_50 ml_X12_339 vm_X12_trips (sh_54 g) rfl (fun _ => Nat.le_of_ble_eq_true rfl) (by omega) rfl (ef_X12_trips (d := d + 0) (h := h) g hk27) rfl ?_
          change am_At _ _ _ 53 [_, _, _, _, _, _, _, _, _] [_] _ _
          refine am_istore dX12_trip_53 (am_lb rfl) ?_
          change am_At _ _ _ 55 [_, _, _, _, _, _, _, _, _] [] _ _
          refine am_iconst 0 (v := 0) dX12_trip_55 (by decide) ?_
          refine am_istore dX12_trip_56 (am_lb rfl) ?_
          change am_At _ _ _ 58 [_, _, _, _, _, _, _, _, _] [] _ _
          refine am_iconst 0 (v := 0) dX12_trip_58 (by decide) ?_
          refine am_istore dX12_trip_59 (am_lb rfl) ?_
          change am_At _ _ _ 61 [_, _, _, _, _, _, _, _, _] [] _ _
          refine am_iconst (-1) (v := (-1)) dX12_trip_61 (by decide) ?_
          refine am_istore dX12_trip_62 (am_lb rfl) ?_
          change am_At _ _ _ 64 [_, _, _, _, _, _, _, _, _] [] _ _
          refine am_iconst 0 (v := 0) dX12_trip_64 (by decide) ?_
          refine am_istore dX12_trip_65 (am_lb rfl) ?_
          change am_At _ _ _ 67 [_, _, _, _, _, _, _, _, _] [] _ _
          obtain ⟨⟨x6_28, x7_28⟩, hw28, hyp⟩ := bd_some hyp
          refine am_At.drop 1 ?_
          refine am_At.drop 2 ?_
          try dsimp only at hyp
          refine eL_X12_trip_67 (d := d) (h := h) g (M := M27) FU ((0 : Int32), (0 : Int32), (-1 : Int32), (0 : Int32)) (x6_28, x7_28) hw28 ?_
          change am_At _ _ _ 124 [_, _, _, _, _, _, _, _, _] [] _ _
          refine am_iload_n dX12_trip_124 rfl ?_
          refine am_if_ne (8) 133 dX12_trip_125 rfl ?_ ?_
          · intro hc29n
            have hc29n : ¬ (x3 = 0) := hc29n
            replace hyp := it_neg hc29n hyp
            refine am_iload_n dX12_trip_133 rfl ?_
            refine am_iconst 1 (v := 1) dX12_trip_134 (by decide) ?_
            refine am_icmp_ne (8) 143 dX12_trip_135 rfl ?_ ?_
            · intro hc30n
              have hc30n : ¬ (x3 = (1 : Int32)) := hc30n
              replace hyp := it_neg hc30n hyp
              refine am_iload dX12_trip_143 rfl ?_
              cases hyp
              exact am_iret dX12_trip_145 rfl
            · intro hc30
              have hc30 : x3 = (1 : Int32) := hc30
              replace hyp := it_pos hc30 hyp
              refine am_iload dX12_trip_138 rfl ?_
              refine am_goto (5) 145 dX12_trip_140 rfl ?_
              cases hyp
              exact am_iret dX12_trip_145 rfl
          · intro hc29
            have hc29 : x3 = 0 := hc29
            replace hyp := it_pos hc29 hyp
            refine am_iload dX12_trip_128 rfl ?_
            refine am_goto (15) 145 dX12_trip_130 rfl ?_
            cases hyp
            exact am_iret dX12_trip_145 rfl
        · intro hc26n
          have hc26n : ¬ (v25 = 0) := hc26n
          replace hyp := it_neg hc26n hyp
          refine am_iconst 0 (v := 0) dX12_trip_45 (by decide) ?_
          cases hyp
          exact am_iret dX12_trip_46 rfl
theorem ef_X12_walk {d : Nat} {h : am_H} (g : lay h) {x1 x2 x3 : Int32} {M : Mem} {v : Int32} {M' : Mem} (hyp : f_X12_walk x1 x2 x3 M = some (v, M')) : am_Ev (d + 8) mX12_walk [.inr (54, 0), am_I x1, am_I x2, am_I x3] (am_hM h M) (.inl (some (am_I v), am_hM h M')) := by
  unfold f_X12_walk at hyp
  refine am_Ev.mk (by decide +kernel) rfl rfl (Nat.le_refl _) (Nat.le_refl _) ?_
  change am_At _ _ _ 0 [_, _, _, _] [] _ _
  refine am_aload_n dX12_walk_0 rfl ?_
  refine am_iconst 0 (v := 0) dX12_walk_1 (by decide) ?_
  refine am_putI 12 0 dX12_walk_2 (Or.inl fp_X12_103) (sh_54 g) (by decide) rfl rfl rfl ?_
  refine am_aload_n dX12_walk_5 rfl ?_
  refine am_aload_n dX12_walk_6 rfl ?_
  refine am_iload_n dX12_walk_7 rfl ?_
  refine am_callV [_] dX12_walk_8 ml_X12_327 vm_X12_isBoard (sh_54 g) rfl (fun _ => Nat.le_of_ble_eq_true rfl) (by omega) rfl (ef_X12_isBoard (d := d + 6) (h := h) g (x1 := x1) (M := (am_u3 M 54 0 0 (0 : Int32))) rfl) rfl ?_
  change am_At _ _ _ 11 [_, _, _, _] [_, _] _ _
  refine am_if_eq (11) 22 dX12_walk_11 rfl ?_ ?_
  · intro hc1
    have hc1 : (f_X12_in x1 (0 : Int32) (((am_u3 M 54 0 0 (0 : Int32)) 58 0 0) - (1 : Int32))) = 0 := hc1
    replace hyp := it_pos hc1 hyp
    refine am_iconst 1 (v := 1) dX12_walk_22 (by decide) ?_
    refine am_goto (4) 27 dX12_walk_23 rfl ?_
    refine am_iconst 1 (v := 1) dX12_walk_27 (by decide) ?_
    refine am_iconst 0 (v := 0) dX12_walk_28 (by decide) ?_
    obtain ⟨⟨v2, M2⟩, hk2, hyp⟩ := bd_some hyp
    try dsimp only at hyp
    refine am_callV [_, _, _] dX12_walk_29 ml_X12_179 vm_X12_bad (sh_54 g) rfl (fun _ => Nat.le_of_ble_eq_true rfl) (by omega) rfl (ef_X12_bad (d := d + 7) (h := h) g hk2) rfl ?_
    change am_At _ _ _ 32 [_, _, _, _] [_] _ _
    refine am_if_ne (24) 56 dX12_walk_32 rfl ?_ ?_
    · intro hc3n
      have hc3n : ¬ (v2 = 0) := hc3n
      replace hyp := it_neg hc3n hyp
      refine am_iconst 0 (v := 0) dX12_walk_56 (by decide) ?_
      cases hyp
      exact am_iret dX12_walk_57 rfl
    · intro hc3
      have hc3 : v2 = 0 := hc3
      replace hyp := it_pos hc3 hyp
      refine am_aload_n dX12_walk_35 rfl ?_
      refine am_iload_n dX12_walk_36 rfl ?_
      refine am_callS (c := 0) (k := 0) (n := 0) (w := 0) [_] dX12_walk_37 ml_X12_363 sm_X12_isWeight rfl (fun _ => Nat.le_of_ble_eq_true rfl) (by omega) rfl (ef_X12_isWeight (d := d + 6) (h := am_hM h M2) (x0 := x3)  rfl) rfl ?_
      change am_At _ _ _ 40 [_, _, _, _] [_, _] _ _
      refine am_if_ne (7) 47 dX12_walk_40 rfl ?_ ?_
      · intro hc4n
        have hc4n : ¬ ((f_X12_in x3 (0 : Int32) (20 : Int32)) = 0) := hc4n
        replace hyp := it_neg hc4n hyp
        refine am_iconst 0 (v := 0) dX12_walk_47 (by decide) ?_
        refine am_iconst 2 (v := 2) dX12_walk_48 (by decide) ?_
        refine am_iconst 1 (v := 1) dX12_walk_49 (by decide) ?_
        obtain ⟨⟨v5, M5⟩, hk5, hyp⟩ := bd_some hyp
        try dsimp only at hyp
        refine am_callV [_, _, _] dX12_walk_50 ml_X12_179 vm_X12_bad (sh_54 g) rfl (fun _ => Nat.le_of_ble_eq_true rfl) (by omega) rfl (ef_X12_bad (d := d + 7) (h := h) g hk5) rfl ?_
        change am_At _ _ _ 53 [_, _, _, _] [_] _ _
        refine am_if_eq (5) 58 dX12_walk_53 rfl ?_ ?_
        · intro hc6
          have hc6 : v5 = 0 := hc6
          replace hyp := it_pos hc6 hyp
          refine am_aload_n dX12_walk_58 rfl ?_
          refine am_iload_n dX12_walk_59 rfl ?_
          refine am_iload_n dX12_walk_60 rfl ?_
          obtain ⟨M7, hk7, hyp⟩ := bd_some hyp
          try dsimp only at hyp
          refine am_callV [_, _] dX12_walk_61 ml_X12_366 vm_X12_walks (sh_54 g) rfl (fun _ => Nat.le_of_ble_eq_true rfl) (by omega) rfl (ef_X12_walks (d := d + 0) (h := h) g hk7) rfl ?_
          change am_At _ _ _ 64 [_, _, _, _] [] _ _
          refine am_aload_n dX12_walk_64 rfl ?_
          refine am_getR 12 47 81 dX12_walk_65 fg_X12_94 (sh_54 g) (by decide) rfl (rf_54_47 g) ?_
          refine am_iload_n dX12_walk_68 rfl ?_
          obtain ⟨hg8, hyp⟩ := gd_some hyp
          refine am_iald dX12_walk_69 (am_ia.one (sh_81 g)) (am_lit hg8) ?_
          cases hyp
          exact am_iret dX12_walk_70 rfl
        · intro hc6n
          have hc6n : ¬ (v5 = 0) := hc6n
          replace hyp := it_neg hc6n hyp
          refine am_iconst 0 (v := 0) dX12_walk_56 (by decide) ?_
          cases hyp
          exact am_iret dX12_walk_57 rfl
      · intro hc4
        have hc4 : (f_X12_in x3 (0 : Int32) (20 : Int32)) = 0 := hc4
        replace hyp := it_pos hc4 hyp
        refine am_iconst 1 (v := 1) dX12_walk_43 (by decide) ?_
        refine am_goto (4) 48 dX12_walk_44 rfl ?_
        refine am_iconst 2 (v := 2) dX12_walk_48 (by decide) ?_
        refine am_iconst 1 (v := 1) dX12_walk_49 (by decide) ?_
        obtain ⟨⟨v9, M9⟩, hk9, hyp⟩ := bd_some hyp
        try dsimp only at hyp
        refine am_callV [_, _, _] dX12_walk_50 ml_X12_179 vm_X12_bad (sh_54 g) rfl (fun _ => Nat.le_of_ble_eq_true rfl) (by omega) rfl (ef_X12_bad (d := d + 7) (h := h) g hk9) rfl ?_
        change am_At _ _ _ 53 [_, _, _, _] [_] _ _
        refine am_if_eq (5) 58 dX12_walk_53 rfl ?_ ?_
        · intro hc10
          have hc10 : v9 = 0 := hc10
          replace hyp := it_pos hc10 hyp
          refine am_aload_n dX12_walk_58 rfl ?_
          refine am_iload_n dX12_walk_59 rfl ?_
          refine am_iload_n dX12_walk_60 rfl ?_
          obtain ⟨M11, hk11, hyp⟩ := bd_some hyp
          try dsimp only at hyp
          refine am_callV [_, _] dX12_walk_61 ml_X12_366 vm_X12_walks (sh_54 g) rfl (fun _ => Nat.le_of_ble_eq_true rfl) (by omega) rfl (ef_X12_walks (d := d + 0) (h := h) g hk11) rfl ?_
          change am_At _ _ _ 64 [_, _, _, _] [] _ _
          refine am_aload_n dX12_walk_64 rfl ?_
          refine am_getR 12 47 81 dX12_walk_65 fg_X12_94 (sh_54 g) (by decide) rfl (rf_54_47 g) ?_
          refine am_iload_n dX12_walk_68 rfl ?_
          obtain ⟨hg12, hyp⟩ := gd_some hyp
          refine am_iald dX12_walk_69 (am_ia.one (sh_81 g)) (am_lit hg12) ?_
          cases hyp
          exact am_iret dX12_walk_70 rfl
        · intro hc10n
          have hc10n : ¬ (v9 = 0) := hc10n
          replace hyp := it_neg hc10n hyp
          refine am_iconst 0 (v := 0) dX12_walk_56 (by decide) ?_
          cases hyp
          exact am_iret dX12_walk_57 rfl
  · intro hc1n
    have hc1n : ¬ ((f_X12_in x1 (0 : Int32) (((am_u3 M 54 0 0 (0 : Int32)) 58 0 0) - (1 : Int32))) = 0) := hc1n
    replace hyp := it_neg hc1n hyp
    refine am_aload_n dX12_walk_14 rfl ?_
    refine am_iload_n dX12_walk_15 rfl ?_
    refine am_callV [_] dX12_walk_16 ml_X12_327 vm_X12_isBoard (sh_54 g) rfl (fun _ => Nat.le_of_ble_eq_true rfl) (by omega) rfl (ef_X12_isBoard (d := d + 6) (h := h) g (x1 := x2) (M := (am_u3 M 54 0 0 (0 : Int32))) rfl) rfl ?_
    change am_At _ _ _ 19 [_, _, _, _] [_, _] _ _
    refine am_if_ne (7) 26 dX12_walk_19 rfl ?_ ?_
    · intro hc13n
      have hc13n : ¬ ((f_X12_in x2 (0 : Int32) (((am_u3 M 54 0 0 (0 : Int32)) 58 0 0) - (1 : Int32))) = 0) := hc13n
      replace hyp := it_neg hc13n hyp
      refine am_iconst 0 (v := 0) dX12_walk_26 (by decide) ?_
      refine am_iconst 1 (v := 1) dX12_walk_27 (by decide) ?_
      refine am_iconst 0 (v := 0) dX12_walk_28 (by decide) ?_
      obtain ⟨⟨v14, M14⟩, hk14, hyp⟩ := bd_some hyp
      try dsimp only at hyp
      refine am_callV [_, _, _] dX12_walk_29 ml_X12_179 vm_X12_bad (sh_54 g) rfl (fun _ => Nat.le_of_ble_eq_true rfl) (by omega) rfl (ef_X12_bad (d := d + 7) (h := h) g hk14) rfl ?_
      change am_At _ _ _ 32 [_, _, _, _] [_] _ _
      refine am_if_ne (24) 56 dX12_walk_32 rfl ?_ ?_
      · intro hc15n
        have hc15n : ¬ (v14 = 0) := hc15n
        replace hyp := it_neg hc15n hyp
        refine am_iconst 0 (v := 0) dX12_walk_56 (by decide) ?_
        cases hyp
        exact am_iret dX12_walk_57 rfl
      · intro hc15
        have hc15 : v14 = 0 := hc15
        replace hyp := it_pos hc15 hyp
        refine am_aload_n dX12_walk_35 rfl ?_
        refine am_iload_n dX12_walk_36 rfl ?_
        refine am_callS (c := 0) (k := 0) (n := 0) (w := 0) [_] dX12_walk_37 ml_X12_363 sm_X12_isWeight rfl (fun _ => Nat.le_of_ble_eq_true rfl) (by omega) rfl (ef_X12_isWeight (d := d + 6) (h := am_hM h M14) (x0 := x3)  rfl) rfl ?_
        change am_At _ _ _ 40 [_, _, _, _] [_, _] _ _
        refine am_if_ne (7) 47 dX12_walk_40 rfl ?_ ?_
        · intro hc16n
          have hc16n : ¬ ((f_X12_in x3 (0 : Int32) (20 : Int32)) = 0) := hc16n
          replace hyp := it_neg hc16n hyp
          refine am_iconst 0 (v := 0) dX12_walk_47 (by decide) ?_
          refine am_iconst 2 (v := 2) dX12_walk_48 (by decide) ?_
          refine am_iconst 1 (v := 1) dX12_walk_49 (by decide) ?_
          obtain ⟨⟨v17, M17⟩, hk17, hyp⟩ := bd_some hyp
          try dsimp only at hyp
          refine am_callV [_, _, _] dX12_walk_50 ml_X12_179 vm_X12_bad (sh_54 g) rfl (fun _ => Nat.le_of_ble_eq_true rfl) (by omega) rfl (ef_X12_bad (d := d + 7) (h := h) g hk17) rfl ?_
          change am_At _ _ _ 53 [_, _, _, _] [_] _ _
          refine am_if_eq (5) 58 dX12_walk_53 rfl ?_ ?_
          · intro hc18
            have hc18 : v17 = 0 := hc18
            replace hyp := it_pos hc18 hyp
            refine am_aload_n dX12_walk_58 rfl ?_
            refine am_iload_n dX12_walk_59 rfl ?_
            refine am_iload_n dX12_walk_60 rfl ?_
            obtain ⟨M19, hk19, hyp⟩ := bd_some hyp
            try dsimp only at hyp
            refine am_callV [_, _] dX12_walk_61 ml_X12_366 vm_X12_walks (sh_54 g) rfl (fun _ => Nat.le_of_ble_eq_true rfl) (by omega) rfl (ef_X12_walks (d := d + 0) (h := h) g hk19) rfl ?_
            change am_At _ _ _ 64 [_, _, _, _] [] _ _
            refine am_aload_n dX12_walk_64 rfl ?_
            refine am_getR 12 47 81 dX12_walk_65 fg_X12_94 (sh_54 g) (by decide) rfl (rf_54_47 g) ?_
            refine am_iload_n dX12_walk_68 rfl ?_
            obtain ⟨hg20, hyp⟩ := gd_some hyp
            refine am_iald dX12_walk_69 (am_ia.one (sh_81 g)) (am_lit hg20) ?_
            cases hyp
            exact am_iret dX12_walk_70 rfl
          · intro hc18n
            have hc18n : ¬ (v17 = 0) := hc18n
            replace hyp := it_neg hc18n hyp
            refine am_iconst 0 (v := 0) dX12_walk_56 (by decide) ?_
            cases hyp
            exact am_iret dX12_walk_57 rfl
        · intro hc16
          have hc16 : (f_X12_in x3 (0 : Int32) (20 : Int32)) = 0 := hc16
          replace hyp := it_pos hc16 hyp
          refine am_iconst 1 (v := 1) dX12_walk_43 (by decide) ?_
          refine am_goto (4) 48 dX12_walk_44 rfl ?_
          refine am_iconst 2 (v := 2) dX12_walk_48 (by decide) ?_
          refine am_iconst 1 (v := 1) dX12_walk_49 (by decide) ?_
          obtain ⟨⟨v21, M21⟩, hk21, hyp⟩ := bd_some hyp
          try dsimp only at hyp
          refine am_callV [_, _, _] dX12_walk_50 ml_X12_179 vm_X12_bad (sh_54 g) rfl (fun _ => Nat.le_of_ble_eq_true rfl) (by omega) rfl (ef_X12_bad (d := d + 7) (h := h) g hk21) rfl ?_
          change am_At _ _ _ 53 [_, _, _, _] [_] _ _
          refine am_if_eq (5) 58 dX12_walk_53 rfl ?_ ?_
          · intro hc22
            have hc22 : v21 = 0 := hc22
            replace hyp := it_pos hc22 hyp
            refine am_aload_n dX12_walk_58 rfl ?_
            refine am_iload_n dX12_walk_59 rfl ?_
            refine am_iload_n dX12_walk_60 rfl ?_
            obtain ⟨M23, hk23, hyp⟩ := bd_some hyp
            try dsimp only at hyp
            refine am_callV [_, _] dX12_walk_61 ml_X12_366 vm_X12_walks (sh_54 g) rfl (fun _ => Nat.le_of_ble_eq_true rfl) (by omega) rfl (ef_X12_walks (d := d + 0) (h := h) g hk23) rfl ?_
            change am_At _ _ _ 64 [_, _, _, _] [] _ _
            refine am_aload_n dX12_walk_64 rfl ?_
            refine am_getR 12 47 81 dX12_walk_65 fg_X12_94 (sh_54 g) (by decide) rfl (rf_54_47 g) ?_
            refine am_iload_n dX12_walk_68 rfl ?_
            obtain ⟨hg24, hyp⟩ := gd_some hyp
            refine am_iald dX12_walk_69 (am_ia.one (sh_81 g)) (am_lit hg24) ?_
            cases hyp
            exact am_iret dX12_walk_70 rfl
          · intro hc22n
            have hc22n : ¬ (v21 = 0) := hc22n
            replace hyp := it_neg hc22n hyp
            refine am_iconst 0 (v := 0) dX12_walk_56 (by decide) ?_
            cases hyp
            exact am_iret dX12_walk_57 rfl
    · intro hc13
      have hc13 : (f_X12_in x2 (0 : Int32) (((am_u3 M 54 0 0 (0 : Int32)) 58 0 0) - (1 : Int32))) = 0 := hc13
      replace hyp := it_pos hc13 hyp
      refine am_iconst 1 (v := 1) dX12_walk_22 (by decide) ?_
      refine am_goto (4) 27 dX12_walk_23 rfl ?_
      refine am_iconst 1 (v := 1) dX12_walk_27 (by decide) ?_
      refine am_iconst 0 (v := 0) dX12_walk_28 (by decide) ?_
      obtain ⟨⟨v25, M25⟩, hk25, hyp⟩ := bd_some hyp
      try dsimp only at hyp
      refine am_callV [_, _, _] dX12_walk_29 ml_X12_179 vm_X12_bad (sh_54 g) rfl (fun _ => Nat.le_of_ble_eq_true rfl) (by omega) rfl (ef_X12_bad (d := d + 7) (h := h) g hk25) rfl ?_
      change am_At _ _ _ 32 [_, _, _, _] [_] _ _
      refine am_if_ne (24) 56 dX12_walk_32 rfl ?_ ?_
      · intro hc26n
        have hc26n : ¬ (v25 = 0) := hc26n
        replace hyp := it_neg hc26n hyp
        refine am_iconst 0 (v := 0) dX12_walk_56 (by decide) ?_
        cases hyp
        exact am_iret dX12_walk_57 rfl
      · intro hc26
        have hc26 : v25 = 0 := hc26
        replace hyp := it_pos hc26 hyp
        refine am_aload_n dX12_walk_35 rfl ?_
        refine am_iload_n dX12_walk_36 rfl ?_
        refine am_callS (c := 0) (k := 0) (n := 0) (w := 0) [_] dX12_walk_37 ml_X12_363 sm_X12_isWeight rfl (fun _ => Nat.le_of_ble_eq_true rfl) (by omega) rfl (ef_X12_isWeight (d := d + 6) (h := am_hM h M25) (x0 := x3)  rfl) rfl ?_
        change am_At _ _ _ 40 [_, _, _, _] [_, _] _ _
        refine am_if_ne (7) 47 dX12_walk_40 rfl ?_ ?_
        · intro hc27n
          have hc27n : ¬ ((f_X12_in x3 (0 : Int32) (20 : Int32)) = 0) := hc27n
          replace hyp := it_neg hc27n hyp
          refine am_iconst 0 (v := 0) dX12_walk_47 (by decide) ?_
          refine am_iconst 2 (v := 2) dX12_walk_48 (by decide) ?_
          refine am_iconst 1 (v := 1) dX12_walk_49 (by decide) ?_
          obtain ⟨⟨v28, M28⟩, hk28, hyp⟩ := bd_some hyp
          try dsimp only at hyp
          refine am_callV [_, _, _] dX12_walk_50 ml_X12_179 vm_X12_bad (sh_54 g) rfl (fun _ => Nat.le_of_ble_eq_true rfl) (by omega) rfl (ef_X12_bad (d := d + 7) (h := h) g hk28) rfl ?_
          change am_At _ _ _ 53 [_, _, _, _] [_] _ _
          refine am_if_eq (5) 58 dX12_walk_53 rfl ?_ ?_
          · intro hc29
            have hc29 : v28 = 0 := hc29
            replace hyp := it_pos hc29 hyp
            refine am_aload_n dX12_walk_58 rfl ?_
            refine am_iload_n dX12_walk_59 rfl ?_
            refine am_iload_n dX12_walk_60 rfl ?_
            obtain ⟨M30, hk30, hyp⟩ := bd_some hyp
            try dsimp only at hyp
            refine am_callV [_, _] dX12_walk_61 ml_X12_366 vm_X12_walks (sh_54 g) rfl (fun _ => Nat.le_of_ble_eq_true rfl) (by omega) rfl (ef_X12_walks (d := d + 0) (h := h) g hk30) rfl ?_
            change am_At _ _ _ 64 [_, _, _, _] [] _ _
            refine am_aload_n dX12_walk_64 rfl ?_
            refine am_getR 12 47 81 dX12_walk_65 fg_X12_94 (sh_54 g) (by decide) rfl (rf_54_47 g) ?_
            refine am_iload_n dX12_walk_68 rfl ?_
            obtain ⟨hg31, hyp⟩ := gd_some hyp
            refine am_iald dX12_walk_69 (am_ia.one (sh_81 g)) (am_lit hg31) ?_
            cases hyp
            exact am_iret dX12_walk_70 rfl
          · intro hc29n
            have hc29n : ¬ (v28 = 0) := hc29n
            replace hyp := it_neg hc29n hyp
            refine am_iconst 0 (v := 0) dX12_walk_56 (by decide) ?_
            cases hyp
            exact am_iret dX12_walk_57 rfl
        · intro hc27
          have hc27 : (f_X12_in x3 (0 : Int32) (20 : Int32)) = 0 := hc27
          replace hyp := it_pos hc27 hyp
          refine am_iconst 1 (v := 1) dX12_walk_43 (by decide) ?_
          refine am_goto (4) 48 dX12_walk_44 rfl ?_
          refine am_iconst 2 (v := 2) dX12_walk_48 (by decide) ?_
          refine am_iconst 1 (v := 1) dX12_walk_49 (by decide) ?_
          obtain ⟨⟨v32, M32⟩, hk32, hyp⟩ := bd_some hyp
          try dsimp only at hyp
          refine am_callV [_, _, _] dX12_walk_50 ml_X12_179 vm_X12_bad (sh_54 g) rfl (fun _ => Nat.le_of_ble_eq_true rfl) (by omega) rfl (ef_X12_bad (d := d + 7) (h := h) g hk32) rfl ?_
          change am_At _ _ _ 53 [_, _, _, _] [_] _ _
          refine am_if_eq (5) 58 dX12_walk_53 rfl ?_ ?_
          · intro hc33
            have hc33 : v32 = 0 := hc33
            replace hyp := it_pos hc33 hyp
            refine am_aload_n dX12_walk_58 rfl ?_
            refine am_iload_n dX12_walk_59 rfl ?_
            refine am_iload_n dX12_walk_60 rfl ?_
            obtain ⟨M34, hk34, hyp⟩ := bd_some hyp
            try dsimp only at hyp
            refine am_callV [_, _] dX12_walk_61 ml_X12_366 vm_X12_walks (sh_54 g) rfl (fun _ => Nat.le_of_ble_eq_true rfl) (by omega) rfl (ef_X12_walks (d := d + 0) (h := h) g hk34) rfl ?_
            change am_At _ _ _ 64 [_, _, _, _] [] _ _
            refine am_aload_n dX12_walk_64 rfl ?_
            refine am_getR 12 47 81 dX12_walk_65 fg_X12_94 (sh_54 g) (by decide) rfl (rf_54_47 g) ?_
            refine am_iload_n dX12_walk_68 rfl ?_
            obtain ⟨hg35, hyp⟩ := gd_some hyp
            refine am_iald dX12_walk_69 (am_ia.one (sh_81 g)) (am_lit hg35) ?_
            cases hyp
            exact am_iret dX12_walk_70 rfl
          · intro hc33n
            have hc33n : ¬ (v32 = 0) := hc33n
            replace hyp := it_neg hc33n hyp
            refine am_iconst 0 (v := 0) dX12_walk_56 (by decide) ?_
            cases hyp
            exact am_iret dX12_walk_57 rfl
theorem ef_X12_winters {d : Nat} {h : am_H} (g : lay h) {x1 x2 x3 x4 : Int32} {M : Mem} {v : Int32} {M' : Mem} (hyp : f_X12_winters x1 x2 x3 x4 M = some (v, M')) : am_Ev (d + 9) mX12_winters [.inr (54, 0), am_I x1, am_I x2, am_I x3, am_I x4] (am_hM h M) (.inl (some (am_I v), am_hM h M')) := by
  unfold f_X12_winters at hyp
  refine am_Ev.mk (by decide +kernel) rfl rfl (Nat.le_refl _) (Nat.le_refl _) ?_
  change am_At _ _ _ 0 [_, _, _, _, _] [] _ _
  refine am_aload_n dX12_winters_0 rfl ?_
  refine am_iconst 0 (v := 0) dX12_winters_1 (by decide) ?_
  refine am_putI 12 0 dX12_winters_2 (Or.inl fp_X12_103) (sh_54 g) (by decide) rfl rfl rfl ?_
  refine am_aload_n dX12_winters_5 rfl ?_
  refine am_iload_n dX12_winters_6 rfl ?_
  refine am_iload_n dX12_winters_7 rfl ?_
  refine am_callS (c := 0) (k := 0) (n := 0) (w := 0) [_, _] dX12_winters_8 ml_X12_376 sm_X12_isWinter rfl (fun _ => Nat.le_of_ble_eq_true rfl) (by omega) rfl (ef_X12_isWinter (d := d + 7) (h := am_hM h (am_u3 M 54 0 0 (0 : Int32))) (x0 := x2) (x1 := x3)  rfl) rfl ?_
  change am_At _ _ _ 11 [_, _, _, _, _] [_, _] _ _
  refine am_if_eq (13) 24 dX12_winters_11 rfl ?_ ?_
  · intro hc1
    have hc1 : (f_X12_isWinter x2 x3) = 0 := hc1
    replace hyp := it_pos hc1 hyp
    refine am_iconst 1 (v := 1) dX12_winters_24 (by decide) ?_
    refine am_goto (4) 29 dX12_winters_25 rfl ?_
    refine am_iconst 1 (v := 1) dX12_winters_29 (by decide) ?_
    refine am_iconst 1 (v := 1) dX12_winters_30 (by decide) ?_
    obtain ⟨⟨v2, M2⟩, hk2, hyp⟩ := bd_some hyp
    try dsimp only at hyp
    refine am_callV [_, _, _] dX12_winters_31 ml_X12_179 vm_X12_bad (sh_54 g) rfl (fun _ => Nat.le_of_ble_eq_true rfl) (by omega) rfl (ef_X12_bad (d := d + 8) (h := h) g hk2) rfl ?_
    change am_At _ _ _ 34 [_, _, _, _, _] [_] _ _
    refine am_if_eq (5) 39 dX12_winters_34 rfl ?_ ?_
    · intro hc3
      have hc3 : v2 = 0 := hc3
      replace hyp := it_pos hc3 hyp
      refine am_aload_n dX12_winters_39 rfl ?_
      refine am_iload_n dX12_winters_40 rfl ?_
      refine am_iload_n dX12_winters_41 rfl ?_
      refine am_iload_n dX12_winters_42 rfl ?_
      obtain ⟨M4, hk4, hyp⟩ := bd_some hyp
      try dsimp only at hyp
      refine am_callV [_, _, _] dX12_winters_43 ml_X12_379 vm_X12_wintersBy (sh_54 g) rfl (fun _ => Nat.le_of_ble_eq_true rfl) (by omega) rfl (ef_X12_wintersBy (d := d + 0) (h := h) g hk4) rfl ?_
      change am_At _ _ _ 46 [_, _, _, _, _] [] _ _
      refine am_iload dX12_winters_46 rfl ?_
      by_cases hc5 : x4 = (0 : Int32)
      · refine am_tabIn (28) 76 dX12_winters_48 (by rw [hc5]; decide) (by rw [hc5]; decide) (by rw [hc5]; rfl) rfl ?_
        replace hyp := it_pos hc5 hyp
        refine am_aload_n dX12_winters_76 rfl ?_
        refine am_aload_n dX12_winters_77 rfl ?_
        refine am_getR 12 30 73 dX12_winters_78 fg_X12_70 (sh_54 g) (by decide) rfl (rf_54_30 g) ?_
        obtain ⟨v6, hk6, hyp⟩ := bd_some hyp
        try dsimp only at hyp
        refine am_callV [_] dX12_winters_81 ml_X12_324 vm_X12_throughIn (sh_54 g) rfl (fun _ => Nat.le_of_ble_eq_true rfl) (by omega) rfl (ef_X12_throughIn_73 (d := d + 8) (h := h) g hk6) rfl ?_
        change am_At _ _ _ 84 [_, _, _, _, _] [_] _ _
        cases hyp
        exact am_iret dX12_winters_84 rfl
      · have hc5n := hc5
        replace hyp := it_neg hc5n hyp
        by_cases hc7 : x4 = (1 : Int32)
        · refine am_tabIn (37) 85 dX12_winters_48 (by rw [hc7]; decide) (by rw [hc7]; decide) (by rw [hc7]; rfl) rfl ?_
          replace hyp := it_pos hc7 hyp
          refine am_aload_n dX12_winters_85 rfl ?_
          refine am_aload_n dX12_winters_86 rfl ?_
          refine am_getR 12 30 73 dX12_winters_87 fg_X12_70 (sh_54 g) (by decide) rfl (rf_54_30 g) ?_
          refine am_bipush 32 (v := 32) dX12_winters_90 (by decide) ?_
          obtain ⟨v8, hk8, hyp⟩ := bd_some hyp
          try dsimp only at hyp
          refine am_callV [_, _] dX12_winters_92 ml_X12_321 vm_X12_sumOf (sh_54 g) rfl (fun _ => Nat.le_of_ble_eq_true rfl) (by omega) rfl (ef_X12_sumOf_73 (d := d + 8) (h := h) g hk8) rfl ?_
          change am_At _ _ _ 95 [_, _, _, _, _] [_] _ _
          refine am_aload_n dX12_winters_95 rfl ?_
          refine am_aload_n dX12_winters_96 rfl ?_
          refine am_getR 12 29 72 dX12_winters_97 fg_X12_67 (sh_54 g) (by decide) rfl (rf_54_29 g) ?_
          refine am_bipush 32 (v := 32) dX12_winters_100 (by decide) ?_
          obtain ⟨v9, hk9, hyp⟩ := bd_some hyp
          try dsimp only at hyp
          refine am_callV [_, _] dX12_winters_102 ml_X12_321 vm_X12_sumOf (sh_54 g) rfl (fun _ => Nat.le_of_ble_eq_true rfl) (by omega) rfl (ef_X12_sumOf_72 (d := d + 8) (h := h) g hk9) rfl ?_
          change am_At _ _ _ 105 [_, _, _, _, _] [_, _] _ _
          refine am_isub dX12_winters_105 ?_
          cases hyp
          exact am_iret dX12_winters_106 rfl
        · have hc7n := hc7
          replace hyp := it_neg hc7n hyp
          by_cases hc10 : x4 = (2 : Int32)
          · refine am_tabIn (59) 107 dX12_winters_48 (by rw [hc10]; decide) (by rw [hc10]; decide) (by rw [hc10]; rfl) rfl ?_
            replace hyp := it_pos hc10 hyp
            refine am_aload_n dX12_winters_107 rfl ?_
            refine am_getI 12 49 dX12_winters_108 fg_X12_372 (sh_54 g) (by decide) rfl ?_
            cases hyp
            exact am_iret dX12_winters_111 rfl
          · have hc10n := hc10
            replace hyp := it_neg hc10n hyp
            refine am_tabOut 112 dX12_winters_48 (by have q0 := lv_neT (a := 0) hc5n (by decide); have q1 := lv_neT (a := 1) hc7n (by decide); have q2 := lv_neT (a := 2) hc10n (by decide); omega) rfl ?_
            refine am_aload_n dX12_winters_112 rfl ?_
            refine am_aload_n dX12_winters_113 rfl ?_
            refine am_getR 12 30 73 dX12_winters_114 fg_X12_70 (sh_54 g) (by decide) rfl (rf_54_30 g) ?_
            refine am_bipush 16 (v := 16) dX12_winters_117 (by decide) ?_
            obtain ⟨v11, hk11, hyp⟩ := bd_some hyp
            try dsimp only at hyp
            refine am_callV [_, _] dX12_winters_119 ml_X12_321 vm_X12_sumOf (sh_54 g) rfl (fun _ => Nat.le_of_ble_eq_true rfl) (by omega) rfl (ef_X12_sumOf_73 (d := d + 8) (h := h) g hk11) rfl ?_
            change am_At _ _ _ 122 [_, _, _, _, _] [_] _ _
            refine am_aload_n dX12_winters_122 rfl ?_
            refine am_aload_n dX12_winters_123 rfl ?_
            refine am_getR 12 29 72 dX12_winters_124 fg_X12_67 (sh_54 g) (by decide) rfl (rf_54_29 g) ?_
            refine am_bipush 16 (v := 16) dX12_winters_127 (by decide) ?_
            obtain ⟨v12, hk12, hyp⟩ := bd_some hyp
            try dsimp only at hyp
            refine am_callV [_, _] dX12_winters_129 ml_X12_321 vm_X12_sumOf (sh_54 g) rfl (fun _ => Nat.le_of_ble_eq_true rfl) (by omega) rfl (ef_X12_sumOf_72 (d := d + 8) (h := h) g hk12) rfl ?_
            change am_At _ _ _ 132 [_, _, _, _, _] [_, _] _ _
            refine am_isub dX12_winters_132 ?_
            cases hyp
            exact am_iret dX12_winters_133 rfl
    · intro hc3n
      have hc3n : ¬ (v2 = 0) := hc3n
      replace hyp := it_neg hc3n hyp
      refine am_iconst 0 (v := 0) dX12_winters_37 (by decide) ?_
      cases hyp
      exact am_iret dX12_winters_38 rfl
  · intro hc1n
    have hc1n : ¬ ((f_X12_isWinter x2 x3) = 0) := hc1n
    replace hyp := it_neg hc1n hyp
    refine am_iload dX12_winters_14 rfl ?_
    refine am_iconst 0 (v := 0) dX12_winters_16 (by decide) ?_
    refine am_iconst 3 (v := 3) dX12_winters_17 (by decide) ?_
    refine am_callS (c := 0) (k := 0) (n := 0) (w := 0) [_, _, _] dX12_winters_18 ml_X12_137 sm_X12_in rfl (fun _ => Nat.le_of_ble_eq_true rfl) (by omega) rfl (ef_X12_in (d := d + 8) (h := am_hM h (am_u3 M 54 0 0 (0 : Int32))) (x0 := x4) (x1 := (0 : Int32)) (x2 := (3 : Int32))  rfl) rfl ?_
    change am_At _ _ _ 21 [_, _, _, _, _] [_, _] _ _
    refine am_if_ne (7) 28 dX12_winters_21 rfl ?_ ?_
    · intro hc13n
      have hc13n : ¬ ((f_X12_in x4 (0 : Int32) (3 : Int32)) = 0) := hc13n
      replace hyp := it_neg hc13n hyp
      refine am_iconst 0 (v := 0) dX12_winters_28 (by decide) ?_
      refine am_iconst 1 (v := 1) dX12_winters_29 (by decide) ?_
      refine am_iconst 1 (v := 1) dX12_winters_30 (by decide) ?_
      obtain ⟨⟨v14, M14⟩, hk14, hyp⟩ := bd_some hyp
      try dsimp only at hyp
      refine am_callV [_, _, _] dX12_winters_31 ml_X12_179 vm_X12_bad (sh_54 g) rfl (fun _ => Nat.le_of_ble_eq_true rfl) (by omega) rfl (ef_X12_bad (d := d + 8) (h := h) g hk14) rfl ?_
      change am_At _ _ _ 34 [_, _, _, _, _] [_] _ _
      refine am_if_eq (5) 39 dX12_winters_34 rfl ?_ ?_
      · intro hc15
        have hc15 : v14 = 0 := hc15
        replace hyp := it_pos hc15 hyp
        refine am_aload_n dX12_winters_39 rfl ?_
        refine am_iload_n dX12_winters_40 rfl ?_
        refine am_iload_n dX12_winters_41 rfl ?_
        refine am_iload_n dX12_winters_42 rfl ?_
        obtain ⟨M16, hk16, hyp⟩ := bd_some hyp
        try dsimp only at hyp
        refine am_callV [_, _, _] dX12_winters_43 ml_X12_379 vm_X12_wintersBy (sh_54 g) rfl (fun _ => Nat.le_of_ble_eq_true rfl) (by omega) rfl (ef_X12_wintersBy (d := d + 0) (h := h) g hk16) rfl ?_
        change am_At _ _ _ 46 [_, _, _, _, _] [] _ _
        refine am_iload dX12_winters_46 rfl ?_
        by_cases hc17 : x4 = (0 : Int32)
        · refine am_tabIn (28) 76 dX12_winters_48 (by rw [hc17]; decide) (by rw [hc17]; decide) (by rw [hc17]; rfl) rfl ?_
          replace hyp := it_pos hc17 hyp
          refine am_aload_n dX12_winters_76 rfl ?_
          refine am_aload_n dX12_winters_77 rfl ?_
          refine am_getR 12 30 73 dX12_winters_78 fg_X12_70 (sh_54 g) (by decide) rfl (rf_54_30 g) ?_
          obtain ⟨v18, hk18, hyp⟩ := bd_some hyp
          try dsimp only at hyp
          refine am_callV [_] dX12_winters_81 ml_X12_324 vm_X12_throughIn (sh_54 g) rfl (fun _ => Nat.le_of_ble_eq_true rfl) (by omega) rfl (ef_X12_throughIn_73 (d := d + 8) (h := h) g hk18) rfl ?_
          change am_At _ _ _ 84 [_, _, _, _, _] [_] _ _
          cases hyp
          exact am_iret dX12_winters_84 rfl
        · have hc17n := hc17
          replace hyp := it_neg hc17n hyp
          by_cases hc19 : x4 = (1 : Int32)
          · refine am_tabIn (37) 85 dX12_winters_48 (by rw [hc19]; decide) (by rw [hc19]; decide) (by rw [hc19]; rfl) rfl ?_
            replace hyp := it_pos hc19 hyp
            refine am_aload_n dX12_winters_85 rfl ?_
            refine am_aload_n dX12_winters_86 rfl ?_
            refine am_getR 12 30 73 dX12_winters_87 fg_X12_70 (sh_54 g) (by decide) rfl (rf_54_30 g) ?_
            refine am_bipush 32 (v := 32) dX12_winters_90 (by decide) ?_
            obtain ⟨v20, hk20, hyp⟩ := bd_some hyp
            try dsimp only at hyp
            refine am_callV [_, _] dX12_winters_92 ml_X12_321 vm_X12_sumOf (sh_54 g) rfl (fun _ => Nat.le_of_ble_eq_true rfl) (by omega) rfl (ef_X12_sumOf_73 (d := d + 8) (h := h) g hk20) rfl ?_
            change am_At _ _ _ 95 [_, _, _, _, _] [_] _ _
            refine am_aload_n dX12_winters_95 rfl ?_
            refine am_aload_n dX12_winters_96 rfl ?_
            refine am_getR 12 29 72 dX12_winters_97 fg_X12_67 (sh_54 g) (by decide) rfl (rf_54_29 g) ?_
            refine am_bipush 32 (v := 32) dX12_winters_100 (by decide) ?_
            obtain ⟨v21, hk21, hyp⟩ := bd_some hyp
            try dsimp only at hyp
            refine am_callV [_, _] dX12_winters_102 ml_X12_321 vm_X12_sumOf (sh_54 g) rfl (fun _ => Nat.le_of_ble_eq_true rfl) (by omega) rfl (ef_X12_sumOf_72 (d := d + 8) (h := h) g hk21) rfl ?_
            change am_At _ _ _ 105 [_, _, _, _, _] [_, _] _ _
            refine am_isub dX12_winters_105 ?_
            cases hyp
            exact am_iret dX12_winters_106 rfl
          · have hc19n := hc19
            replace hyp := it_neg hc19n hyp
            by_cases hc22 : x4 = (2 : Int32)
            · refine am_tabIn (59) 107 dX12_winters_48 (by rw [hc22]; decide) (by rw [hc22]; decide) (by rw [hc22]; rfl) rfl ?_
              replace hyp := it_pos hc22 hyp
              refine am_aload_n dX12_winters_107 rfl ?_
              refine am_getI 12 49 dX12_winters_108 fg_X12_372 (sh_54 g) (by decide) rfl ?_
              cases hyp
              exact am_iret dX12_winters_111 rfl
            · have hc22n := hc22
              replace hyp := it_neg hc22n hyp
              refine am_tabOut 112 dX12_winters_48 (by have q0 := lv_neT (a := 0) hc17n (by decide); have q1 := lv_neT (a := 1) hc19n (by decide); have q2 := lv_neT (a := 2) hc22n (by decide); omega) rfl ?_
              refine am_aload_n dX12_winters_112 rfl ?_
              refine am_aload_n dX12_winters_113 rfl ?_
              refine am_getR 12 30 73 dX12_winters_114 fg_X12_70 (sh_54 g) (by decide) rfl (rf_54_30 g) ?_
              refine am_bipush 16 (v := 16) dX12_winters_117 (by decide) ?_
              obtain ⟨v23, hk23, hyp⟩ := bd_some hyp
              try dsimp only at hyp
              refine am_callV [_, _] dX12_winters_119 ml_X12_321 vm_X12_sumOf (sh_54 g) rfl (fun _ => Nat.le_of_ble_eq_true rfl) (by omega) rfl (ef_X12_sumOf_73 (d := d + 8) (h := h) g hk23) rfl ?_
              change am_At _ _ _ 122 [_, _, _, _, _] [_] _ _
              refine am_aload_n dX12_winters_122 rfl ?_
              refine am_aload_n dX12_winters_123 rfl ?_
              refine am_getR 12 29 72 dX12_winters_124 fg_X12_67 (sh_54 g) (by decide) rfl (rf_54_29 g) ?_
              refine am_bipush 16 (v := 16) dX12_winters_127 (by decide) ?_
              obtain ⟨v24, hk24, hyp⟩ := bd_some hyp
              try dsimp only at hyp
              refine am_callV [_, _] dX12_winters_129 ml_X12_321 vm_X12_sumOf (sh_54 g) rfl (fun _ => Nat.le_of_ble_eq_true rfl) (by omega) rfl (ef_X12_sumOf_72 (d := d + 8) (h := h) g hk24) rfl ?_
              change am_At _ _ _ 132 [_, _, _, _, _] [_, _] _ _
              refine am_isub dX12_winters_132 ?_
              cases hyp
              exact am_iret dX12_winters_133 rfl
      · intro hc15n
        have hc15n : ¬ (v14 = 0) := hc15n
        replace hyp := it_neg hc15n hyp
        refine am_iconst 0 (v := 0) dX12_winters_37 (by decide) ?_
        cases hyp
        exact am_iret dX12_winters_38 rfl
    · intro hc13
      have hc13 : (f_X12_in x4 (0 : Int32) (3 : Int32)) = 0 := hc13
      replace hyp := it_pos hc13 hyp
      refine am_iconst 1 (v := 1) dX12_winters_24 (by decide) ?_
      refine am_goto (4) 29 dX12_winters_25 rfl ?_
      refine am_iconst 1 (v := 1) dX12_winters_29 (by decide) ?_
      refine am_iconst 1 (v := 1) dX12_winters_30 (by decide) ?_
      obtain ⟨⟨v25, M25⟩, hk25, hyp⟩ := bd_some hyp
      try dsimp only at hyp
      refine am_callV [_, _, _] dX12_winters_31 ml_X12_179 vm_X12_bad (sh_54 g) rfl (fun _ => Nat.le_of_ble_eq_true rfl) (by omega) rfl (ef_X12_bad (d := d + 8) (h := h) g hk25) rfl ?_
      change am_At _ _ _ 34 [_, _, _, _, _] [_] _ _
      refine am_if_eq (5) 39 dX12_winters_34 rfl ?_ ?_
      · intro hc26
        have hc26 : v25 = 0 := hc26
        replace hyp := it_pos hc26 hyp
        refine am_aload_n dX12_winters_39 rfl ?_
        refine am_iload_n dX12_winters_40 rfl ?_
        refine am_iload_n dX12_winters_41 rfl ?_
        refine am_iload_n dX12_winters_42 rfl ?_
        obtain ⟨M27, hk27, hyp⟩ := bd_some hyp
        try dsimp only at hyp
        refine am_callV [_, _, _] dX12_winters_43 ml_X12_379 vm_X12_wintersBy (sh_54 g) rfl (fun _ => Nat.le_of_ble_eq_true rfl) (by omega) rfl (ef_X12_wintersBy (d := d + 0) (h := h) g hk27) rfl ?_
        change am_At _ _ _ 46 [_, _, _, _, _] [] _ _
        refine am_iload dX12_winters_46 rfl ?_
        by_cases hc28 : x4 = (0 : Int32)
        · refine am_tabIn (28) 76 dX12_winters_48 (by rw [hc28]; decide) (by rw [hc28]; decide) (by rw [hc28]; rfl) rfl ?_
          replace hyp := it_pos hc28 hyp
          refine am_aload_n dX12_winters_76 rfl ?_
          refine am_aload_n dX12_winters_77 rfl ?_
          refine am_getR 12 30 73 dX12_winters_78 fg_X12_70 (sh_54 g) (by decide) rfl (rf_54_30 g) ?_
          obtain ⟨v29, hk29, hyp⟩ := bd_some hyp
          try dsimp only at hyp
          refine am_callV [_] dX12_winters_81 ml_X12_324 vm_X12_throughIn (sh_54 g) rfl (fun _ => Nat.le_of_ble_eq_true rfl) (by omega) rfl (ef_X12_throughIn_73 (d := d + 8) (h := h) g hk29) rfl ?_
          change am_At _ _ _ 84 [_, _, _, _, _] [_] _ _
          cases hyp
          exact am_iret dX12_winters_84 rfl
        · have hc28n := hc28
          replace hyp := it_neg hc28n hyp
          by_cases hc30 : x4 = (1 : Int32)
          · refine am_tabIn (37) 85 dX12_winters_48 (by rw [hc30]; decide) (by rw [hc30]; decide) (by rw [hc30]; rfl) rfl ?_
            replace hyp := it_pos hc30 hyp
            refine am_aload_n dX12_winters_85 rfl ?_
            refine am_aload_n dX12_winters_86 rfl ?_
            refine am_getR 12 30 73 dX12_winters_87 fg_X12_70 (sh_54 g) (by decide) rfl (rf_54_30 g) ?_
            refine am_bipush 32 (v := 32) dX12_winters_90 (by decide) ?_
            obtain ⟨v31, hk31, hyp⟩ := bd_some hyp
            try dsimp only at hyp
            refine am_callV [_, _] dX12_winters_92 ml_X12_321 vm_X12_sumOf (sh_54 g) rfl (fun _ => Nat.le_of_ble_eq_true rfl) (by omega) rfl (ef_X12_sumOf_73 (d := d + 8) (h := h) g hk31) rfl ?_
            change am_At _ _ _ 95 [_, _, _, _, _] [_] _ _
            refine am_aload_n dX12_winters_95 rfl ?_
            refine am_aload_n dX12_winters_96 rfl ?_
            refine am_getR 12 29 72 dX12_winters_97 fg_X12_67 (sh_54 g) (by decide) rfl (rf_54_29 g) ?_
            refine am_bipush 32 (v := 32) dX12_winters_100 (by decide) ?_
            obtain ⟨v32, hk32, hyp⟩ := bd_some hyp
            try dsimp only at hyp
            refine am_callV [_, _] dX12_winters_102 ml_X12_321 vm_X12_sumOf (sh_54 g) rfl (fun _ => Nat.le_of_ble_eq_true rfl) (by omega) rfl (ef_X12_sumOf_72 (d := d + 8) (h := h) g hk32) rfl ?_
            change am_At _ _ _ 105 [_, _, _, _, _] [_, _] _ _
            refine am_isub dX12_winters_105 ?_
            cases hyp
            exact am_iret dX12_winters_106 rfl
          · have hc30n := hc30
            replace hyp := it_neg hc30n hyp
            by_cases hc33 : x4 = (2 : Int32)
            · refine am_tabIn (59) 107 dX12_winters_48 (by rw [hc33]; decide) (by rw [hc33]; decide) (by rw [hc33]; rfl) rfl ?_
              replace hyp := it_pos hc33 hyp
              refine am_aload_n dX12_winters_107 rfl ?_
              refine am_getI 12 49 dX12_winters_108 fg_X12_372 (sh_54 g) (by decide) rfl ?_
              cases hyp
              exact am_iret dX12_winters_111 rfl
            · have hc33n := hc33
              replace hyp := it_neg hc33n hyp
              refine am_tabOut 112 dX12_winters_48 (by have q0 := lv_neT (a := 0) hc28n (by decide); have q1 := lv_neT (a := 1) hc30n (by decide); have q2 := lv_neT (a := 2) hc33n (by decide); omega) rfl ?_
              refine am_aload_n dX12_winters_112 rfl ?_
              refine am_aload_n dX12_winters_113 rfl ?_
              refine am_getR 12 30 73 dX12_winters_114 fg_X12_70 (sh_54 g) (by decide) rfl (rf_54_30 g) ?_
              refine am_bipush 16 (v := 16) dX12_winters_117 (by decide) ?_
              obtain ⟨v34, hk34, hyp⟩ := bd_some hyp
              try dsimp only at hyp
              refine am_callV [_, _] dX12_winters_119 ml_X12_321 vm_X12_sumOf (sh_54 g) rfl (fun _ => Nat.le_of_ble_eq_true rfl) (by omega) rfl (ef_X12_sumOf_73 (d := d + 8) (h := h) g hk34) rfl ?_
              change am_At _ _ _ 122 [_, _, _, _, _] [_] _ _
              refine am_aload_n dX12_winters_122 rfl ?_
              refine am_aload_n dX12_winters_123 rfl ?_
              refine am_getR 12 29 72 dX12_winters_124 fg_X12_67 (sh_54 g) (by decide) rfl (rf_54_29 g) ?_
              refine am_bipush 16 (v := 16) dX12_winters_127 (by decide) ?_
              obtain ⟨v35, hk35, hyp⟩ := bd_some hyp
              try dsimp only at hyp
              refine am_callV [_, _] dX12_winters_129 ml_X12_321 vm_X12_sumOf (sh_54 g) rfl (fun _ => Nat.le_of_ble_eq_true rfl) (by omega) rfl (ef_X12_sumOf_72 (d := d + 8) (h := h) g hk35) rfl ?_
              change am_At _ _ _ 132 [_, _, _, _, _] [_, _] _ _
              refine am_isub dX12_winters_132 ?_
              cases hyp
              exact am_iret dX12_winters_133 rfl
      · intro hc26n
        have hc26n : ¬ (v25 = 0) := hc26n
        replace hyp := it_neg hc26n hyp
        refine am_iconst 0 (v := 0) dX12_winters_37 (by decide) ?_
        cases hyp
        exact am_iret dX12_winters_38 rfl
