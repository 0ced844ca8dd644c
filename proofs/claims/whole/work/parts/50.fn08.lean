theorem eL_X12_number_44 {d : Nat} {h : am_H} (g : lay h) {x1 x2 x3 : Int32} {r : am_R} (n : Nat) : ∀ (s : Int32 × Mem) (e : Int32 × Mem), wh (L_X12_number_44) n s = some e → (match e with | (x4, M) => am_At am_X0 (d + 2) mX12_number 106 [some (.inr (54, 0)), some (am_I (x1)), some (am_I (x2)), some (am_I (x3)), some (am_I (x4))] [] (am_hM h M) r) → (match s with | (x4, M) => am_At am_X0 (d + 2) mX12_number 44 [some (.inr (54, 0)), some (am_I (x1)), some (am_I (x2)), some (am_I (x3)), some (am_I (x4))] [] (am_hM h M) r) := by
  refine am_wh (At := fun (s : Int32 × Mem) => match s with | (x4, M) => am_At am_X0 (d + 2) mX12_number 44 [some (.inr (54, 0)), some (am_I (x1)), some (am_I (x2)), some (am_I (x3)), some (am_I (x4))] [] (am_hM h M) r) (Ex := fun (e : Int32 × Mem) => match e with | (x4, M) => am_At am_X0 (d + 2) mX12_number 106 [some (.inr (54, 0)), some (am_I (x1)), some (am_I (x2)), some (am_I (x3)), some (am_I (x4))] [] (am_hM h M) r) ?_ n
  rintro ⟨x4, M⟩ y hyp hx
  unfold L_X12_number_44 at hyp
  try dsimp only at hyp
  change am_At _ _ _ 44 [_, _, _, _, _] [] _ _
  refine am_aload_n dX12_number_44 rfl ?_
  refine am_aload_n dX12_number_45 rfl ?_
  refine am_getI 12 4 dX12_number_46 fg_X12_112 (sh_54 g) (by decide) rfl ?_
  obtain ⟨v5, hk5, hyp⟩ := bd_some hyp
  try dsimp only at hyp
  refine am_callV [_] dX12_number_49 ml_X12_115 vm_X12_byteAt (sh_54 g) rfl (fun _ => Nat.le_of_ble_eq_true rfl) (by omega) rfl (ef_X12_byteAt (d := d + 1) (h := h) g hk5) rfl ?_
  change am_At _ _ _ 52 [_, _, _, _, _] [_] _ _
  refine am_callS (c := 0) (k := 0) (n := 0) (w := 0) [_] dX12_number_52 ml_X12_128 sm_X12_isDigit rfl (fun _ => Nat.le_of_ble_eq_true rfl) (by omega) rfl (ef_X12_isDigit (d := d + 1) (h := am_hM h M) (x0 := v5)  rfl) rfl ?_
  change am_At _ _ _ 55 [_, _, _, _, _] [_] _ _
  refine am_if_eq (51) 106 dX12_number_55 rfl ?_ ?_
  · intro hc6
    have hc6 : (f_X12_isDigit v5) = 0 := hc6
    replace hyp := it_pos hc6 hyp
    cases hyp
    exact hx
  · intro hc6n
    have hc6n : ¬ ((f_X12_isDigit v5) = 0) := hc6n
    replace hyp := it_neg hc6n hyp
    refine am_bipush 10 (v := 10) dX12_number_58 (by decide) ?_
    refine am_iload dX12_number_60 rfl ?_
    refine am_imul dX12_number_62 ?_
    refine am_aload_n dX12_number_63 rfl ?_
    refine am_aload_n dX12_number_64 rfl ?_
    refine am_getI 12 4 dX12_number_65 fg_X12_112 (sh_54 g) (by decide) rfl ?_
    obtain ⟨v7, hk7, hyp⟩ := bd_some hyp
    try dsimp only at hyp
    refine am_callV [_] dX12_number_68 ml_X12_115 vm_X12_byteAt (sh_54 g) rfl (fun _ => Nat.le_of_ble_eq_true rfl) (by omega) rfl (ef_X12_byteAt (d := d + 1) (h := h) g hk7) rfl ?_
    change am_At _ _ _ 71 [_, _, _, _, _] [_, _] _ _
    refine am_iadd dX12_number_71 ?_
    refine am_bipush 48 (v := 48) dX12_number_72 (by decide) ?_
    refine am_isub dX12_number_74 ?_
    refine am_istore dX12_number_75 (am_lb rfl) ?_
    change am_At _ _ _ 77 [_, _, _, _, _] [] _ _
    refine am_iload dX12_number_77 rfl ?_
    refine am_ldcI dX12_number_79 kc_X12_136 ?_
    refine am_icmp_le (8) 89 dX12_number_81 rfl ?_ ?_
    · intro hc8
      have hc8 : ((((10 : Int32) * x4) + v7) - (48 : Int32)) ≤ (100000 : Int32) := hc8
      replace hyp := it_pos hc8 hyp
      refine am_iload dX12_number_89 rfl ?_
      refine am_istore dX12_number_91 (am_lb rfl) ?_
      change am_At _ _ _ 93 [_, _, _, _, _] [] _ _
      refine am_aload_n dX12_number_93 rfl ?_
      refine am_dup dX12_number_94 (fun _ => rfl) ?_
      refine am_getI 12 4 dX12_number_95 fg_X12_112 (sh_54 g) (by decide) rfl ?_
      refine am_iconst 1 (v := 1) dX12_number_98 (by decide) ?_
      refine am_iadd dX12_number_99 ?_
      refine am_putI 12 4 dX12_number_100 (Or.inl fp_X12_112) (sh_54 g) (by decide) rfl rfl rfl ?_
      refine am_goto (-59) 44 dX12_number_103 rfl ?_
      cases hyp
      exact hx
    · intro hc8n
      have hc8n : ¬ (((((10 : Int32) * x4) + v7) - (48 : Int32)) ≤ (100000 : Int32)) := hc8n
      replace hyp := it_neg hc8n hyp
      refine am_ldcI dX12_number_84 kc_X12_136 ?_
      refine am_goto (5) 91 dX12_number_86 rfl ?_
      refine am_istore dX12_number_91 (am_lb rfl) ?_
      change am_At _ _ _ 93 [_, _, _, _, _] [] _ _
      refine am_aload_n dX12_number_93 rfl ?_
      refine am_dup dX12_number_94 (fun _ => rfl) ?_
      refine am_getI 12 4 dX12_number_95 fg_X12_112 (sh_54 g) (by decide) rfl ?_
      refine am_iconst 1 (v := 1) dX12_number_98 (by decide) ?_
      refine am_iadd dX12_number_99 ?_
      refine am_putI 12 4 dX12_number_100 (Or.inl fp_X12_112) (sh_54 g) (by decide) rfl rfl rfl ?_
      refine am_goto (-59) 44 dX12_number_103 rfl ?_
      cases hyp
      exact hx
theorem ef_X12_number {d : Nat} {h : am_H} (g : lay h) {x1 x2 : Int32} {M : Mem} {v : Int32} {M' : Mem} (hyp : f_X12_number x1 x2 M = some (v, M')) : am_Ev (d + 2) mX12_number [.inr (54, 0), am_I x1, am_I x2] (am_hM h M) (.inl (some (am_I v), am_hM h M')) := by
  unfold f_X12_number at hyp
  refine am_Ev.mk (by decide +kernel) rfl rfl (Nat.le_refl _) (Nat.le_refl _) ?_
  change am_At _ _ _ 0 [_, _, _, _, _] [] _ _
  refine am_aload_n dX12_number_0 rfl ?_
  refine am_getI 12 5 dX12_number_1 fg_X12_119 (sh_54 g) (by decide) rfl ?_
  refine am_if_eq (5) 9 dX12_number_4 rfl ?_ ?_
  · intro hc1
    have hc1 : (M 54 0 5) = 0 := hc1
    replace hyp := it_pos hc1 hyp
    refine am_aload_n dX12_number_9 rfl ?_
    obtain ⟨M2, hk2, hyp⟩ := bd_some hyp
    try dsimp only at hyp
    refine am_callV [] dX12_number_10 ml_X12_125 vm_X12_blanks (sh_54 g) rfl (fun _ => Nat.le_of_ble_eq_true rfl) (by omega) rfl (ef_X12_blanks (d := d + 0) (h := h) g hk2) rfl ?_
    change am_At _ _ _ 13 [_, _, _, _, _] [] _ _
    refine am_aload_n dX12_number_13 rfl ?_
    refine am_getI 12 4 dX12_number_14 fg_X12_112 (sh_54 g) (by decide) rfl ?_
    refine am_istore_n dX12_number_17 (am_lb rfl) ?_
    change am_At _ _ _ 18 [_, _, _, _, _] [] _ _
    refine am_iconst 0 (v := 0) dX12_number_18 (by decide) ?_
    refine am_istore dX12_number_19 (am_lb rfl) ?_
    change am_At _ _ _ 21 [_, _, _, _, _] [] _ _
    refine am_aload_n dX12_number_21 rfl ?_
    refine am_aload_n dX12_number_22 rfl ?_
    refine am_getI 12 4 dX12_number_23 fg_X12_112 (sh_54 g) (by decide) rfl ?_
    obtain ⟨v3, hk3, hyp⟩ := bd_some hyp
    try dsimp only at hyp
    refine am_callV [_] dX12_number_26 ml_X12_115 vm_X12_byteAt (sh_54 g) rfl (fun _ => Nat.le_of_ble_eq_true rfl) (by omega) rfl (ef_X12_byteAt (d := d + 1) (h := h) g hk3) rfl ?_
    change am_At _ _ _ 29 [_, _, _, _, _] [_] _ _
    refine am_callS (c := 0) (k := 0) (n := 0) (w := 0) [_] dX12_number_29 ml_X12_128 sm_X12_isDigit rfl (fun _ => Nat.le_of_ble_eq_true rfl) (by omega) rfl (ef_X12_isDigit (d := d + 1) (h := am_hM h M2) (x0 := v3)  rfl) rfl ?_
    change am_At _ _ _ 32 [_, _, _, _, _] [_] _ _
    refine am_if_ne (12) 44 dX12_number_32 rfl ?_ ?_
    · intro hc4n
      have hc4n : ¬ ((f_X12_isDigit v3) = 0) := hc4n
      replace hyp := it_neg hc4n hyp
      obtain ⟨⟨x4_9, M9⟩, hw9, hyp⟩ := bd_some hyp
      try dsimp only at hyp
      refine eL_X12_number_44 (d := d) (h := h) g  FU ((0 : Int32), M2) (x4_9, M9) hw9 ?_
      change am_At _ _ _ 106 [_, _, _, _, _] [] _ _
      refine am_iload dX12_number_106 rfl ?_
      refine am_iload_n dX12_number_108 rfl ?_
      refine am_iload_n dX12_number_109 rfl ?_
      refine am_callS (c := 0) (k := 0) (n := 0) (w := 0) [_, _, _] dX12_number_110 ml_X12_137 sm_X12_in rfl (fun _ => Nat.le_of_ble_eq_true rfl) (by omega) rfl (ef_X12_in (d := d + 1) (h := am_hM h M9) (x0 := x4_9) (x1 := x1) (x2 := x2)  rfl) rfl ?_
      change am_At _ _ _ 113 [_, _, _, _, _] [_] _ _
      refine am_if_ne (9) 122 dX12_number_113 rfl ?_ ?_
      · intro hc10n
        have hc10n : ¬ ((f_X12_in x4_9 x1 x2) = 0) := hc10n
        replace hyp := it_neg hc10n hyp
        refine am_aload_n dX12_number_122 rfl ?_
        refine am_getI 12 5 dX12_number_123 fg_X12_119 (sh_54 g) (by decide) rfl ?_
        refine am_if_ne (8) 134 dX12_number_126 rfl ?_ ?_
        · intro hc11n
          have hc11n : ¬ ((M9 54 0 5) = 0) := hc11n
          replace hyp := it_neg hc11n hyp
          refine am_iconst 0 (v := 0) dX12_number_134 (by decide) ?_
          cases hyp
          exact am_iret dX12_number_135 rfl
        · intro hc11
          have hc11 : (M9 54 0 5) = 0 := hc11
          replace hyp := it_pos hc11 hyp
          refine am_iload dX12_number_129 rfl ?_
          refine am_goto (4) 135 dX12_number_131 rfl ?_
          cases hyp
          exact am_iret dX12_number_135 rfl
      · intro hc10
        have hc10 : (f_X12_in x4_9 x1 x2) = 0 := hc10
        replace hyp := it_pos hc10 hyp
        refine am_aload_n dX12_number_116 rfl ?_
        refine am_iconst 2 (v := 2) dX12_number_117 (by decide) ?_
        refine am_iload_n dX12_number_118 rfl ?_
        refine am_callV [_, _] dX12_number_119 ml_X12_132 vm_X12_wrong (sh_54 g) rfl (fun _ => Nat.le_of_ble_eq_true rfl) (by omega) rfl (ef_X12_wrong (d := d + 1) (h := h) g (x1 := (2 : Int32)) (x2 := (M2 54 0 4)) (M := M9) rfl) rfl ?_
        change am_At _ _ _ 122 [_, _, _, _, _] [] _ _
        refine am_aload_n dX12_number_122 rfl ?_
        refine am_getI 12 5 dX12_number_123 fg_X12_119 (sh_54 g) (by decide) rfl ?_
        refine am_if_ne (8) 134 dX12_number_126 rfl ?_ ?_
        · intro hc12n
          have hc12n : ¬ (((f_X12_wrong (2 : Int32) (M2 54 0 4) M9) 54 0 5) = 0) := hc12n
          replace hyp := it_neg hc12n hyp
          refine am_iconst 0 (v := 0) dX12_number_134 (by decide) ?_
          cases hyp
          exact am_iret dX12_number_135 rfl
        · intro hc12
          have hc12 : ((f_X12_wrong (2 : Int32) (M2 54 0 4) M9) 54 0 5) = 0 := hc12
          replace hyp := it_pos hc12 hyp
          refine am_iload dX12_number_129 rfl ?_
          refine am_goto (4) 135 dX12_number_131 rfl ?_
          cases hyp
          exact am_iret dX12_number_135 rfl
    · intro hc4
      have hc4 : (f_X12_isDigit v3) = 0 := hc4
      replace hyp := it_pos hc4 hyp
      refine am_aload_n dX12_number_35 rfl ?_
      refine am_iconst 1 (v := 1) dX12_number_36 (by decide) ?_
      refine am_aload_n dX12_number_37 rfl ?_
      refine am_getI 12 4 dX12_number_38 fg_X12_112 (sh_54 g) (by decide) rfl ?_
      refine am_callV [_, _] dX12_number_41 ml_X12_132 vm_X12_wrong (sh_54 g) rfl (fun _ => Nat.le_of_ble_eq_true rfl) (by omega) rfl (ef_X12_wrong (d := d + 1) (h := h) g (x1 := (1 : Int32)) (x2 := (M2 54 0 4)) (M := M2) rfl) rfl ?_
      change am_At _ _ _ 44 [_, _, _, _, _] [] _ _
      obtain ⟨⟨x4_13, M13⟩, hw13, hyp⟩ := bd_some hyp
      try dsimp only at hyp
      refine eL_X12_number_44 (d := d) (h := h) g  FU ((0 : Int32), (f_X12_wrong (1 : Int32) (M2 54 0 4) M2)) (x4_13, M13) hw13 ?_
      change am_At _ _ _ 106 [_, _, _, _, _] [] _ _
      refine am_iload dX12_number_106 rfl ?_
      refine am_iload_n dX12_number_108 rfl ?_
      refine am_iload_n dX12_number_109 rfl ?_
      refine am_callS (c := 0) (k := 0) (n := 0) (w := 0) [_, _, _] dX12_number_110 ml_X12_137 sm_X12_in rfl (fun _ => Nat.le_of_ble_eq_true rfl) (by omega) rfl (ef_X12_in (d := d + 1) (h := am_hM h M13) (x0 := x4_13) (x1 := x1) (x2 := x2)  rfl) rfl ?_
      change am_At _ _ _ 113 [_, _, _, _, _] [_] _ _
      refine am_if_ne (9) 122 dX12_number_113 rfl ?_ ?_
      · intro hc14n
        have hc14n : ¬ ((f_X12_in x4_13 x1 x2) = 0) := hc14n
        replace hyp := it_neg hc14n hyp
        refine am_aload_n dX12_number_122 rfl ?_
        refine am_getI 12 5 dX12_number_123 fg_X12_119 (sh_54 g) (by decide) rfl ?_
        refine am_if_ne (8) 134 dX12_number_126 rfl ?_ ?_
        · intro hc15n
          have hc15n : ¬ ((M13 54 0 5) = 0) := hc15n
          replace hyp := it_neg hc15n hyp
          refine am_iconst 0 (v := 0) dX12_number_134 (by decide) ?_
          cases hyp
          exact am_iret dX12_number_135 rfl
        · intro hc15
          have hc15 : (M13 54 0 5) = 0 := hc15
          replace hyp := it_pos hc15 hyp
          refine am_iload dX12_number_129 rfl ?_
          refine am_goto (4) 135 dX12_number_131 rfl ?_
          cases hyp
          exact am_iret dX12_number_135 rfl
      · intro hc14
        have hc14 : (f_X12_in x4_13 x1 x2) = 0 := hc14
        replace hyp := it_pos hc14 hyp
        refine am_aload_n dX12_number_116 rfl ?_
        refine am_iconst 2 (v := 2) dX12_number_117 (by decide) ?_
        refine am_iload_n dX12_number_118 rfl ?_
        refine am_callV [_, _] dX12_number_119 ml_X12_132 vm_X12_wrong (sh_54 g) rfl (fun _ => Nat.le_of_ble_eq_true rfl) (by omega) rfl (ef_X12_wrong (d := d + 1) (h := h) g (x1 := (2 : Int32)) (x2 := (M2 54 0 4)) (M := M13) rfl) rfl ?_
        change am_At _ _ _ 122 [_, _, _, _, _] [] _ _
        refine am_aload_n dX12_number_122 rfl ?_
        refine am_getI 12 5 dX12_number_123 fg_X12_119 (sh_54 g) (by decide) rfl ?_
        refine am_if_ne (8) 134 dX12_number_126 rfl ?_ ?_
        · intro hc16n
          have hc16n : ¬ (((f_X12_wrong (2 : Int32) (M2 54 0 4) M13) 54 0 5) = 0) := hc16n
          replace hyp := it_neg hc16n hyp
          refine am_iconst 0 (v := 0) dX12_number_134 (by decide) ?_
          cases hyp
          exact am_iret dX12_number_135 rfl
        · intro hc16
          have hc16 : ((f_X12_wrong (2 : Int32) (M2 54 0 4) M13) 54 0 5) = 0 := hc16
          replace hyp := it_pos hc16 hyp
          refine am_iload dX12_number_129 rfl ?_
          refine am_goto (4) 135 dX12_number_131 rfl ?_
          cases hyp
          exact am_iret dX12_number_135 rfl
  · intro hc1n
    have hc1n : ¬ ((M 54 0 5) = 0) := hc1n
    replace hyp := it_neg hc1n hyp
    refine am_iconst 0 (v := 0) dX12_number_7 (by decide) ?_
    cases hyp
    exact am_iret dX12_number_8 rfl
theorem eL_X12_openers_55 {d : Nat} {h : am_H} (g : lay h) {x1 x2 : Int32} {M : Mem} {r : am_R} (n : Nat) : ∀ (s : Int32 × Int32 × Int32 × Int32 × Int32) (e : Int32 × Int32 × Int32 × Int32), wh (L_X12_openers_55 x2 M) n s = some e → (match e with | (x3, x4, x5, x6) => am_At am_X0 (d + 3) mX12_openers 111 [some (.inr (54, 0)), some (am_I (x1)), some (am_I (x2)), some (am_I (x3)), some (am_I (x4)), some (am_I (x5)), some (am_I (x6)), none] [] (am_hM h M) r) → (match s with | (x3, x4, x5, x6, x7) => am_At am_X0 (d + 3) mX12_openers 55 [some (.inr (54, 0)), some (am_I (x1)), some (am_I (x2)), some (am_I (x3)), some (am_I (x4)), some (am_I (x5)), some (am_I (x6)), some (am_I (x7))] [] (am_hM h M) r) := by
  refine am_wh (At := fun (s : Int32 × Int32 × Int32 × Int32 × Int32) => match s with | (x3, x4, x5, x6, x7) => am_At am_X0 (d + 3) mX12_openers 55 [some (.inr (54, 0)), some (am_I (x1)), some (am_I (x2)), some (am_I (x3)), some (am_I (x4)), some (am_I (x5)), some (am_I (x6)), some (am_I (x7))] [] (am_hM h M) r) (Ex := fun (e : Int32 × Int32 × Int32 × Int32) => match e with | (x3, x4, x5, x6) => am_At am_X0 (d + 3) mX12_openers 111 [some (.inr (54, 0)), some (am_I (x1)), some (am_I (x2)), some (am_I (x3)), some (am_I (x4)), some (am_I (x5)), some (am_I (x6)), none] [] (am_hM h M) r) ?_ n
  rintro ⟨x3, x4, x5, x6, x7⟩ y hyp hx
  unfold L_X12_openers_55 at hyp
  try dsimp only at hyp
  change am_At _ _ _ 55 [_, _, _, _, _, _, _, _] [] _ _
  refine am_iload dX12_openers_55 rfl ?_
  refine am_iload_n dX12_openers_57 rfl ?_
  refine am_icmp_gt (53) 111 dX12_openers_58 rfl ?_ ?_
  · intro hc4
    have hc4 : x2 < x7 := hc4
    replace hyp := it_pos hc4 hyp
    cases hyp
    refine am_At.drop 7 ?_
    exact hx
  · intro hc4n
    have hc4n : ¬ (x2 < x7) := hc4n
    replace hyp := it_neg hc4n hyp
    refine am_aload_n dX12_openers_61 rfl ?_
    refine am_iload dX12_openers_62 rfl ?_
    obtain ⟨v5, hk5, hyp⟩ := bd_some hyp
    try dsimp only at hyp
    refine am_callV [_] dX12_openers_64 ml_X12_348 vm_X12_isOpener (sh_54 g) rfl (fun _ => Nat.le_of_ble_eq_true rfl) (by omega) rfl (ef_X12_isOpener (d := d + 0) (h := h) g hk5) rfl ?_
    change am_At _ _ _ 67 [_, _, _, _, _, _, _, _] [_] _ _
    refine am_if_ne (6) 73 dX12_openers_67 rfl ?_ ?_
    · intro hc6n
      have hc6n : ¬ (v5 = 0) := hc6n
      replace hyp := it_neg hc6n hyp
      refine am_iload_n dX12_openers_73 rfl ?_
      refine am_if_ne (8) 82 dX12_openers_74 rfl ?_ ?_
      · intro hc7n
        have hc7n : ¬ (x3 = 0) := hc7n
        replace hyp := it_neg hc7n hyp
        refine am_iload dX12_openers_82 rfl ?_
        refine am_istore dX12_openers_84 (am_lb rfl) ?_
        change am_At _ _ _ 86 [_, _, _, _, _, _, _, _] [] _ _
        refine am_iinc dX12_openers_86 rfl (am_ix _) ?_
        change am_At _ _ _ 89 [_, _, _, _, _, _, _, _] [] _ _
        refine am_iload dX12_openers_89 rfl ?_
        refine am_iload dX12_openers_91 rfl ?_
        refine am_iand dX12_openers_93 ?_
        refine am_istore dX12_openers_94 (am_lb rfl) ?_
        change am_At _ _ _ 96 [_, _, _, _, _, _, _, _] [] _ _
        refine am_iload dX12_openers_96 rfl ?_
        refine am_iload dX12_openers_98 rfl ?_
        refine am_iconst (-1) (v := (-1)) dX12_openers_100 (by decide) ?_
        refine am_ixor dX12_openers_101 ?_
        refine am_iand dX12_openers_102 ?_
        refine am_istore dX12_openers_103 (am_lb rfl) ?_
        change am_At _ _ _ 105 [_, _, _, _, _, _, _, _] [] _ _
        refine am_iinc dX12_openers_105 rfl (am_ix _) ?_
        change am_At _ _ _ 108 [_, _, _, _, _, _, _, _] [] _ _
        refine am_goto (-53) 55 dX12_openers_108 rfl ?_
        cases hyp
        exact hx
      · intro hc7
        have hc7 : x3 = 0 := hc7
        replace hyp := it_pos hc7 hyp
        refine am_iload dX12_openers_77 rfl ?_
        refine am_goto (5) 84 dX12_openers_79 rfl ?_
        refine am_istore dX12_openers_84 (am_lb rfl) ?_
        change am_At _ _ _ 86 [_, _, _, _, _, _, _, _] [] _ _
        refine am_iinc dX12_openers_86 rfl (am_ix _) ?_
        change am_At _ _ _ 89 [_, _, _, _, _, _, _, _] [] _ _
        refine am_iload dX12_openers_89 rfl ?_
        refine am_iload dX12_openers_91 rfl ?_
        refine am_iand dX12_openers_93 ?_
        refine am_istore dX12_openers_94 (am_lb rfl) ?_
        change am_At _ _ _ 96 [_, _, _, _, _, _, _, _] [] _ _
        refine am_iload dX12_openers_96 rfl ?_
        refine am_iload dX12_openers_98 rfl ?_
        refine am_iconst (-1) (v := (-1)) dX12_openers_100 (by decide) ?_
        refine am_ixor dX12_openers_101 ?_
        refine am_iand dX12_openers_102 ?_
        refine am_istore dX12_openers_103 (am_lb rfl) ?_
        change am_At _ _ _ 105 [_, _, _, _, _, _, _, _] [] _ _
        refine am_iinc dX12_openers_105 rfl (am_ix _) ?_
        change am_At _ _ _ 108 [_, _, _, _, _, _, _, _] [] _ _
        refine am_goto (-53) 55 dX12_openers_108 rfl ?_
        cases hyp
        exact hx
    · intro hc6
      have hc6 : v5 = 0 := hc6
      replace hyp := it_pos hc6 hyp
      refine am_goto (35) 105 dX12_openers_70 rfl ?_
      refine am_iinc dX12_openers_105 rfl (am_ix _) ?_
      change am_At _ _ _ 108 [_, _, _, _, _, _, _, _] [] _ _
      refine am_goto (-53) 55 dX12_openers_108 rfl ?_
      cases hyp
      exact hx
theorem ef_X12_openers {d : Nat} {h : am_H} (g : lay h) {x1 : Int32} {M : Mem} {v : Int32} {M' : Mem} (hyp : f_X12_openers x1 M = some (v, M')) : am_Ev (d + 3) mX12_openers [.inr (54, 0), am_I x1] (am_hM h M) (.inl (some (am_I v), am_hM h M')) := by
  unfold f_X12_openers at hyp
  refine am_Ev.mk (by decide +kernel) rfl rfl (Nat.le_refl _) (Nat.le_refl _) ?_
  change am_At _ _ _ 0 [_, _, _, _, _, _, _, _] [] _ _
  refine am_aload_n dX12_openers_0 rfl ?_
  refine am_iconst 0 (v := 0) dX12_openers_1 (by decide) ?_
  refine am_putI 12 0 dX12_openers_2 (Or.inl fp_X12_103) (sh_54 g) (by decide) rfl rfl rfl ?_
  refine am_aload_n dX12_openers_5 rfl ?_
  refine am_iload_n dX12_openers_6 rfl ?_
  refine am_iconst 0 (v := 0) dX12_openers_7 (by decide) ?_
  refine am_iconst 3 (v := 3) dX12_openers_8 (by decide) ?_
  refine am_callS (c := 0) (k := 0) (n := 0) (w := 0) [_, _, _] dX12_openers_9 ml_X12_137 sm_X12_in rfl (fun _ => Nat.le_of_ble_eq_true rfl) (by omega) rfl (ef_X12_in (d := d + 2) (h := am_hM h (am_u3 M 54 0 0 (0 : Int32))) (x0 := x1) (x1 := (0 : Int32)) (x2 := (3 : Int32))  rfl) rfl ?_
  change am_At _ _ _ 12 [_, _, _, _, _, _, _, _] [_, _] _ _
  refine am_if_ne (7) 19 dX12_openers_12 rfl ?_ ?_
  · intro hc1n
    have hc1n : ¬ ((f_X12_in x1 (0 : Int32) (3 : Int32)) = 0) := hc1n
    replace hyp := it_neg hc1n hyp
    refine am_iconst 0 (v := 0) dX12_openers_19 (by decide) ?_
    refine am_iconst 1 (v := 1) dX12_openers_20 (by decide) ?_
    refine am_iconst 1 (v := 1) dX12_openers_21 (by decide) ?_
    obtain ⟨⟨v2, M2⟩, hk2, hyp⟩ := bd_some hyp
    try dsimp only at hyp
    refine am_callV [_, _, _] dX12_openers_22 ml_X12_179 vm_X12_bad (sh_54 g) rfl (fun _ => Nat.le_of_ble_eq_true rfl) (by omega) rfl (ef_X12_bad (d := d + 2) (h := h) g hk2) rfl ?_
    change am_At _ _ _ 25 [_, _, _, _, _, _, _, _] [_] _ _
    refine am_if_eq (5) 30 dX12_openers_25 rfl ?_ ?_
    · intro hc3
      have hc3 : v2 = 0 := hc3
      replace hyp := it_pos hc3 hyp
      refine am_iconst 1 (v := 1) dX12_openers_30 (by decide) ?_
      refine am_aload_n dX12_openers_31 rfl ?_
      refine am_getR 12 12 58 dX12_openers_32 fg_X12_23 (sh_54 g) (by decide) rfl (rf_54_12 g) ?_
      refine am_iconst 0 (v := 0) dX12_openers_35 (by decide) ?_
      refine am_iald dX12_openers_36 (am_ia.one (sh_58 g)) (am_lit rfl) ?_
      refine am_ishl dX12_openers_37 ?_
      refine am_iconst 1 (v := 1) dX12_openers_38 (by decide) ?_
      refine am_isub dX12_openers_39 ?_
      refine am_istore_n dX12_openers_40 (am_lb rfl) ?_
      change am_At _ _ _ 41 [_, _, _, _, _, _, _, _] [] _ _
      refine am_iconst 0 (v := 0) dX12_openers_41 (by decide) ?_
      refine am_istore_n dX12_openers_42 (am_lb rfl) ?_
      change am_At _ _ _ 43 [_, _, _, _, _, _, _, _] [] _ _
      refine am_iconst (-1) (v := (-1)) dX12_openers_43 (by decide) ?_
      refine am_istore dX12_openers_44 (am_lb rfl) ?_
      change am_At _ _ _ 46 [_, _, _, _, _, _, _, _] [] _ _
      refine am_iload_n dX12_openers_46 rfl ?_
      refine am_istore dX12_openers_47 (am_lb rfl) ?_
      change am_At _ _ _ 49 [_, _, _, _, _, _, _, _] [] _ _
      refine am_iload_n dX12_openers_49 rfl ?_
      refine am_istore dX12_openers_50 (am_lb rfl) ?_
      change am_At _ _ _ 52 [_, _, _, _, _, _, _, _] [] _ _
      refine am_iconst 0 (v := 0) dX12_openers_52 (by decide) ?_
      refine am_istore dX12_openers_53 (am_lb rfl) ?_
      change am_At _ _ _ 55 [_, _, _, _, _, _, _, _] [] _ _
      obtain ⟨⟨x3_8, x4_8, x5_8, x6_8⟩, hw8, hyp⟩ := bd_some hyp
      try dsimp only at hyp
      refine eL_X12_openers_55 (d := d) (h := h) g (M := M2) FU ((0 : Int32), (-1 : Int32), ((1 : Int32) <<< ((M2 58 0 0) &&& 31)) - (1 : Int32), ((1 : Int32) <<< ((M2 58 0 0) &&& 31)) - (1 : Int32), (0 : Int32)) (x3_8, x4_8, x5_8, x6_8) hw8 ?_
      change am_At _ _ _ 111 [_, _, _, _, _, _, _, _] [] _ _
      refine am_iload_n dX12_openers_111 rfl ?_
      refine am_if_ne (7) 119 dX12_openers_112 rfl ?_ ?_
      · intro hc9n
        have hc9n : ¬ (x1 = 0) := hc9n
        replace hyp := it_neg hc9n hyp
        refine am_iload_n dX12_openers_119 rfl ?_
        refine am_iconst 1 (v := 1) dX12_openers_120 (by decide) ?_
        refine am_icmp_ne (8) 129 dX12_openers_121 rfl ?_ ?_
        · intro hc10n
          have hc10n : ¬ (x1 = (1 : Int32)) := hc10n
          replace hyp := it_neg hc10n hyp
          refine am_iload_n dX12_openers_129 rfl ?_
          refine am_if_ne (7) 137 dX12_openers_130 rfl ?_ ?_
          · intro hc11n
            have hc11n : ¬ (x3_8 = 0) := hc11n
            replace hyp := it_neg hc11n hyp
            refine am_iload_n dX12_openers_137 rfl ?_
            refine am_iconst 2 (v := 2) dX12_openers_138 (by decide) ?_
            refine am_icmp_ne (8) 147 dX12_openers_139 rfl ?_ ?_
            · intro hc12n
              have hc12n : ¬ (x1 = (2 : Int32)) := hc12n
              replace hyp := it_neg hc12n hyp
              refine am_iload dX12_openers_147 rfl ?_
              cases hyp
              exact am_iret dX12_openers_149 rfl
            · intro hc12
              have hc12 : x1 = (2 : Int32) := hc12
              replace hyp := it_pos hc12 hyp
              refine am_iload dX12_openers_142 rfl ?_
              refine am_goto (5) 149 dX12_openers_144 rfl ?_
              cases hyp
              exact am_iret dX12_openers_149 rfl
          · intro hc11
            have hc11 : x3_8 = 0 := hc11
            replace hyp := it_pos hc11 hyp
            refine am_iconst 0 (v := 0) dX12_openers_133 (by decide) ?_
            refine am_goto (15) 149 dX12_openers_134 rfl ?_
            cases hyp
            exact am_iret dX12_openers_149 rfl
        · intro hc10
          have hc10 : x1 = (1 : Int32) := hc10
          replace hyp := it_pos hc10 hyp
          refine am_iload dX12_openers_124 rfl ?_
          refine am_goto (23) 149 dX12_openers_126 rfl ?_
          cases hyp
          exact am_iret dX12_openers_149 rfl
      · intro hc9
        have hc9 : x1 = 0 := hc9
        replace hyp := it_pos hc9 hyp
        refine am_iload_n dX12_openers_115 rfl ?_
        refine am_goto (33) 149 dX12_openers_116 rfl ?_
        cases hyp
        exact am_iret dX12_openers_149 rfl
    · intro hc3n
      have hc3n : ¬ (v2 = 0) := hc3n
      replace hyp := it_neg hc3n hyp
      refine am_iconst 0 (v := 0) dX12_openers_28 (by decide) ?_
      cases hyp
      exact am_iret dX12_openers_29 rfl
  · intro hc1
    have hc1 : (f_X12_in x1 (0 : Int32) (3 : Int32)) = 0 := hc1
    replace hyp := it_pos hc1 hyp
    refine am_iconst 1 (v := 1) dX12_openers_15 (by decide) ?_
    refine am_goto (4) 20 dX12_openers_16 rfl ?_
    refine am_iconst 1 (v := 1) dX12_openers_20 (by decide) ?_
    refine am_iconst 1 (v := 1) dX12_openers_21 (by decide) ?_
    obtain ⟨⟨v13, M13⟩, hk13, hyp⟩ := bd_some hyp
    try dsimp only at hyp
    refine am_callV [_, _, _] dX12_openers_22 ml_X12_179 vm_X12_bad (sh_54 g) rfl (fun _ => Nat.le_of_ble_eq_true rfl) (by omega) rfl (ef_X12_bad (d := d + 2) (h := h) g hk13) rfl ?_
    change am_At _ _ _ 25 [_, _, _, _, _, _, _, _] [_] _ _
    refine am_if_eq (5) 30 dX12_openers_25 rfl ?_ ?_
    · intro hc14
      have hc14 : v13 = 0 := hc14
      replace hyp := it_pos hc14 hyp
      refine am_iconst 1 (v := 1) dX12_openers_30 (by decide) ?_
      refine am_aload_n dX12_openers_31 rfl ?_
      refine am_getR 12 12 58 dX12_openers_32 fg_X12_23 (sh_54 g) (by decide) rfl (rf_54_12 g) ?_
      refine am_iconst 0 (v := 0) dX12_openers_35 (by decide) ?_
      refine am_iald dX12_openers_36 (am_ia.one (sh_58 g)) (am_lit rfl) ?_
      refine am_ishl dX12_openers_37 ?_
      refine am_iconst 1 (v := 1) dX12_openers_38 (by decide) ?_
      refine am_isub dX12_openers_39 ?_
      refine am_istore_n dX12_openers_40 (am_lb rfl) ?_
      change am_At _ _ _ 41 [_, _, _, _, _, _, _, _] [] _ _
      refine am_iconst 0 (v := 0) dX12_openers_41 (by decide) ?_
      refine am_istore_n dX12_openers_42 (am_lb rfl) ?_
      change am_At _ _ _ 43 [_, _, _, _, _, _, _, _] [] _ _
      refine am_iconst (-1) (v := (-1)) dX12_openers_43 (by decide) ?_
      refine am_istore dX12_openers_44 (am_lb rfl) ?_
      change am_At _ _ _ 46 [_, _, _, _, _, _, _, _] [] _ _
      refine am_iload_n dX12_openers_46 rfl ?_
      refine am_istore dX12_openers_47 (am_lb rfl) ?_
      change am_At _ _ _ 49 [_, _, _, _, _, _, _, _] [] _ _
      refine am_iload_n dX12_openers_49 rfl ?_
      refine am_istore dX12_openers_50 (am_lb rfl) ?_
      change am_At _ _ _ 52 [_, _, _, _, _, _, _, _] [] _ _
      refine am_iconst 0 (v := 0) dX12_openers_52 (by decide) ?_
      refine am_istore dX12_openers_53 (am_lb rfl) ?_
      change am_At _ _ _ 55 [_, _, _, _, _, _, _, _] [] _ _
      obtain ⟨⟨x3_15, x4_15, x5_15, x6_15⟩, hw15, hyp⟩ := bd_some hyp
      try dsimp only at hyp
      refine eL_X12_openers_55 (d := d) (h := h) g (M := M13) FU ((0 : Int32), (-1 : Int32), ((1 : Int32) <<< ((M13 58 0 0) &&& 31)) - (1 : Int32), ((1 : Int32) <<< ((M13 58 0 0) &&& 31)) - (1 : Int32), (0 : Int32)) (x3_15, x4_15, x5_15, x6_15) hw15 ?_
      change am_At _ _ _ 111 [_, _, _, _, _, _, _, _] [] _ _
      refine am_iload_n dX12_openers_111 rfl ?_
      refine am_if_ne (7) 119 dX12_openers_112 rfl ?_ ?_
      · intro hc16n
        have hc16n : ¬ (x1 = 0) := hc16n
        replace hyp := it_neg hc16n hyp
        refine am_iload_n dX12_openers_119 rfl ?_
        refine am_iconst 1 (v := 1) dX12_openers_120 (by decide) ?_
        refine am_icmp_ne (8) 129 dX12_openers_121 rfl ?_ ?_
        · intro hc17n
          have hc17n : ¬ (x1 = (1 : Int32)) := hc17n
          replace hyp := it_neg hc17n hyp
          refine am_iload_n dX12_openers_129 rfl ?_
          refine am_if_ne (7) 137 dX12_openers_130 rfl ?_ ?_
          · intro hc18n
            have hc18n : ¬ (x3_15 = 0) := hc18n
            replace hyp := it_neg hc18n hyp
            refine am_iload_n dX12_openers_137 rfl ?_
            refine am_iconst 2 (v := 2) dX12_openers_138 (by decide) ?_
            refine am_icmp_ne (8) 147 dX12_openers_139 rfl ?_ ?_
            · intro hc19n
              have hc19n : ¬ (x1 = (2 : Int32)) := hc19n
              replace hyp := it_neg hc19n hyp
              refine am_iload dX12_openers_147 rfl ?_
              cases hyp
              exact am_iret dX12_openers_149 rfl
            · intro hc19
              have hc19 : x1 = (2 : Int32) := hc19
              replace hyp := it_pos hc19 hyp
              refine am_iload dX12_openers_142 rfl ?_
              refine am_goto (5) 149 dX12_openers_144 rfl ?_
              cases hyp
              exact am_iret dX12_openers_149 rfl
          · intro hc18
            have hc18 : x3_15 = 0 := hc18
            replace hyp := it_pos hc18 hyp
            refine am_iconst 0 (v := 0) dX12_openers_133 (by decide) ?_
            refine am_goto (15) 149 dX12_openers_134 rfl ?_
            cases hyp
            exact am_iret dX12_openers_149 rfl
        · intro hc17
          have hc17 : x1 = (1 : Int32) := hc17
          replace hyp := it_pos hc17 hyp
          refine am_iload dX12_openers_124 rfl ?_
          refine am_goto (23) 149 dX12_openers_126 rfl ?_
          cases hyp
          exact am_iret dX12_openers_149 rfl
      · intro hc16
        have hc16 : x1 = 0 := hc16
        replace hyp := it_pos hc16 hyp
        refine am_iload_n dX12_openers_115 rfl ?_
        refine am_goto (33) 149 dX12_openers_116 rfl ?_
        cases hyp
        exact am_iret dX12_openers_149 rfl
    · intro hc14n
      have hc14n : ¬ (v13 = 0) := hc14n
      replace hyp := it_neg hc14n hyp
      refine am_iconst 0 (v := 0) dX12_openers_28 (by decide) ?_
      cases hyp
      exact am_iret dX12_openers_29 rfl
theorem ef_X12_opensOne {d : Nat} {h : am_H} (g : lay h) {M : Mem} {v : Int32} {M' : Mem} (hyp : f_X12_opensOne M = (v, M')) : am_Ev (d + 1) mX12_opensOne [.inr (54, 0)] (am_hM h M) (.inl (some (am_I v), am_hM h M')) := by
  unfold f_X12_opensOne at hyp
  refine am_Ev.mk (by decide +kernel) rfl rfl (Nat.le_refl _) (Nat.le_refl _) ?_
  change am_At _ _ _ 0 [_] [] _ _
  refine am_aload_n dX12_opensOne_0 rfl ?_
  refine am_getI 12 5 dX12_opensOne_1 fg_X12_119 (sh_54 g) (by decide) rfl ?_
  refine am_if_ne (24) 28 dX12_opensOne_4 rfl ?_ ?_
  · intro hc1n
    have hc1n : ¬ ((M 54 0 5) = 0) := hc1n
    replace hyp := it_neg hc1n hyp
    refine am_aload_n dX12_opensOne_28 rfl ?_
    refine am_getI 12 5 dX12_opensOne_29 fg_X12_119 (sh_54 g) (by decide) rfl ?_
    refine am_if_neT (13) 45 dX12_opensOne_32 rfl hc1n ?_
    refine am_aload_n dX12_opensOne_45 rfl ?_
    refine am_getI 12 5 dX12_opensOne_46 fg_X12_119 (sh_54 g) (by decide) rfl ?_
    refine am_if_neT (7) 56 dX12_opensOne_49 rfl hc1n ?_
    refine am_iconst 0 (v := 0) dX12_opensOne_56 (by decide) ?_
    cases hyp
    exact am_zret dX12_opensOne_57 rfl rfl
  · intro hc1
    have hc1 : (M 54 0 5) = 0 := hc1
    replace hyp := it_pos hc1 hyp
    refine am_aload_n dX12_opensOne_7 rfl ?_
    refine am_getI 12 8 dX12_opensOne_8 fg_X12_162 (sh_54 g) (by decide) rfl ?_
    refine am_bipush 6 (v := 6) dX12_opensOne_11 (by decide) ?_
    refine am_icmp_ne (15) 28 dX12_opensOne_13 rfl ?_ ?_
    · intro hc2n
      have hc2n : ¬ ((M 54 0 8) = (6 : Int32)) := hc2n
      replace hyp := it_neg hc2n hyp
      refine am_aload_n dX12_opensOne_28 rfl ?_
      refine am_getI 12 5 dX12_opensOne_29 fg_X12_119 (sh_54 g) (by decide) rfl ?_
      refine am_if_neF (13) 45 dX12_opensOne_32 rfl hc1 ?_
      refine am_aload_n dX12_opensOne_35 rfl ?_
      refine am_dup dX12_opensOne_36 (fun _ => rfl) ?_
      refine am_getI 12 8 dX12_opensOne_37 fg_X12_162 (sh_54 g) (by decide) rfl ?_
      refine am_iconst 1 (v := 1) dX12_opensOne_40 (by decide) ?_
      refine am_iadd dX12_opensOne_41 ?_
      refine am_putI 12 8 dX12_opensOne_42 (Or.inl fp_X12_162) (sh_54 g) (by decide) rfl rfl rfl ?_
      refine am_aload_n dX12_opensOne_45 rfl ?_
      refine am_getI 12 5 dX12_opensOne_46 fg_X12_119 (sh_54 g) (by decide) rfl ?_
      refine am_if_neF (7) 56 dX12_opensOne_49 rfl hc1 ?_
      refine am_iconst 1 (v := 1) dX12_opensOne_52 (by decide) ?_
      refine am_goto (4) 57 dX12_opensOne_53 rfl ?_
      cases hyp
      exact am_zret dX12_opensOne_57 rfl rfl
    · intro hc2
      have hc2 : (M 54 0 8) = (6 : Int32) := hc2
      replace hyp := it_pos hc2 hyp
      refine am_aload_n dX12_opensOne_16 rfl ?_
      refine am_iconst 3 (v := 3) dX12_opensOne_17 (by decide) ?_
      refine am_aload_n dX12_opensOne_18 rfl ?_
      refine am_getI 12 4 dX12_opensOne_19 fg_X12_112 (sh_54 g) (by decide) rfl ?_
      refine am_callV [_, _] dX12_opensOne_22 ml_X12_132 vm_X12_wrong (sh_54 g) rfl (fun _ => Nat.le_of_ble_eq_true rfl) (by omega) rfl (ef_X12_wrong (d := d + 0) (h := h) g (x1 := (3 : Int32)) (x2 := (M 54 0 4)) (M := M) rfl) rfl ?_
      change am_At _ _ _ 25 [_] [] _ _
      refine am_goto (20) 45 dX12_opensOne_25 rfl ?_
      refine am_aload_n dX12_opensOne_45 rfl ?_
      refine am_getI 12 5 dX12_opensOne_46 fg_X12_119 (sh_54 g) (by decide) rfl ?_
      refine am_if_ne (7) 56 dX12_opensOne_49 rfl ?_ ?_
      · intro hc3n
        have hc3n : ¬ (((f_X12_wrong (3 : Int32) (M 54 0 4) M) 54 0 5) = 0) := hc3n
        replace hyp := it_neg hc3n hyp
        refine am_iconst 0 (v := 0) dX12_opensOne_56 (by decide) ?_
        cases hyp
        exact am_zret dX12_opensOne_57 rfl rfl
      · intro hc3
        have hc3 : ((f_X12_wrong (3 : Int32) (M 54 0 4) M) 54 0 5) = 0 := hc3
        replace hyp := it_pos hc3 hyp
        refine am_iconst 1 (v := 1) dX12_opensOne_52 (by decide) ?_
        refine am_goto (4) 57 dX12_opensOne_53 rfl ?_
        cases hyp
        exact am_zret dX12_opensOne_57 rfl rfl
theorem ef_X12_restore {d : Nat} {h : am_H} (g : lay h) {M : Mem} {v : Int32} {M' : Mem} (hyp : f_X12_restore M = some (v, M')) : am_Ev (d + 2) mX12_restore [.inr (54, 0)] (am_hM h M) (.inl (some (am_I v), am_hM h M')) := by
  unfold f_X12_restore at hyp
  refine am_Ev.mk (by decide +kernel) rfl rfl (Nat.le_refl _) (Nat.le_refl _) ?_
  change am_At _ _ _ 0 [_] [] _ _
  refine am_aload_n dX12_restore_0 rfl ?_
  refine am_iconst 0 (v := 0) dX12_restore_1 (by decide) ?_
  refine am_putI 12 0 dX12_restore_2 (Or.inl fp_X12_103) (sh_54 g) (by decide) rfl rfl rfl ?_
  refine am_aload_n dX12_restore_5 rfl ?_
  refine am_getI 12 37 dX12_restore_6 fg_X12_208 (sh_54 g) (by decide) rfl ?_
  refine am_if_ne (5) 14 dX12_restore_9 rfl ?_ ?_
  · intro hc1n
    have hc1n : ¬ ((M 54 0 37) = 0) := hc1n
    replace hyp := it_neg hc1n hyp
    refine am_aload_n dX12_restore_14 rfl ?_
    refine am_dup dX12_restore_15 (fun _ => rfl) ?_
    refine am_getI 12 37 dX12_restore_16 fg_X12_208 (sh_54 g) (by decide) rfl ?_
    refine am_iconst 1 (v := 1) dX12_restore_19 (by decide) ?_
    refine am_isub dX12_restore_20 ?_
    refine am_putI 12 37 dX12_restore_21 (Or.inl fp_X12_208) (sh_54 g) (by decide) rfl rfl rfl ?_
    refine am_aload_n dX12_restore_24 rfl ?_
    refine am_aload_n dX12_restore_25 rfl ?_
    refine am_getR 12 33 76 dX12_restore_26 fg_X12_79 (sh_54 g) (by decide) rfl (rf_54_33 g) ?_
    refine am_aload_n dX12_restore_29 rfl ?_
    refine am_getI 12 37 dX12_restore_30 fg_X12_208 (sh_54 g) (by decide) rfl ?_
    obtain ⟨hg2, hyp⟩ := gd_some hyp
    refine am_aald dX12_restore_33 (sh_76 g) (am_lit hg2) ?_
    refine am_iconst 1 (v := 1) dX12_restore_34 (by decide) ?_
    obtain ⟨M3, hk3, hyp⟩ := bd_some hyp
    try dsimp only at hyp
    refine am_callV [_, _] dX12_restore_35 ml_X12_390 vm_X12_putsAll (sh_54 g) rfl (fun _ => Nat.le_of_ble_eq_true rfl) (by omega) rfl (ef_X12_putsAll (d := d + 0) (h := h) g ⟨Nat.succ_pos _, am_vlt (am_lit hg2)⟩ hk3) rfl ?_
    change am_At _ _ _ 38 [_] [] _ _
    refine am_aload_n dX12_restore_38 rfl ?_
    refine am_iconst 0 (v := 0) dX12_restore_39 (by decide) ?_
    refine am_putI 12 36 dX12_restore_40 (Or.inl fp_X12_205) (sh_54 g) (by decide) rfl rfl rfl ?_
    refine am_aload_n dX12_restore_43 rfl ?_
    refine am_getI 12 37 dX12_restore_44 fg_X12_208 (sh_54 g) (by decide) rfl ?_
    cases hyp
    exact am_iret dX12_restore_47 rfl
  · intro hc1
    have hc1 : (M 54 0 37) = 0 := hc1
    replace hyp := it_pos hc1 hyp
    refine am_iconst (-1) (v := (-1)) dX12_restore_12 (by decide) ?_
    cases hyp
    exact am_iret dX12_restore_13 rfl
theorem ef_X12_sign {d : Nat} {h : am_H} (g : lay h) {x1 : Int32} {M : Mem} {M' : Mem} (hyp : f_X12_sign x1 M = some M') : am_Ev (d + 2) mX12_sign [.inr (54, 0), am_I x1] (am_hM h M) (.inl (none, am_hM h M')) := by
  unfold f_X12_sign at hyp
  refine am_Ev.mk (by decide +kernel) rfl rfl (Nat.le_refl _) (Nat.le_refl _) ?_
  change am_At _ _ _ 0 [_, _] [] _ _
  refine am_aload_n dX12_sign_0 rfl ?_
  refine am_getI 12 5 dX12_sign_1 fg_X12_119 (sh_54 g) (by decide) rfl ?_
  refine am_if_eq (4) 8 dX12_sign_4 rfl ?_ ?_
  · intro hc1
    have hc1 : (M 54 0 5) = 0 := hc1
    replace hyp := it_pos hc1 hyp
    refine am_aload_n dX12_sign_8 rfl ?_
    obtain ⟨M2, hk2, hyp⟩ := bd_some hyp
    try dsimp only at hyp
    refine am_callV [] dX12_sign_9 ml_X12_125 vm_X12_blanks (sh_54 g) rfl (fun _ => Nat.le_of_ble_eq_true rfl) (by omega) rfl (ef_X12_blanks (d := d + 0) (h := h) g hk2) rfl ?_
    change am_At _ _ _ 12 [_, _] [] _ _
    refine am_aload_n dX12_sign_12 rfl ?_
    refine am_aload_n dX12_sign_13 rfl ?_
    refine am_getI 12 4 dX12_sign_14 fg_X12_112 (sh_54 g) (by decide) rfl ?_
    obtain ⟨v3, hk3, hyp⟩ := bd_some hyp
    try dsimp only at hyp
    refine am_callV [_] dX12_sign_17 ml_X12_115 vm_X12_byteAt (sh_54 g) rfl (fun _ => Nat.le_of_ble_eq_true rfl) (by omega) rfl (ef_X12_byteAt (d := d + 1) (h := h) g hk3) rfl ?_
    change am_At _ _ _ 20 [_, _] [_] _ _
    refine am_iload_n dX12_sign_20 rfl ?_
    refine am_icmp_ne (16) 37 dX12_sign_21 rfl ?_ ?_
    · intro hc4n
      have hc4n : ¬ (v3 = x1) := hc4n
      replace hyp := it_neg hc4n hyp
      refine am_aload_n dX12_sign_37 rfl ?_
      refine am_iconst 1 (v := 1) dX12_sign_38 (by decide) ?_
      refine am_aload_n dX12_sign_39 rfl ?_
      refine am_getI 12 4 dX12_sign_40 fg_X12_112 (sh_54 g) (by decide) rfl ?_
      refine am_callV [_, _] dX12_sign_43 ml_X12_132 vm_X12_wrong (sh_54 g) rfl (fun _ => Nat.le_of_ble_eq_true rfl) (by omega) rfl (ef_X12_wrong (d := d + 1) (h := h) g (x1 := (1 : Int32)) (x2 := (M2 54 0 4)) (M := M2) rfl) rfl ?_
      change am_At _ _ _ 46 [_, _] [] _ _
      cases hyp
      exact am_vret dX12_sign_46 rfl
    · intro hc4
      have hc4 : v3 = x1 := hc4
      replace hyp := it_pos hc4 hyp
      refine am_aload_n dX12_sign_24 rfl ?_
      refine am_dup dX12_sign_25 (fun _ => rfl) ?_
      refine am_getI 12 4 dX12_sign_26 fg_X12_112 (sh_54 g) (by decide) rfl ?_
      refine am_iconst 1 (v := 1) dX12_sign_29 (by decide) ?_
      refine am_iadd dX12_sign_30 ?_
      refine am_putI 12 4 dX12_sign_31 (Or.inl fp_X12_112) (sh_54 g) (by decide) rfl rfl rfl ?_
      refine am_goto (12) 46 dX12_sign_34 rfl ?_
      cases hyp
      exact am_vret dX12_sign_46 rfl
  · intro hc1n
    have hc1n : ¬ ((M 54 0 5) = 0) := hc1n
    replace hyp := it_neg hc1n hyp
    cases hyp
    exact am_vret dX12_sign_7 rfl
theorem ef_X12_smells {d : Nat} {h : am_H} (g : lay h) {x1 x2 : Int32} {M : Mem} {v : Int32} {M' : Mem} (hyp : f_X12_smells x1 x2 M = some (v, M')) : am_Ev (d + 2) mX12_smells [.inr (54, 0), am_I x1, am_I x2] (am_hM h M) (.inl (some (am_I v), am_hM h M')) := by
  unfold f_X12_smells at hyp
  refine am_Ev.mk (by decide +kernel) rfl rfl (Nat.le_refl _) (Nat.le_refl _) ?_
  change am_At _ _ _ 0 [_, _, _] [] _ _
  refine am_aload_n dX12_smells_0 rfl ?_
  refine am_iconst 0 (v := 0) dX12_smells_1 (by decide) ?_
  refine am_putI 12 0 dX12_smells_2 (Or.inl fp_X12_103) (sh_54 g) (by decide) rfl rfl rfl ?_
  refine am_aload_n dX12_smells_5 rfl ?_
  refine am_aload_n dX12_smells_6 rfl ?_
  refine am_iload_n dX12_smells_7 rfl ?_
  refine am_callV [_] dX12_smells_8 ml_X12_327 vm_X12_isBoard (sh_54 g) rfl (fun _ => Nat.le_of_ble_eq_true rfl) (by omega) rfl (ef_X12_isBoard (d := d + 0) (h := h) g (x1 := x1) (M := (am_u3 M 54 0 0 (0 : Int32))) rfl) rfl ?_
  change am_At _ _ _ 11 [_, _, _] [_, _] _ _
  refine am_if_ne (7) 18 dX12_smells_11 rfl ?_ ?_
  · intro hc1n
    have hc1n : ¬ ((f_X12_in x1 (0 : Int32) (((am_u3 M 54 0 0 (0 : Int32)) 58 0 0) - (1 : Int32))) = 0) := hc1n
    replace hyp := it_neg hc1n hyp
    refine am_iconst 0 (v := 0) dX12_smells_18 (by decide) ?_
    refine am_iconst 1 (v := 1) dX12_smells_19 (by decide) ?_
    refine am_iconst 0 (v := 0) dX12_smells_20 (by decide) ?_
    obtain ⟨⟨v2, M2⟩, hk2, hyp⟩ := bd_some hyp
    try dsimp only at hyp
    refine am_callV [_, _, _] dX12_smells_21 ml_X12_179 vm_X12_bad (sh_54 g) rfl (fun _ => Nat.le_of_ble_eq_true rfl) (by omega) rfl (ef_X12_bad (d := d + 1) (h := h) g hk2) rfl ?_
    change am_At _ _ _ 24 [_, _, _] [_] _ _
    refine am_if_ne (25) 49 dX12_smells_24 rfl ?_ ?_
    · intro hc3n
      have hc3n : ¬ (v2 = 0) := hc3n
      replace hyp := it_neg hc3n hyp
      refine am_iconst 0 (v := 0) dX12_smells_49 (by decide) ?_
      cases hyp
      exact am_iret dX12_smells_50 rfl
    · intro hc3
      have hc3 : v2 = 0 := hc3
      replace hyp := it_pos hc3 hyp
      refine am_aload_n dX12_smells_27 rfl ?_
      refine am_aload_n dX12_smells_28 rfl ?_
      refine am_iload_n dX12_smells_29 rfl ?_
      refine am_callV [_] dX12_smells_30 ml_X12_342 vm_X12_areBoards (sh_54 g) rfl (fun _ => Nat.le_of_ble_eq_true rfl) (by omega) rfl (ef_X12_areBoards (d := d + 0) (h := h) g (x1 := x2) (M := M2) rfl) rfl ?_
      change am_At _ _ _ 33 [_, _, _] [_, _] _ _
      refine am_if_ne (7) 40 dX12_smells_33 rfl ?_ ?_
      · intro hc4n
        have hc4n : ¬ ((f_X12_in x2 (0 : Int32) (((1 : Int32) <<< ((M2 58 0 0) &&& 31)) - (1 : Int32))) = 0) := hc4n
        replace hyp := it_neg hc4n hyp
        refine am_iconst 0 (v := 0) dX12_smells_40 (by decide) ?_
        refine am_iconst 2 (v := 2) dX12_smells_41 (by decide) ?_
        refine am_iconst 1 (v := 1) dX12_smells_42 (by decide) ?_
        obtain ⟨⟨v5, M5⟩, hk5, hyp⟩ := bd_some hyp
        try dsimp only at hyp
        refine am_callV [_, _, _] dX12_smells_43 ml_X12_179 vm_X12_bad (sh_54 g) rfl (fun _ => Nat.le_of_ble_eq_true rfl) (by omega) rfl (ef_X12_bad (d := d + 1) (h := h) g hk5) rfl ?_
        change am_At _ _ _ 46 [_, _, _] [_] _ _
        refine am_if_eq (5) 51 dX12_smells_46 rfl ?_ ?_
        · intro hc6
          have hc6 : v5 = 0 := hc6
          replace hyp := it_pos hc6 hyp
          refine am_aload_n dX12_smells_51 rfl ?_
          refine am_iload_n dX12_smells_52 rfl ?_
          refine am_iload_n dX12_smells_53 rfl ?_
          obtain ⟨v7, hk7, hyp⟩ := bd_some hyp
          try dsimp only at hyp
          refine am_callV [_, _] dX12_smells_54 ml_X12_345 vm_X12_smellAt (sh_54 g) rfl (fun _ => Nat.le_of_ble_eq_true rfl) (by omega) rfl (ef_X12_smellAt (d := d + 0) (h := h) g hk7) rfl ?_
          change am_At _ _ _ 57 [_, _, _] [_] _ _
          cases hyp
          exact am_iret dX12_smells_57 rfl
        · intro hc6n
          have hc6n : ¬ (v5 = 0) := hc6n
          replace hyp := it_neg hc6n hyp
          refine am_iconst 0 (v := 0) dX12_smells_49 (by decide) ?_
          cases hyp
          exact am_iret dX12_smells_50 rfl
      · intro hc4
        have hc4 : (f_X12_in x2 (0 : Int32) (((1 : Int32) <<< ((M2 58 0 0) &&& 31)) - (1 : Int32))) = 0 := hc4
        replace hyp := it_pos hc4 hyp
        refine am_iconst 1 (v := 1) dX12_smells_36 (by decide) ?_
        refine am_goto (4) 41 dX12_smells_37 rfl ?_
        refine am_iconst 2 (v := 2) dX12_smells_41 (by decide) ?_
        refine am_iconst 1 (v := 1) dX12_smells_42 (by decide) ?_
        obtain ⟨⟨v8, M8⟩, hk8, hyp⟩ := bd_some hyp
        try dsimp only at hyp
        refine am_callV [_, _, _] dX12_smells_43 ml_X12_179 vm_X12_bad (sh_54 g) rfl (fun _ => Nat.le_of_ble_eq_true rfl) (by omega) rfl (ef_X12_bad (d := d + 1) (h := h) g hk8) rfl ?_
        change am_At _ _ _ 46 [_, _, _] [_] _ _
        refine am_if_eq (5) 51 dX12_smells_46 rfl ?_ ?_
        · intro hc9
          have hc9 : v8 = 0 := hc9
          replace hyp := it_pos hc9 hyp
          refine am_aload_n dX12_smells_51 rfl ?_
          refine am_iload_n dX12_smells_52 rfl ?_
          refine am_iload_n dX12_smells_53 rfl ?_
          obtain ⟨v10, hk10, hyp⟩ := bd_some hyp
          try dsimp only at hyp
          refine am_callV [_, _] dX12_smells_54 ml_X12_345 vm_X12_smellAt (sh_54 g) rfl (fun _ => Nat.le_of_ble_eq_true rfl) (by omega) rfl (ef_X12_smellAt (d := d + 0) (h := h) g hk10) rfl ?_
          change am_At _ _ _ 57 [_, _, _] [_] _ _
          cases hyp
          exact am_iret dX12_smells_57 rfl
        · intro hc9n
          have hc9n : ¬ (v8 = 0) := hc9n
          replace hyp := it_neg hc9n hyp
          refine am_iconst 0 (v := 0) dX12_smells_49 (by decide) ?_
          cases hyp
          exact am_iret dX12_smells_50 rfl
  · intro hc1
    have hc1 : (f_X12_in x1 (0 : Int32) (((am_u3 M 54 0 0 (0 : Int32)) 58 0 0) - (1 : Int32))) = 0 := hc1
    replace hyp := it_pos hc1 hyp
    refine am_iconst 1 (v := 1) dX12_smells_14 (by decide) ?_
    refine am_goto (4) 19 dX12_smells_15 rfl ?_
    refine am_iconst 1 (v := 1) dX12_smells_19 (by decide) ?_
    refine am_iconst 0 (v := 0) dX12_smells_20 (by decide) ?_
    obtain ⟨⟨v11, M11⟩, hk11, hyp⟩ := bd_some hyp
    try dsimp only at hyp
    refine am_callV [_, _, _] dX12_smells_21 ml_X12_179 vm_X12_bad (sh_54 g) rfl (fun _ => Nat.le_of_ble_eq_true rfl) (by omega) rfl (ef_X12_bad (d := d + 1) (h := h) g hk11) rfl ?_
    change am_At _ _ _ 24 [_, _, _] [_] _ _
    refine am_if_ne (25) 49 dX12_smells_24 rfl ?_ ?_
    · intro hc12n
      have hc12n : ¬ (v11 = 0) := hc12n
      replace hyp := it_neg hc12n hyp
      refine am_iconst 0 (v := 0) dX12_smells_49 (by decide) ?_
      cases hyp
      exact am_iret dX12_smells_50 rfl
    · intro hc12
      have hc12 : v11 = 0 := hc12
      replace hyp := it_pos hc12 hyp
      refine am_aload_n dX12_smells_27 rfl ?_
      refine am_aload_n dX12_smells_28 rfl ?_
      refine am_iload_n dX12_smells_29 rfl ?_
      refine am_callV [_] dX12_smells_30 ml_X12_342 vm_X12_areBoards (sh_54 g) rfl (fun _ => Nat.le_of_ble_eq_true rfl) (by omega) rfl (ef_X12_areBoards (d := d + 0) (h := h) g (x1 := x2) (M := M11) rfl) rfl ?_
      change am_At _ _ _ 33 [_, _, _] [_, _] _ _
      refine am_if_ne (7) 40 dX12_smells_33 rfl ?_ ?_
      · intro hc13n
        have hc13n : ¬ ((f_X12_in x2 (0 : Int32) (((1 : Int32) <<< ((M11 58 0 0) &&& 31)) - (1 : Int32))) = 0) := hc13n
        replace hyp := it_neg hc13n hyp
        refine am_iconst 0 (v := 0) dX12_smells_40 (by decide) ?_
        refine am_iconst 2 (v := 2) dX12_smells_41 (by decide) ?_
        refine am_iconst 1 (v := 1) dX12_smells_42 (by decide) ?_
        obtain ⟨⟨v14, M14⟩, hk14, hyp⟩ := bd_some hyp
        try dsimp only at hyp
        refine am_callV [_, _, _] dX12_smells_43 ml_X12_179 vm_X12_bad (sh_54 g) rfl (fun _ => Nat.le_of_ble_eq_true rfl) (by omega) rfl (ef_X12_bad (d := d + 1) (h := h) g hk14) rfl ?_
        change am_At _ _ _ 46 [_, _, _] [_] _ _
        refine am_if_eq (5) 51 dX12_smells_46 rfl ?_ ?_
        · intro hc15
          have hc15 : v14 = 0 := hc15
          replace hyp := it_pos hc15 hyp
          refine am_aload_n dX12_smells_51 rfl ?_
          refine am_iload_n dX12_smells_52 rfl ?_
          refine am_iload_n dX12_smells_53 rfl ?_
          obtain ⟨v16, hk16, hyp⟩ := bd_some hyp
          try dsimp only at hyp
          refine am_callV [_, _] dX12_smells_54 ml_X12_345 vm_X12_smellAt (sh_54 g) rfl (fun _ => Nat.le_of_ble_eq_true rfl) (by omega) rfl (ef_X12_smellAt (d := d + 0) (h := h) g hk16) rfl ?_
          change am_At _ _ _ 57 [_, _, _] [_] _ _
          cases hyp
          exact am_iret dX12_smells_57 rfl
        · intro hc15n
          have hc15n : ¬ (v14 = 0) := hc15n
          replace hyp := it_neg hc15n hyp
          refine am_iconst 0 (v := 0) dX12_smells_49 (by decide) ?_
          cases hyp
          exact am_iret dX12_smells_50 rfl
      · intro hc13
        have hc13 : (f_X12_in x2 (0 : Int32) (((1 : Int32) <<< ((M11 58 0 0) &&& 31)) - (1 : Int32))) = 0 := hc13
        replace hyp := it_pos hc13 hyp
        refine am_iconst 1 (v := 1) dX12_smells_36 (by decide) ?_
        refine am_goto (4) 41 dX12_smells_37 rfl ?_
        refine am_iconst 2 (v := 2) dX12_smells_41 (by decide) ?_
        refine am_iconst 1 (v := 1) dX12_smells_42 (by decide) ?_
        obtain ⟨⟨v17, M17⟩, hk17, hyp⟩ := bd_some hyp
        try dsimp only at hyp
        refine am_callV [_, _, _] dX12_smells_43 ml_X12_179 vm_X12_bad (sh_54 g) rfl (fun _ => Nat.le_of_ble_eq_true rfl) (by omega) rfl (ef_X12_bad (d := d + 1) (h := h) g hk17) rfl ?_
        change am_At _ _ _ 46 [_, _, _] [_] _ _
        refine am_if_eq (5) 51 dX12_smells_46 rfl ?_ ?_
        · intro hc18
          have hc18 : v17 = 0 := hc18
          replace hyp := it_pos hc18 hyp
          refine am_aload_n dX12_smells_51 rfl ?_
          refine am_iload_n dX12_smells_52 rfl ?_
          refine am_iload_n dX12_smells_53 rfl ?_
          obtain ⟨v19, hk19, hyp⟩ := bd_some hyp
          try dsimp only at hyp
          refine am_callV [_, _] dX12_smells_54 ml_X12_345 vm_X12_smellAt (sh_54 g) rfl (fun _ => Nat.le_of_ble_eq_true rfl) (by omega) rfl (ef_X12_smellAt (d := d + 0) (h := h) g hk19) rfl ?_
          change am_At _ _ _ 57 [_, _, _] [_] _ _
          cases hyp
          exact am_iret dX12_smells_57 rfl
        · intro hc18n
          have hc18n : ¬ (v17 = 0) := hc18n
          replace hyp := it_neg hc18n hyp
          refine am_iconst 0 (v := 0) dX12_smells_49 (by decide) ?_
          cases hyp
          exact am_iret dX12_smells_50 rfl
theorem ef_X12_stand {d : Nat} {h : am_H} (g : lay h) {x1 x2 : Int32} {M : Mem} {v : Int32} {M' : Mem} (hyp : f_X12_stand x1 x2 M = some (v, M')) : am_Ev (d + 32) mX12_stand [.inr (54, 0), am_I x1, am_I x2] (am_hM h M) (.inl (some (am_I v), am_hM h M')) := by
  unfold f_X12_stand at hyp
  refine am_Ev.mk (by decide +kernel) rfl rfl (Nat.le_refl _) (Nat.le_refl _) ?_
  change am_At _ _ _ 0 [_, _, _] [] _ _
  refine am_aload_n dX12_stand_0 rfl ?_
  refine am_iconst 0 (v := 0) dX12_stand_1 (by decide) ?_
  refine am_putI 12 0 dX12_stand_2 (Or.inl fp_X12_103) (sh_54 g) (by decide) rfl rfl rfl ?_
  refine am_aload_n dX12_stand_5 rfl ?_
  refine am_aload_n dX12_stand_6 rfl ?_
  refine am_iload_n dX12_stand_7 rfl ?_
  refine am_callV [_] dX12_stand_8 ml_X12_327 vm_X12_isBoard (sh_54 g) rfl (fun _ => Nat.le_of_ble_eq_true rfl) (by omega) rfl (ef_X12_isBoard (d := d + 30) (h := h) g (x1 := x1) (M := (am_u3 M 54 0 0 (0 : Int32))) rfl) rfl ?_
  change am_At _ _ _ 11 [_, _, _] [_, _] _ _
  refine am_if_ne (7) 18 dX12_stand_11 rfl ?_ ?_
  · intro hc1n
    have hc1n : ¬ ((f_X12_in x1 (0 : Int32) (((am_u3 M 54 0 0 (0 : Int32)) 58 0 0) - (1 : Int32))) = 0) := hc1n
    replace hyp := it_neg hc1n hyp
    refine am_iconst 0 (v := 0) dX12_stand_18 (by decide) ?_
    refine am_iconst 1 (v := 1) dX12_stand_19 (by decide) ?_
    refine am_iconst 0 (v := 0) dX12_stand_20 (by decide) ?_
    obtain ⟨⟨v2, M2⟩, hk2, hyp⟩ := bd_some hyp
    try dsimp only at hyp
    refine am_callV [_, _, _] dX12_stand_21 ml_X12_179 vm_X12_bad (sh_54 g) rfl (fun _ => Nat.le_of_ble_eq_true rfl) (by omega) rfl (ef_X12_bad (d := d + 31) (h := h) g hk2) rfl ?_
    change am_At _ _ _ 24 [_, _, _] [_] _ _
    refine am_if_ne (26) 50 dX12_stand_24 rfl ?_ ?_
    · intro hc3n
      have hc3n : ¬ (v2 = 0) := hc3n
      replace hyp := it_neg hc3n hyp
      refine am_iconst 0 (v := 0) dX12_stand_50 (by decide) ?_
      cases hyp
      exact am_iret dX12_stand_51 rfl
    · intro hc3
      have hc3 : v2 = 0 := hc3
      replace hyp := it_pos hc3 hyp
      refine am_aload_n dX12_stand_27 rfl ?_
      refine am_iload_n dX12_stand_28 rfl ?_
      refine am_iconst 0 (v := 0) dX12_stand_29 (by decide) ?_
      refine am_iconst 4 (v := 4) dX12_stand_30 (by decide) ?_
      refine am_callS (c := 0) (k := 0) (n := 0) (w := 0) [_, _, _] dX12_stand_31 ml_X12_137 sm_X12_in rfl (fun _ => Nat.le_of_ble_eq_true rfl) (by omega) rfl (ef_X12_in (d := d + 31) (h := am_hM h M2) (x0 := x2) (x1 := (0 : Int32)) (x2 := (4 : Int32))  rfl) rfl ?_
      change am_At _ _ _ 34 [_, _, _] [_, _] _ _
      refine am_if_ne (7) 41 dX12_stand_34 rfl ?_ ?_
      · intro hc4n
        have hc4n : ¬ ((f_X12_in x2 (0 : Int32) (4 : Int32)) = 0) := hc4n
        replace hyp := it_neg hc4n hyp
        refine am_iconst 0 (v := 0) dX12_stand_41 (by decide) ?_
        refine am_iconst 2 (v := 2) dX12_stand_42 (by decide) ?_
        refine am_iconst 1 (v := 1) dX12_stand_43 (by decide) ?_
        obtain ⟨⟨v5, M5⟩, hk5, hyp⟩ := bd_some hyp
        try dsimp only at hyp
        refine am_callV [_, _, _] dX12_stand_44 ml_X12_179 vm_X12_bad (sh_54 g) rfl (fun _ => Nat.le_of_ble_eq_true rfl) (by omega) rfl (ef_X12_bad (d := d + 31) (h := h) g hk5) rfl ?_
        change am_At _ _ _ 47 [_, _, _] [_] _ _
        refine am_if_eq (5) 52 dX12_stand_47 rfl ?_ ?_
        · intro hc6
          have hc6 : v5 = 0 := hc6
          replace hyp := it_pos hc6 hyp
          refine am_aload_n dX12_stand_52 rfl ?_
          refine am_iload_n dX12_stand_53 rfl ?_
          obtain ⟨M7, hk7, hyp⟩ := bd_some hyp
          try dsimp only at hyp
          refine am_callV [_] dX12_stand_54 ml_X12_360 vm_X12_laysAnglers (sh_54 g) rfl (fun _ => Nat.le_of_ble_eq_true rfl) (by omega) rfl (ef_X12_laysAnglers (d := d + 0) (h := h) g hk7) rfl ?_
          change am_At _ _ _ 57 [_, _, _] [] _ _
          refine am_aload_n dX12_stand_57 rfl ?_
          refine am_getR 12 45 80 dX12_stand_58 fg_X12_91 (sh_54 g) (by decide) rfl (rf_54_45 g) ?_
          refine am_iload_n dX12_stand_61 rfl ?_
          obtain ⟨hg8, hyp⟩ := gd_some hyp
          refine am_iald dX12_stand_62 (am_ia.one (sh_80 g)) (am_lit hg8) ?_
          cases hyp
          exact am_iret dX12_stand_63 rfl
        · intro hc6n
          have hc6n : ¬ (v5 = 0) := hc6n
          replace hyp := it_neg hc6n hyp
          refine am_iconst 0 (v := 0) dX12_stand_50 (by decide) ?_
          cases hyp
          exact am_iret dX12_stand_51 rfl
      · intro hc4
        have hc4 : (f_X12_in x2 (0 : Int32) (4 : Int32)) = 0 := hc4
        replace hyp := it_pos hc4 hyp
        refine am_iconst 1 (v := 1) dX12_stand_37 (by decide) ?_
        refine am_goto (4) 42 dX12_stand_38 rfl ?_
        refine am_iconst 2 (v := 2) dX12_stand_42 (by decide) ?_
        refine am_iconst 1 (v := 1) dX12_stand_43 (by decide) ?_
        obtain ⟨⟨v9, M9⟩, hk9, hyp⟩ := bd_some hyp
        try dsimp only at hyp
        refine am_callV [_, _, _] dX12_stand_44 ml_X12_179 vm_X12_bad (sh_54 g) rfl (fun _ => Nat.le_of_ble_eq_true rfl) (by omega) rfl (ef_X12_bad (d := d + 31) (h := h) g hk9) rfl ?_
        change am_At _ _ _ 47 [_, _, _] [_] _ _
        refine am_if_eq (5) 52 dX12_stand_47 rfl ?_ ?_
        · intro hc10
          have hc10 : v9 = 0 := hc10
          replace hyp := it_pos hc10 hyp
          refine am_aload_n dX12_stand_52 rfl ?_
          refine am_iload_n dX12_stand_53 rfl ?_
          obtain ⟨M11, hk11, hyp⟩ := bd_some hyp
          try dsimp only at hyp
          refine am_callV [_] dX12_stand_54 ml_X12_360 vm_X12_laysAnglers (sh_54 g) rfl (fun _ => Nat.le_of_ble_eq_true rfl) (by omega) rfl (ef_X12_laysAnglers (d := d + 0) (h := h) g hk11) rfl ?_
          change am_At _ _ _ 57 [_, _, _] [] _ _
          refine am_aload_n dX12_stand_57 rfl ?_
          refine am_getR 12 45 80 dX12_stand_58 fg_X12_91 (sh_54 g) (by decide) rfl (rf_54_45 g) ?_
          refine am_iload_n dX12_stand_61 rfl ?_
          obtain ⟨hg12, hyp⟩ := gd_some hyp
          refine am_iald dX12_stand_62 (am_ia.one (sh_80 g)) (am_lit hg12) ?_
          cases hyp
          exact am_iret dX12_stand_63 rfl
        · intro hc10n
          have hc10n : ¬ (v9 = 0) := hc10n
          replace hyp := it_neg hc10n hyp
          refine am_iconst 0 (v := 0) dX12_stand_50 (by decide) ?_
          cases hyp
          exact am_iret dX12_stand_51 rfl
  · intro hc1
    have hc1 : (f_X12_in x1 (0 : Int32) (((am_u3 M 54 0 0 (0 : Int32)) 58 0 0) - (1 : Int32))) = 0 := hc1
    replace hyp := it_pos hc1 hyp
    refine am_iconst 1 (v := 1) dX12_stand_14 (by decide) ?_
    refine am_goto (4) 19 dX12_stand_15 rfl ?_
    refine am_iconst 1 (v := 1) dX12_stand_19 (by decide) ?_
    refine am_iconst 0 (v := 0) dX12_stand_20 (by decide) ?_
    obtain ⟨⟨v13, M13⟩, hk13, hyp⟩ := bd_some hyp
    try dsimp only at hyp
    refine am_callV [_, _, _] dX12_stand_21 ml_X12_179 vm_X12_bad (sh_54 g) rfl (fun _ => Nat.le_of_ble_eq_true rfl) (by omega) rfl (ef_X12_bad (d := d + 31) (h := h) g hk13) rfl ?_
    change am_At _ _ _ 24 [_, _, _] [_] _ _
    refine am_if_ne (26) 50 dX12_stand_24 rfl ?_ ?_
    · intro hc14n
      have hc14n : ¬ (v13 = 0) := hc14n
      replace hyp := it_neg hc14n hyp
      refine am_iconst 0 (v := 0) dX12_stand_50 (by decide) ?_
      cases hyp
      exact am_iret dX12_stand_51 rfl
    · intro hc14
      have hc14 : v13 = 0 := hc14
      replace hyp := it_pos hc14 hyp
      refine am_aload_n dX12_stand_27 rfl ?_
      refine am_iload_n dX12_stand_28 rfl ?_
      refine am_iconst 0 (v := 0) dX12_stand_29 (by decide) ?_
      refine am_iconst 4 (v := 4) dX12_stand_30 (by decide) ?_
      refine am_callS (c := 0) (k := 0) (n := 0) (w := 0) [_, _, _] dX12_stand_31 ml_X12_137 sm_X12_in rfl (fun _ => Nat.le_of_ble_eq_true rfl) (by omega) rfl (ef_X12_in (d := d + 31) (h := am_hM h M13) (x0 := x2) (x1 := (0 : Int32)) (x2 := (4 : Int32))  rfl) rfl ?_
      change am_At _ _ _ 34 [_, _, _] [_, _] _ _
      refine am_if_ne (7) 41 dX12_stand_34 rfl ?_ ?_
      · intro hc15n
        have hc15n : ¬ ((f_X12_in x2 (0 : Int32) (4 : Int32)) = 0) := hc15n
        replace hyp := it_neg hc15n hyp
        refine am_iconst 0 (v := 0) dX12_stand_41 (by decide) ?_
        refine am_iconst 2 (v := 2) dX12_stand_42 (by decide) ?_
        refine am_iconst 1 (v := 1) dX12_stand_43 (by decide) ?_
        obtain ⟨⟨v16, M16⟩, hk16, hyp⟩ := bd_some hyp
        try dsimp only at hyp
        refine am_callV [_, _, _] dX12_stand_44 ml_X12_179 vm_X12_bad (sh_54 g) rfl (fun _ => Nat.le_of_ble_eq_true rfl) (by omega) rfl (ef_X12_bad (d := d + 31) (h := h) g hk16) rfl ?_
        change am_At _ _ _ 47 [_, _, _] [_] _ _
        refine am_if_eq (5) 52 dX12_stand_47 rfl ?_ ?_
        · intro hc17
          have hc17 : v16 = 0 := hc17
          replace hyp := it_pos hc17 hyp
          refine am_aload_n dX12_stand_52 rfl ?_
          refine am_iload_n dX12_stand_53 rfl ?_
          obtain ⟨M18, hk18, hyp⟩ := bd_some hyp
          try dsimp only at hyp
          refine am_callV [_] dX12_stand_54 ml_X12_360 vm_X12_laysAnglers (sh_54 g) rfl (fun _ => Nat.le_of_ble_eq_true rfl) (by omega) rfl (ef_X12_laysAnglers (d := d + 0) (h := h) g hk18) rfl ?_
          change am_At _ _ _ 57 [_, _, _] [] _ _
          refine am_aload_n dX12_stand_57 rfl ?_
          refine am_getR 12 45 80 dX12_stand_58 fg_X12_91 (sh_54 g) (by decide) rfl (rf_54_45 g) ?_
          refine am_iload_n dX12_stand_61 rfl ?_
          obtain ⟨hg19, hyp⟩ := gd_some hyp
          refine am_iald dX12_stand_62 (am_ia.one (sh_80 g)) (am_lit hg19) ?_
          cases hyp
          exact am_iret dX12_stand_63 rfl
        · intro hc17n
          have hc17n : ¬ (v16 = 0) := hc17n
          replace hyp := it_neg hc17n hyp
          refine am_iconst 0 (v := 0) dX12_stand_50 (by decide) ?_
          cases hyp
          exact am_iret dX12_stand_51 rfl
      · intro hc15
        have hc15 : (f_X12_in x2 (0 : Int32) (4 : Int32)) = 0 := hc15
        replace hyp := it_pos hc15 hyp
        refine am_iconst 1 (v := 1) dX12_stand_37 (by decide) ?_
        refine am_goto (4) 42 dX12_stand_38 rfl ?_
        refine am_iconst 2 (v := 2) dX12_stand_42 (by decide) ?_
        refine am_iconst 1 (v := 1) dX12_stand_43 (by decide) ?_
        obtain ⟨⟨v20, M20⟩, hk20, hyp⟩ := bd_some hyp
        try dsimp only at hyp
        refine am_callV [_, _, _] dX12_stand_44 ml_X12_179 vm_X12_bad (sh_54 g) rfl (fun _ => Nat.le_of_ble_eq_true rfl) (by omega) rfl (ef_X12_bad (d := d + 31) (h := h) g hk20) rfl ?_
        change am_At _ _ _ 47 [_, _, _] [_] _ _
        refine am_if_eq (5) 52 dX12_stand_47 rfl ?_ ?_
        · intro hc21
          have hc21 : v20 = 0 := hc21
          replace hyp := it_pos hc21 hyp
          refine am_aload_n dX12_stand_52 rfl ?_
          refine am_iload_n dX12_stand_53 rfl ?_
          obtain ⟨M22, hk22, hyp⟩ := bd_some hyp
          try dsimp only at hyp
          refine am_callV [_] dX12_stand_54 ml_X12_360 vm_X12_laysAnglers (sh_54 g) rfl (fun _ => Nat.le_of_ble_eq_true rfl) (by omega) rfl (ef_X12_laysAnglers (d := d + 0) (h := h) g hk22) rfl ?_
          change am_At _ _ _ 57 [_, _, _] [] _ _
          refine am_aload_n dX12_stand_57 rfl ?_
          refine am_getR 12 45 80 dX12_stand_58 fg_X12_91 (sh_54 g) (by decide) rfl (rf_54_45 g) ?_
          refine am_iload_n dX12_stand_61 rfl ?_
          obtain ⟨hg23, hyp⟩ := gd_some hyp
          refine am_iald dX12_stand_62 (am_ia.one (sh_80 g)) (am_lit hg23) ?_
          cases hyp
          exact am_iret dX12_stand_63 rfl
        · intro hc21n
          have hc21n : ¬ (v20 = 0) := hc21n
          replace hyp := it_neg hc21n hyp
          refine am_iconst 0 (v := 0) dX12_stand_50 (by decide) ?_
          cases hyp
          exact am_iret dX12_stand_51 rfl
theorem ef_X12_starts {d : Nat} {h : am_H} (g : lay h) {x1 : Int32} {M : Mem} {M' : Mem} (hyp : f_X12_starts x1 M = some M') : am_Ev (d + 2) mX12_starts [.inr (54, 0), am_I x1] (am_hM h M) (.inl (none, am_hM h M')) := by
  unfold f_X12_starts at hyp
  refine am_Ev.mk (by decide +kernel) rfl rfl (Nat.le_refl _) (Nat.le_refl _) ?_
  change am_At _ _ _ 0 [_, _] [] _ _
  refine am_aload_n dX12_starts_0 rfl ?_
  refine am_iconst 0 (v := 0) dX12_starts_1 (by decide) ?_
  refine am_putI 12 1 dX12_starts_2 (Or.inl fp_X12_106) (sh_54 g) (by decide) rfl rfl rfl ?_
  refine am_aload_n dX12_starts_5 rfl ?_
  refine am_iload_n dX12_starts_6 rfl ?_
  refine am_putI 12 2 dX12_starts_7 (Or.inl fp_X12_109) (sh_54 g) (by decide) rfl rfl rfl ?_
  refine am_aload_n dX12_starts_10 rfl ?_
  refine am_iconst 0 (v := 0) dX12_starts_11 (by decide) ?_
  refine am_putI 12 4 dX12_starts_12 (Or.inl fp_X12_112) (sh_54 g) (by decide) rfl rfl rfl ?_
  refine am_aload_n dX12_starts_15 rfl ?_
  refine am_iconst 0 (v := 0) dX12_starts_16 (by decide) ?_
  refine am_putI 12 5 dX12_starts_17 (Or.inl fp_X12_119) (sh_54 g) (by decide) rfl rfl rfl ?_
  refine am_aload_n dX12_starts_20 rfl ?_
  refine am_iconst (-1) (v := (-1)) dX12_starts_21 (by decide) ?_
  refine am_putI 12 6 dX12_starts_22 (Or.inl fp_X12_122) (sh_54 g) (by decide) rfl rfl rfl ?_
  refine am_aload_n dX12_starts_25 rfl ?_
  refine am_iconst 0 (v := 0) dX12_starts_26 (by decide) ?_
  refine am_putI 12 7 dX12_starts_27 (Or.inl fp_X12_159) (sh_54 g) (by decide) rfl rfl rfl ?_
  refine am_aload_n dX12_starts_30 rfl ?_
  refine am_iconst 0 (v := 0) dX12_starts_31 (by decide) ?_
  refine am_putI 12 8 dX12_starts_32 (Or.inl fp_X12_162) (sh_54 g) (by decide) rfl rfl rfl ?_
  refine am_aload_n dX12_starts_35 rfl ?_
  obtain ⟨M1, hk1, hyp⟩ := bd_some hyp
  try dsimp only at hyp
  refine am_callV [] dX12_starts_36 ml_X12_125 vm_X12_blanks (sh_54 g) rfl (fun _ => Nat.le_of_ble_eq_true rfl) (by omega) rfl (ef_X12_blanks (d := d + 0) (h := h) g hk1) rfl ?_
  change am_At _ _ _ 39 [_, _] [] _ _
  cases hyp
  exact am_vret dX12_starts_39 rfl
theorem ef_X12_takesSign {d : Nat} {h : am_H} (g : lay h) {x1 : Int32} {M : Mem} {v : Int32} {M' : Mem} (hyp : f_X12_takesSign x1 M = some (v, M')) : am_Ev (d + 2) mX12_takesSign [.inr (54, 0), am_I x1] (am_hM h M) (.inl (some (am_I v), am_hM h M')) := by
  unfold f_X12_takesSign at hyp
  refine am_Ev.mk (by decide +kernel) rfl rfl (Nat.le_refl _) (Nat.le_refl _) ?_
  change am_At _ _ _ 0 [_, _, _] [] _ _
  refine am_aload_n dX12_takesSign_0 rfl ?_
  refine am_getI 12 5 dX12_takesSign_1 fg_X12_119 (sh_54 g) (by decide) rfl ?_
  refine am_if_eq (5) 9 dX12_takesSign_4 rfl ?_ ?_
  · intro hc1
    have hc1 : (M 54 0 5) = 0 := hc1
    replace hyp := it_pos hc1 hyp
    refine am_aload_n dX12_takesSign_9 rfl ?_
    obtain ⟨M2, hk2, hyp⟩ := bd_some hyp
    try dsimp only at hyp
    refine am_callV [] dX12_takesSign_10 ml_X12_125 vm_X12_blanks (sh_54 g) rfl (fun _ => Nat.le_of_ble_eq_true rfl) (by omega) rfl (ef_X12_blanks (d := d + 0) (h := h) g hk2) rfl ?_
    change am_At _ _ _ 13 [_, _, _] [] _ _
    refine am_aload_n dX12_takesSign_13 rfl ?_
    refine am_aload_n dX12_takesSign_14 rfl ?_
    refine am_getI 12 4 dX12_takesSign_15 fg_X12_112 (sh_54 g) (by decide) rfl ?_
    obtain ⟨v3, hk3, hyp⟩ := bd_some hyp
    try dsimp only at hyp
    refine am_callV [_] dX12_takesSign_18 ml_X12_115 vm_X12_byteAt (sh_54 g) rfl (fun _ => Nat.le_of_ble_eq_true rfl) (by omega) rfl (ef_X12_byteAt (d := d + 1) (h := h) g hk3) rfl ?_
    change am_At _ _ _ 21 [_, _, _] [_] _ _
    refine am_iload_n dX12_takesSign_21 rfl ?_
    refine am_icmp_ne (7) 29 dX12_takesSign_22 rfl ?_ ?_
    · intro hc4n
      have hc4n : ¬ (v3 = x1) := hc4n
      replace hyp := it_neg hc4n hyp
      refine am_iconst 0 (v := 0) dX12_takesSign_29 (by decide) ?_
      refine am_istore_n dX12_takesSign_30 (am_lb rfl) ?_
      change am_At _ _ _ 31 [_, _, _] [] _ _
      refine am_iload_n dX12_takesSign_31 rfl ?_
      refine am_if_eqT (13) 45 dX12_takesSign_32 rfl (by decide) ?_
      refine am_iload_n dX12_takesSign_45 rfl ?_
      cases hyp
      exact am_zret dX12_takesSign_46 rfl rfl
    · intro hc4
      have hc4 : v3 = x1 := hc4
      replace hyp := it_pos hc4 hyp
      refine am_iconst 1 (v := 1) dX12_takesSign_25 (by decide) ?_
      refine am_goto (4) 30 dX12_takesSign_26 rfl ?_
      refine am_istore_n dX12_takesSign_30 (am_lb rfl) ?_
      change am_At _ _ _ 31 [_, _, _] [] _ _
      refine am_iload_n dX12_takesSign_31 rfl ?_
      refine am_if_eqF (13) 45 dX12_takesSign_32 rfl (by decide) ?_
      refine am_aload_n dX12_takesSign_35 rfl ?_
      refine am_dup dX12_takesSign_36 (fun _ => rfl) ?_
      refine am_getI 12 4 dX12_takesSign_37 fg_X12_112 (sh_54 g) (by decide) rfl ?_
      refine am_iconst 1 (v := 1) dX12_takesSign_40 (by decide) ?_
      refine am_iadd dX12_takesSign_41 ?_
      refine am_putI 12 4 dX12_takesSign_42 (Or.inl fp_X12_112) (sh_54 g) (by decide) rfl rfl rfl ?_
      refine am_iload_n dX12_takesSign_45 rfl ?_
      cases hyp
      exact am_zret dX12_takesSign_46 rfl rfl
  · intro hc1n
    have hc1n : ¬ ((M 54 0 5) = 0) := hc1n
    replace hyp := it_neg hc1n hyp
    refine am_iconst 0 (v := 0) dX12_takesSign_7 (by decide) ?_
    cases hyp
    exact am_zret dX12_takesSign_8 rfl rfl
theorem ef_X12_tries {d : Nat} {h : am_H} (g : lay h) {M : Mem} {M' : Mem} (hyp : f_X12_tries M = some M') : am_Ev (d + 1) mX12_tries [.inr (54, 0)] (am_hM h M) (.inl (none, am_hM h M')) := by
  unfold f_X12_tries at hyp
  refine am_Ev.mk (by decide +kernel) rfl rfl (Nat.le_refl _) (Nat.le_refl _) ?_
  change am_At _ _ _ 0 [_] [] _ _
  refine am_aload_n dX12_tries_0 rfl ?_
  refine am_getR 12 29 72 dX12_tries_1 fg_X12_67 (sh_54 g) (by decide) rfl (rf_54_29 g) ?_
  refine am_aload_n dX12_tries_4 rfl ?_
  refine am_getR 12 30 73 dX12_tries_5 fg_X12_70 (sh_54 g) (by decide) rfl (rf_54_30 g) ?_
  obtain ⟨M1, hk1, hyp⟩ := bd_some hyp
  try dsimp only at hyp
  refine am_callS (c := 0) (k := 0) (n := 0) (w := 0) [_, _] dX12_tries_8 ml_X12_314 sm_X12_copies rfl (fun _ => Nat.le_of_ble_eq_true rfl) (by omega) rfl (ef_X12_copies_t (d := d + 0) (h := h) g hk1) rfl ?_
  change am_At _ _ _ 11 [_] [] _ _
  refine am_aload_n dX12_tries_11 rfl ?_
  refine am_iconst 0 (v := 0) dX12_tries_12 (by decide) ?_
  refine am_putI 12 39 dX12_tries_13 (Or.inl fp_X12_280) (sh_54 g) (by decide) rfl rfl rfl ?_
  cases hyp
  exact am_vret dX12_tries_16 rfl
theorem ef_X12_undo {d : Nat} {h : am_H} (g : lay h) {M : Mem} {v : Int32} {M' : Mem} (hyp : f_X12_undo M = some (v, M')) : am_Ev (d + 1) mX12_undo [.inr (54, 0)] (am_hM h M) (.inl (some (am_I v), am_hM h M')) := by
  unfold f_X12_undo at hyp
  refine am_Ev.mk (by decide +kernel) rfl rfl (Nat.le_refl _) (Nat.le_refl _) ?_
  change am_At _ _ _ 0 [_] [] _ _
  refine am_aload_n dX12_undo_0 rfl ?_
  refine am_iconst 0 (v := 0) dX12_undo_1 (by decide) ?_
  refine am_putI 12 0 dX12_undo_2 (Or.inl fp_X12_103) (sh_54 g) (by decide) rfl rfl rfl ?_
  refine am_aload_n dX12_undo_5 rfl ?_
  refine am_getI 12 35 dX12_undo_6 fg_X12_202 (sh_54 g) (by decide) rfl ?_
  refine am_if_ne (5) 14 dX12_undo_9 rfl ?_ ?_
  · intro hc1n
    have hc1n : ¬ ((M 54 0 35) = 0) := hc1n
    replace hyp := it_neg hc1n hyp
    refine am_aload_n dX12_undo_14 rfl ?_
    refine am_dup dX12_undo_15 (fun _ => rfl) ?_
    refine am_getI 12 35 dX12_undo_16 fg_X12_202 (sh_54 g) (by decide) rfl ?_
    refine am_iconst 1 (v := 1) dX12_undo_19 (by decide) ?_
    refine am_isub dX12_undo_20 ?_
    refine am_putI 12 35 dX12_undo_21 (Or.inl fp_X12_202) (sh_54 g) (by decide) rfl rfl rfl ?_
    refine am_aload_n dX12_undo_24 rfl ?_
    refine am_getR 12 32 75 dX12_undo_25 fg_X12_76 (sh_54 g) (by decide) rfl (rf_54_32 g) ?_
    refine am_aload_n dX12_undo_28 rfl ?_
    refine am_getI 12 35 dX12_undo_29 fg_X12_202 (sh_54 g) (by decide) rfl ?_
    obtain ⟨hg2, hyp⟩ := gd_some hyp
    refine am_aald dX12_undo_32 (sh_75 g) (am_lit hg2) ?_
    refine am_aload_n dX12_undo_33 rfl ?_
    refine am_getR 12 29 72 dX12_undo_34 fg_X12_67 (sh_54 g) (by decide) rfl (rf_54_29 g) ?_
    obtain ⟨M3, hk3, hyp⟩ := bd_some hyp
    try dsimp only at hyp
    refine am_callS (c := 0) (k := 0) (n := 0) (w := 0) [_, _] dX12_undo_37 ml_X12_314 sm_X12_copies rfl (fun _ => Nat.le_of_ble_eq_true rfl) (by omega) rfl (ef_X12_copies_r (d := d + 0) (h := h) g ⟨Nat.succ_pos _, am_vlt (am_lit hg2)⟩ hk3) rfl ?_
    change am_At _ _ _ 40 [_] [] _ _
    refine am_aload_n dX12_undo_40 rfl ?_
    refine am_iconst 0 (v := 0) dX12_undo_41 (by decide) ?_
    refine am_putI 12 36 dX12_undo_42 (Or.inl fp_X12_205) (sh_54 g) (by decide) rfl rfl rfl ?_
    refine am_aload_n dX12_undo_45 rfl ?_
    refine am_getI 12 35 dX12_undo_46 fg_X12_202 (sh_54 g) (by decide) rfl ?_
    cases hyp
    exact am_iret dX12_undo_49 rfl
  · intro hc1
    have hc1 : (M 54 0 35) = 0 := hc1
    replace hyp := it_pos hc1 hyp
    refine am_iconst (-1) (v := (-1)) dX12_undo_12 (by decide) ?_
    cases hyp
    exact am_iret dX12_undo_13 rfl
theorem eL_X12_wordHere_8 {d : Nat} {h : am_H} (g : lay h) {M : Mem} {r : am_R} (n : Nat) : ∀ (s : Int32 × Int32) (e : Int32 × Int32), wh (L_X12_wordHere_8 M) n s = some e → (match e with | (x1, x2) => am_At am_X0 (d + 2) mX12_wordHere 61 [some (.inr (54, 0)), some (am_I (x1)), some (am_I (x2))] [] (am_hM h M) r) → (match s with | (x1, x2) => am_At am_X0 (d + 2) mX12_wordHere 8 [some (.inr (54, 0)), some (am_I (x1)), some (am_I (x2))] [] (am_hM h M) r) := by
  refine am_wh (At := fun (s : Int32 × Int32) => match s with | (x1, x2) => am_At am_X0 (d + 2) mX12_wordHere 8 [some (.inr (54, 0)), some (am_I (x1)), some (am_I (x2))] [] (am_hM h M) r) (Ex := fun (e : Int32 × Int32) => match e with | (x1, x2) => am_At am_X0 (d + 2) mX12_wordHere 61 [some (.inr (54, 0)), some (am_I (x1)), some (am_I (x2))] [] (am_hM h M) r) ?_ n
  rintro ⟨x1, x2⟩ y hyp hx
  unfold L_X12_wordHere_8 at hyp
  try dsimp only at hyp
  change am_At _ _ _ 8 [_, _, _] [] _ _
  refine am_aload_n dX12_wordHere_8 rfl ?_
  refine am_aload_n dX12_wordHere_9 rfl ?_
  refine am_getI 12 4 dX12_wordHere_10 fg_X12_112 (sh_54 g) (by decide) rfl ?_
  refine am_iload_n dX12_wordHere_13 rfl ?_
  refine am_iadd dX12_wordHere_14 ?_
  obtain ⟨v2, hk2, hyp⟩ := bd_some hyp
  try dsimp only at hyp
  refine am_callV [_] dX12_wordHere_15 ml_X12_115 vm_X12_byteAt (sh_54 g) rfl (fun _ => Nat.le_of_ble_eq_true rfl) (by omega) rfl (ef_X12_byteAt (d := d + 1) (h := h) g hk2) rfl ?_
  change am_At _ _ _ 18 [_, _, _] [_] _ _
  refine am_callS (c := 0) (k := 0) (n := 0) (w := 0) [_] dX12_wordHere_18 ml_X12_141 sm_X12_isSmall rfl (fun _ => Nat.le_of_ble_eq_true rfl) (by omega) rfl (ef_X12_isSmall (d := d + 1) (h := am_hM h M) (x0 := v2)  rfl) rfl ?_
  change am_At _ _ _ 21 [_, _, _] [_] _ _
  refine am_if_eq (40) 61 dX12_wordHere_21 rfl ?_ ?_
  · intro hc3
    have hc3 : (f_X12_isSmall v2) = 0 := hc3
    replace hyp := it_pos hc3 hyp
    cases hyp
    exact hx
  · intro hc3n
    have hc3n : ¬ ((f_X12_isSmall v2) = 0) := hc3n
    replace hyp := it_neg hc3n hyp
    refine am_iload_n dX12_wordHere_24 rfl ?_
    refine am_bipush 6 (v := 6) dX12_wordHere_25 (by decide) ?_
    refine am_icmp_ge (26) 53 dX12_wordHere_27 rfl ?_ ?_
    · intro hc4
      have hc4 : (6 : Int32) ≤ x2 := hc4
      replace hyp := it_pos hc4 hyp
      refine am_iload_n dX12_wordHere_53 rfl ?_
      refine am_istore_n dX12_wordHere_54 (am_lb rfl) ?_
      change am_At _ _ _ 55 [_, _, _] [] _ _
      refine am_iinc dX12_wordHere_55 rfl (am_ix _) ?_
      change am_At _ _ _ 58 [_, _, _] [] _ _
      refine am_goto (-50) 8 dX12_wordHere_58 rfl ?_
      cases hyp
      exact hx
    · intro hc4n
      have hc4n : ¬ ((6 : Int32) ≤ x2) := hc4n
      replace hyp := it_neg hc4n hyp
      refine am_bipush 27 (v := 27) dX12_wordHere_30 (by decide) ?_
      refine am_iload_n dX12_wordHere_32 rfl ?_
      refine am_imul dX12_wordHere_33 ?_
      refine am_aload_n dX12_wordHere_34 rfl ?_
      refine am_aload_n dX12_wordHere_35 rfl ?_
      refine am_getI 12 4 dX12_wordHere_36 fg_X12_112 (sh_54 g) (by decide) rfl ?_
      refine am_iload_n dX12_wordHere_39 rfl ?_
      refine am_iadd dX12_wordHere_40 ?_
      obtain ⟨v5, hk5, hyp⟩ := bd_some hyp
      try dsimp only at hyp
      refine am_callV [_] dX12_wordHere_41 ml_X12_115 vm_X12_byteAt (sh_54 g) rfl (fun _ => Nat.le_of_ble_eq_true rfl) (by omega) rfl (ef_X12_byteAt (d := d + 1) (h := h) g hk5) rfl ?_
      change am_At _ _ _ 44 [_, _, _] [_, _] _ _
      refine am_iadd dX12_wordHere_44 ?_
      refine am_bipush 97 (v := 97) dX12_wordHere_45 (by decide) ?_
      refine am_isub dX12_wordHere_47 ?_
      refine am_iconst 1 (v := 1) dX12_wordHere_48 (by decide) ?_
      refine am_iadd dX12_wordHere_49 ?_
      refine am_goto (4) 54 dX12_wordHere_50 rfl ?_
      refine am_istore_n dX12_wordHere_54 (am_lb rfl) ?_
      change am_At _ _ _ 55 [_, _, _] [] _ _
      refine am_iinc dX12_wordHere_55 rfl (am_ix _) ?_
      change am_At _ _ _ 58 [_, _, _] [] _ _
      refine am_goto (-50) 8 dX12_wordHere_58 rfl ?_
      cases hyp
      exact hx
theorem ef_X12_wordHere {d : Nat} {h : am_H} (g : lay h) {M : Mem} {v : Int32} {M' : Mem} (hyp : f_X12_wordHere M = some (v, M')) : am_Ev (d + 2) mX12_wordHere [.inr (54, 0)] (am_hM h M) (.inl (some (am_I v), am_hM h M')) := by
  unfold f_X12_wordHere at hyp
  refine am_Ev.mk (by decide +kernel) rfl rfl (Nat.le_refl _) (Nat.le_refl _) ?_
  change am_At _ _ _ 0 [_, _, _] [] _ _
  refine am_aload_n dX12_wordHere_0 rfl ?_
  obtain ⟨M1, hk1, hyp⟩ := bd_some hyp
  try dsimp only at hyp
  refine am_callV [] dX12_wordHere_1 ml_X12_125 vm_X12_blanks (sh_54 g) rfl (fun _ => Nat.le_of_ble_eq_true rfl) (by omega) rfl (ef_X12_blanks (d := d + 0) (h := h) g hk1) rfl ?_
  change am_At _ _ _ 4 [_, _, _] [] _ _
  refine am_iconst 0 (v := 0) dX12_wordHere_4 (by decide) ?_
  refine am_istore_n dX12_wordHere_5 (am_lb rfl) ?_
  change am_At _ _ _ 6 [_, _, _] [] _ _
  refine am_iconst 0 (v := 0) dX12_wordHere_6 (by decide) ?_
  refine am_istore_n dX12_wordHere_7 (am_lb rfl) ?_
  change am_At _ _ _ 8 [_, _, _] [] _ _
  obtain ⟨⟨x1_6, x2_6⟩, hw6, hyp⟩ := bd_some hyp
  try dsimp only at hyp
  refine eL_X12_wordHere_8 (d := d) (h := h) g (M := M1) FU ((0 : Int32), (0 : Int32)) (x1_6, x2_6) hw6 ?_
  change am_At _ _ _ 61 [_, _, _] [] _ _
  refine am_iload_n dX12_wordHere_61 rfl ?_
  refine am_bipush 6 (v := 6) dX12_wordHere_62 (by decide) ?_
  refine am_icmp_le (7) 71 dX12_wordHere_64 rfl ?_ ?_
  · intro hc7
    have hc7 : x2_6 ≤ (6 : Int32) := hc7
    replace hyp := it_pos hc7 hyp
    refine am_iload_n dX12_wordHere_71 rfl ?_
    cases hyp
    exact am_iret dX12_wordHere_72 rfl
  · intro hc7n
    have hc7n : ¬ (x2_6 ≤ (6 : Int32)) := hc7n
    replace hyp := it_neg hc7n hyp
    refine am_iconst (-1) (v := (-1)) dX12_wordHere_67 (by decide) ?_
    refine am_goto (4) 72 dX12_wordHere_68 rfl ?_
    cases hyp
    exact am_iret dX12_wordHere_72 rfl
theorem ef_X1_readClause {d : Nat} {h : am_H} (g : lay h) {x2 : Int32} {M : Mem} {M' : Mem} (hyp : f_X1_readClause x2 M = some M') : am_Ev (d + 3) mX1_readClause [.inr (13, 0), .inr (1, 0), am_I x2] (am_hM h M) (.inl (none, am_hM h M')) := by
  unfold f_X1_readClause at hyp
  refine am_Ev.mk (by decide +kernel) rfl rfl (Nat.le_refl _) (Nat.le_refl _) ?_
  change am_At _ _ _ 0 [_, _, _] [] _ _
  refine am_iload_n dX1_readClause_0 rfl ?_
  by_cases hc1 : x2 = (0 : Int32)
  · refine am_tabIn (39) 40 dX1_readClause_1 (by rw [hc1]; decide) (by rw [hc1]; decide) (by rw [hc1]; rfl) rfl ?_
    replace hyp := it_pos hc1 hyp
    refine am_aload_n dX1_readClause_40 rfl ?_
    refine am_aload_n dX1_readClause_41 rfl ?_
    obtain ⟨M2, hk2, hyp⟩ := bd_some hyp
    try dsimp only at hyp
    refine am_callV [_] dX1_readClause_42 ml_X1_94 vm_X1_readBoard (sh_13 g) rfl (fun _ => Nat.le_of_ble_eq_true rfl) (by omega) rfl (ef_X1_readBoard (d := d + 0) (h := h) g hk2) rfl ?_
    change am_At _ _ _ 45 [_, _, _] [] _ _
    refine am_goto (53) 98 dX1_readClause_45 rfl ?_
    cases hyp
    exact am_vret dX1_readClause_98 rfl
  · have hc1n := hc1
    replace hyp := it_neg hc1n hyp
    by_cases hc3 : x2 = (1 : Int32)
    · refine am_tabIn (47) 48 dX1_readClause_1 (by rw [hc3]; decide) (by rw [hc3]; decide) (by rw [hc3]; rfl) rfl ?_
      replace hyp := it_pos hc3 hyp
      refine am_aload_n dX1_readClause_48 rfl ?_
      refine am_aload_n dX1_readClause_49 rfl ?_
      obtain ⟨M4, hk4, hyp⟩ := bd_some hyp
      try dsimp only at hyp
      refine am_callV [_] dX1_readClause_50 ml_X1_98 vm_X1_readBarge (sh_13 g) rfl (fun _ => Nat.le_of_ble_eq_true rfl) (by omega) rfl (ef_X1_readBarge (d := d + 0) (h := h) g hk4) rfl ?_
      change am_At _ _ _ 53 [_, _, _] [] _ _
      refine am_goto (45) 98 dX1_readClause_53 rfl ?_
      cases hyp
      exact am_vret dX1_readClause_98 rfl
    · have hc3n := hc3
      replace hyp := it_neg hc3n hyp
      by_cases hc5 : x2 = (2 : Int32)
      · refine am_tabIn (55) 56 dX1_readClause_1 (by rw [hc5]; decide) (by rw [hc5]; decide) (by rw [hc5]; rfl) rfl ?_
        replace hyp := it_pos hc5 hyp
        refine am_aload_n dX1_readClause_56 rfl ?_
        refine am_aload_n dX1_readClause_57 rfl ?_
        refine am_iconst 1 (v := 1) dX1_readClause_58 (by decide) ?_
        refine am_iconst 4 (v := 4) dX1_readClause_59 (by decide) ?_
        obtain ⟨⟨v6, M6⟩, hk6, hyp⟩ := bd_some hyp
        try dsimp only at hyp
        refine am_callV [_, _] dX1_readClause_60 ml_X1_101 vm_X10_number (sh_1 g) rfl (fun _ => Nat.le_of_ble_eq_true rfl) (by omega) rfl (ef_X10_number (d := d + 1) (h := h) g hk6) rfl ?_
        change am_At _ _ _ 63 [_, _, _] [_, _] _ _
        refine am_putI 1 12 dX1_readClause_63 (Or.inl fp_X1_39) (sh_13 g) (by decide) rfl rfl rfl ?_
        refine am_goto (32) 98 dX1_readClause_66 rfl ?_
        cases hyp
        exact am_vret dX1_readClause_98 rfl
      · have hc5n := hc5
        replace hyp := it_neg hc5n hyp
        by_cases hc7 : x2 = (3 : Int32)
        · refine am_tabIn (68) 69 dX1_readClause_1 (by rw [hc7]; decide) (by rw [hc7]; decide) (by rw [hc7]; rfl) rfl ?_
          replace hyp := it_pos hc7 hyp
          refine am_aload_n dX1_readClause_69 rfl ?_
          refine am_aload_n dX1_readClause_70 rfl ?_
          obtain ⟨M8, hk8, hyp⟩ := bd_some hyp
          try dsimp only at hyp
          refine am_callV [_] dX1_readClause_71 ml_X1_105 vm_X1_readStreet (sh_13 g) rfl (fun _ => Nat.le_of_ble_eq_true rfl) (by omega) rfl (ef_X1_readStreet (d := d + 0) (h := h) g hk8) rfl ?_
          change am_At _ _ _ 74 [_, _, _] [] _ _
          refine am_goto (24) 98 dX1_readClause_74 rfl ?_
          cases hyp
          exact am_vret dX1_readClause_98 rfl
        · have hc7n := hc7
          replace hyp := it_neg hc7n hyp
          by_cases hc9 : x2 = (4 : Int32)
          · refine am_tabIn (76) 77 dX1_readClause_1 (by rw [hc9]; decide) (by rw [hc9]; decide) (by rw [hc9]; rfl) rfl ?_
            replace hyp := it_pos hc9 hyp
            refine am_aload_n dX1_readClause_77 rfl ?_
            refine am_aload_n dX1_readClause_78 rfl ?_
            obtain ⟨M10, hk10, hyp⟩ := bd_some hyp
            try dsimp only at hyp
            refine am_callV [_] dX1_readClause_79 ml_X1_108 vm_X1_readFish (sh_13 g) rfl (fun _ => Nat.le_of_ble_eq_true rfl) (by omega) rfl (ef_X1_readFish (d := d + 0) (h := h) g hk10) rfl ?_
            change am_At _ _ _ 82 [_, _, _] [] _ _
            refine am_goto (16) 98 dX1_readClause_82 rfl ?_
            cases hyp
            exact am_vret dX1_readClause_98 rfl
          · have hc9n := hc9
            replace hyp := it_neg hc9n hyp
            by_cases hc11 : x2 = (5 : Int32)
            · refine am_tabIn (84) 85 dX1_readClause_1 (by rw [hc11]; decide) (by rw [hc11]; decide) (by rw [hc11]; rfl) rfl ?_
              replace hyp := it_pos hc11 hyp
              refine am_aload_n dX1_readClause_85 rfl ?_
              refine am_aload_n dX1_readClause_86 rfl ?_
              refine am_iconst 0 (v := 0) dX1_readClause_87 (by decide) ?_
              refine am_iconst 4 (v := 4) dX1_readClause_88 (by decide) ?_
              obtain ⟨⟨v12, M12⟩, hk12, hyp⟩ := bd_some hyp
              try dsimp only at hyp
              refine am_callV [_, _] dX1_readClause_89 ml_X1_101 vm_X10_number (sh_1 g) rfl (fun _ => Nat.le_of_ble_eq_true rfl) (by omega) rfl (ef_X10_number (d := d + 1) (h := h) g hk12) rfl ?_
              change am_At _ _ _ 92 [_, _, _] [_, _] _ _
              refine am_putI 1 13 dX1_readClause_92 (Or.inl fp_X1_43) (sh_13 g) (by decide) rfl rfl rfl ?_
              refine am_goto (3) 98 dX1_readClause_95 rfl ?_
              cases hyp
              exact am_vret dX1_readClause_98 rfl
            · have hc11n := hc11
              replace hyp := it_neg hc11n hyp
              refine am_tabOut 98 dX1_readClause_1 (by have q0 := lv_neT (a := 0) hc1n (by decide); have q1 := lv_neT (a := 1) hc3n (by decide); have q2 := lv_neT (a := 2) hc5n (by decide); have q3 := lv_neT (a := 3) hc7n (by decide); have q4 := lv_neT (a := 4) hc9n (by decide); have q5 := lv_neT (a := 5) hc11n (by decide); omega) rfl ?_
              cases hyp
              exact am_vret dX1_readClause_98 rfl
theorem eL_X2_fewest_2 {d : Nat} {h : am_H} (g : lay h) {x1 : Int32} {r : am_R} (n : Nat) : ∀ (s : Int32 × Mem) (e : Mem), wh (L_X2_fewest_2 x1) n s = some e → ((fun (M : Mem) => am_At am_X0 (d + 31) mX2_fewest 46 [some (.inr (43, 0)), some (am_I (x1)), none] [] (am_hM h M) r) e) → (match s with | (x2, M) => am_At am_X0 (d + 31) mX2_fewest 2 [some (.inr (43, 0)), some (am_I (x1)), some (am_I (x2))] [] (am_hM h M) r) := by
  refine am_wh (At := fun (s : Int32 × Mem) => match s with | (x2, M) => am_At am_X0 (d + 31) mX2_fewest 2 [some (.inr (43, 0)), some (am_I (x1)), some (am_I (x2))] [] (am_hM h M) r) (Ex := fun (e : Mem) => (fun (M : Mem) => am_At am_X0 (d + 31) mX2_fewest 46 [some (.inr (43, 0)), some (am_I (x1)), none] [] (am_hM h M) r) e) ?_ n
  rintro ⟨x2, M⟩ y hyp hx
  unfold L_X2_fewest_2 at hyp
  try dsimp only at hyp
  change am_At _ _ _ 2 [_, _, _] [] _ _
  refine am_iload_n dX2_fewest_2 rfl ?_
  refine am_aload_n dX2_fewest_3 rfl ?_
  refine am_getR 2 0 3 dX2_fewest_4 fg_X2_15 (sh_43 g) (by decide) rfl (rf_43_0 g) ?_
  refine am_getI 1 8 dX2_fewest_7 fg_X2_19 (sh_3 g) (by decide) rfl ?_
  refine am_icmp_ge (36) 46 dX2_fewest_10 rfl ?_ ?_
  · intro hc1
    have hc1 : (M 3 0 8) ≤ x2 := hc1
    replace hyp := it_pos hc1 hyp
    cases hyp
    refine am_At.drop 2 ?_
    exact hx
  · intro hc1n
    have hc1n : ¬ ((M 3 0 8) ≤ x2) := hc1n
    replace hyp := it_neg hc1n hyp
    refine am_aload_n dX2_fewest_13 rfl ?_
    refine am_getR 2 1 44 dX2_fewest_14 fg_X2_9 (sh_43 g) (by decide) rfl (rf_43_1 g) ?_
    refine am_iload_n dX2_fewest_17 rfl ?_
    refine am_iload_n dX2_fewest_18 rfl ?_
    refine am_iload_n dX2_fewest_19 rfl ?_
    refine am_callSN (c := 0) (k := 0) (n := 0) (w := 0) [_, _] dX2_fewest_20 ml_X2_25 sm_X11_isBitOf rfl (fun _ => Nat.le_of_ble_eq_true rfl) (by omega) rfl (ef_X11_isBitOf (d := d + 30) (h := am_hM h M) (x0 := x1) (x1 := x2)  rfl) rfl ?_
    change am_At _ _ _ 23 [_, _, _] [_, _, _] _ _
    refine am_if_eq (15) 38 dX2_fewest_23 rfl ?_ ?_
    · intro hc2
      have hc2 : (f_X11_isBitOf x1 x2) = 0 := hc2
      replace hyp := it_pos hc2 hyp
      refine am_iconst 0 (v := 0) dX2_fewest_38 (by decide) ?_
      obtain ⟨hg3, hyp⟩ := gd_some hyp
      refine am_iast dX2_fewest_39 (am_ia.one (sh_44 g)) (am_lit hg3) ?_
      refine am_iinc dX2_fewest_40 rfl (am_ix _) ?_
      change am_At _ _ _ 43 [_, _, _] [] _ _
      refine am_goto (-41) 2 dX2_fewest_43 rfl ?_
      cases hyp
      exact hx
    · intro hc2n
      have hc2n : ¬ ((f_X11_isBitOf x1 x2) = 0) := hc2n
      replace hyp := it_neg hc2n hyp
      refine am_aload_n dX2_fewest_26 rfl ?_
      refine am_getR 2 0 3 dX2_fewest_27 fg_X2_15 (sh_43 g) (by decide) rfl (rf_43_0 g) ?_
      refine am_getR 1 11 12 dX2_fewest_30 fg_X2_29 (sh_3 g) (by decide) rfl (rf_3_11 g) ?_
      refine am_iload_n dX2_fewest_33 rfl ?_
      obtain ⟨hg4, hyp⟩ := gd_some hyp
      refine am_iald dX2_fewest_34 (am_ia.one (sh_12 g)) (am_lit hg4) ?_
      refine am_goto (4) 39 dX2_fewest_35 rfl ?_
      refine am_iast dX2_fewest_39 (am_ia.one (sh_44 g)) (am_lit hg4) ?_
      refine am_iinc dX2_fewest_40 rfl (am_ix _) ?_
      change am_At _ _ _ 43 [_, _, _] [] _ _
      refine am_goto (-41) 2 dX2_fewest_43 rfl ?_
      cases hyp
      exact hx
theorem eL_X2_fewest_48 {d : Nat} {h : am_H} (g : lay h) {r : am_R} (n : Nat) : ∀ (s : Int32 × Mem) (e : (Mem) ⊕ (Mem)), wh (L_X2_fewest_48) n s = some e → (match e with | (Sum.inl M) => am_At am_X0 (d + 31) mX2_fewest 81 [some (.inr (43, 0)), none, none] [] (am_hM h M) r | (Sum.inr M) => am_At am_X0 (d + 31) mX2_fewest 92 [some (.inr (43, 0)), none, none] [] (am_hM h M) r) → (match s with | (x2, M) => am_At am_X0 (d + 31) mX2_fewest 48 [some (.inr (43, 0)), none, some (am_I (x2))] [] (am_hM h M) r) := by
  refine am_wh (At := fun (s : Int32 × Mem) => match s with | (x2, M) => am_At am_X0 (d + 31) mX2_fewest 48 [some (.inr (43, 0)), none, some (am_I (x2))] [] (am_hM h M) r) (Ex := fun (e : (Mem) ⊕ (Mem)) => match e with | (Sum.inl M) => am_At am_X0 (d + 31) mX2_fewest 81 [some (.inr (43, 0)), none, none] [] (am_hM h M) r | (Sum.inr M) => am_At am_X0 (d + 31) mX2_fewest 92 [some (.inr (43, 0)), none, none] [] (am_hM h M) r) ?_ n
  rintro ⟨x2, M⟩ y hyp hx
  unfold L_X2_fewest_48 at hyp
  try dsimp only at hyp
  change am_At _ _ _ 48 [_, _, _] [] _ _
  refine am_iload_n dX2_fewest_48 rfl ?_
  refine am_aload_n dX2_fewest_49 rfl ?_
  refine am_getR 2 0 3 dX2_fewest_50 fg_X2_15 (sh_43 g) (by decide) rfl (rf_43_0 g) ?_
  refine am_getI 1 0 dX2_fewest_53 fg_X2_32 (sh_3 g) (by decide) rfl ?_
  refine am_icmp_gt (36) 92 dX2_fewest_56 rfl ?_ ?_
  · intro hc6
    have hc6 : (M 3 0 0) < x2 := hc6
    replace hyp := it_pos hc6 hyp
    cases hyp
    refine am_At.drop 2 ?_
    exact hx
  · intro hc6n
    have hc6n : ¬ ((M 3 0 0) < x2) := hc6n
    replace hyp := it_neg hc6n hyp
    refine am_aload_n dX2_fewest_59 rfl ?_
    refine am_iconst 0 (v := 0) dX2_fewest_60 (by decide) ?_
    refine am_putI 2 2 dX2_fewest_61 (Or.inl fp_X2_35) (sh_43 g) (by decide) rfl rfl rfl ?_
    refine am_aload_n dX2_fewest_64 rfl ?_
    refine am_aload_n dX2_fewest_65 rfl ?_
    refine am_getR 2 0 3 dX2_fewest_66 fg_X2_15 (sh_43 g) (by decide) rfl (rf_43_0 g) ?_
    refine am_getI 1 0 dX2_fewest_69 fg_X2_32 (sh_3 g) (by decide) rfl ?_
    refine am_iconst 1 (v := 1) dX2_fewest_72 (by decide) ?_
    refine am_isub dX2_fewest_73 ?_
    refine am_iload_n dX2_fewest_74 rfl ?_
    obtain ⟨⟨v7, M7⟩, hk7, hyp⟩ := bd_some hyp
    try dsimp only at hyp
    refine am_callV [_, _] dX2_fewest_75 ml_X2_38 vm_X2_choose (sh_43 g) rfl (fun _ => Nat.le_of_ble_eq_true rfl) (by omega) rfl (ef_X2_choose (d := d + 0) (h := h) g hk7) rfl ?_
    change am_At _ _ _ 78 [_, _, _] [_] _ _
    refine am_if_eq (8) 86 dX2_fewest_78 rfl ?_ ?_
    · intro hc8
      have hc8 : v7 = 0 := hc8
      replace hyp := it_pos hc8 hyp
      refine am_iinc dX2_fewest_86 rfl (am_ix _) ?_
      change am_At _ _ _ 89 [_, _, _] [] _ _
      refine am_goto (-41) 48 dX2_fewest_89 rfl ?_
      cases hyp
      exact hx
    · intro hc8n
      have hc8n : ¬ (v7 = 0) := hc8n
      replace hyp := it_neg hc8n hyp
      cases hyp
      refine am_At.drop 2 ?_
      exact hx
theorem ef_X2_fewest {d : Nat} {h : am_H} (g : lay h) {x1 : Int32} {M : Mem} {v : Int32} {M' : Mem} (hyp : f_X2_fewest x1 M = some (v, M')) : am_Ev (d + 31) mX2_fewest [.inr (43, 0), am_I x1] (am_hM h M) (.inl (some (am_I v), am_hM h M')) := by
  unfold f_X2_fewest at hyp
  refine am_Ev.mk (by decide +kernel) rfl rfl (Nat.le_refl _) (Nat.le_refl _) ?_
  change am_At _ _ _ 0 [_, _, _] [] _ _
  refine am_iconst 0 (v := 0) dX2_fewest_0 (by decide) ?_
  refine am_istore_n dX2_fewest_1 (am_lb rfl) ?_
  change am_At _ _ _ 2 [_, _, _] [] _ _
  obtain ⟨M5, hw5, hyp⟩ := bd_some hyp
  try dsimp only at hyp
  refine eL_X2_fewest_2 (d := d) (h := h) g  FU ((0 : Int32), M) M5 hw5 ?_
  change am_At _ _ _ 46 [_, _, _] [] _ _
  refine am_iconst 0 (v := 0) dX2_fewest_46 (by decide) ?_
  refine am_istore_n dX2_fewest_47 (am_lb rfl) ?_
  change am_At _ _ _ 48 [_, _, _] [] _ _
  obtain ⟨e9, hw9, hyp⟩ := bd_some hyp
  refine am_At.drop 1 ?_
  rcases e9 with M9 | M9
  · try dsimp only at hyp
    refine eL_X2_fewest_48 (d := d) (h := h) g  FU ((0 : Int32), M5) (Sum.inl M9) hw9 ?_
    change am_At _ _ _ 81 [_, _, _] [] _ _
    refine am_aload_n dX2_fewest_81 rfl ?_
    refine am_getI 2 2 dX2_fewest_82 fg_X2_35 (sh_43 g) (by decide) rfl ?_
    cases hyp
    exact am_iret dX2_fewest_85 rfl
  · try dsimp only at hyp
    refine eL_X2_fewest_48 (d := d) (h := h) g  FU ((0 : Int32), M5) (Sum.inr M9) hw9 ?_
    change am_At _ _ _ 92 [_, _, _] [] _ _
    refine am_iconst (-1) (v := (-1)) dX2_fewest_92 (by decide) ?_
    cases hyp
    exact am_iret dX2_fewest_93 rfl
theorem eL_X4_dueBits_5_30_24 {d : Nat} {h : am_H} (g : lay h) (hW : h.2.2 23 0 = some 24 ∧ h.2.2 23 2 = some 25) {x2 : Int32} {r : am_R} (n : Nat) : ∀ (s : Int32 × Int32 × Mem) (e : Int32 × Mem), wh (L_X4_dueBits_5 30 24 25 x2) n s = some e → (match e with | (x3, M) => am_At am_X0 (d + 2) mX4_dueBits 57 [some (.inr (28, 0)), some (.inr (29, 0)), some (am_I (x2)), some (am_I (x3)), none] [] (am_hM h M) r) → (match s with | (x3, x4, M) => am_At am_X0 (d + 2) mX4_dueBits 5 [some (.inr (28, 0)), some (.inr (29, 0)), some (am_I (x2)), some (am_I (x3)), some (am_I (x4))] [] (am_hM h M) r) := by
  refine am_wh (At := fun (s : Int32 × Int32 × Mem) => match s with | (x3, x4, M) => am_At am_X0 (d + 2) mX4_dueBits 5 [some (.inr (28, 0)), some (.inr (29, 0)), some (am_I (x2)), some (am_I (x3)), some (am_I (x4))] [] (am_hM h M) r) (Ex := fun (e : Int32 × Mem) => match e with | (x3, M) => am_At am_X0 (d + 2) mX4_dueBits 57 [some (.inr (28, 0)), some (.inr (29, 0)), some (am_I (x2)), some (am_I (x3)), none] [] (am_hM h M) r) ?_ n
  rintro ⟨x3, x4, M⟩ y hyp hx
  unfold L_X4_dueBits_5 at hyp
  try dsimp only at hyp
  change am_At _ _ _ 5 [_, _, _, _, _] [] _ _
  refine am_iload dX4_dueBits_5 rfl ?_
  refine am_aload_n dX4_dueBits_7 rfl ?_
  refine am_getR 4 0 3 dX4_dueBits_8 fg_X4_9 (sh_28 g) (by decide) rfl (rf_28_0 g) ?_
  refine am_getI 1 0 dX4_dueBits_11 fg_X4_25 (sh_3 g) (by decide) rfl ?_
  refine am_icmp_ge (43) 57 dX4_dueBits_14 rfl ?_ ?_
  · intro hc1
    have hc1 : (M 3 0 0) ≤ x4 := hc1
    replace hyp := it_pos hc1 hyp
    cases hyp
    refine am_At.drop 4 ?_
    exact hx
  · intro hc1n
    have hc1n : ¬ ((M 3 0 0) ≤ x4) := hc1n
    replace hyp := it_neg hc1n hyp
    refine am_iload_n dX4_dueBits_17 rfl ?_
    refine am_aload_n dX4_dueBits_18 rfl ?_
    refine am_getR 4 1 23 dX4_dueBits_19 fg_X4_15 (sh_28 g) (by decide) rfl (rf_28_1 g) ?_
    refine am_aload_n dX4_dueBits_22 rfl ?_
    refine am_getR 4 0 3 dX4_dueBits_23 fg_X4_9 (sh_28 g) (by decide) rfl (rf_28_0 g) ?_
    refine am_iload dX4_dueBits_26 rfl ?_
    refine am_iload_n dX4_dueBits_28 rfl ?_
    refine am_aload_n dX4_dueBits_29 rfl ?_
    refine am_iload dX4_dueBits_30 rfl ?_
    obtain ⟨v2, hk2, hyp⟩ := bd_some hyp
    try dsimp only at hyp
    refine am_callV [_] dX4_dueBits_32 ml_X4_31 vm_X8_finesOf (sh_29 g) rfl (fun _ => Nat.le_of_ble_eq_true rfl) (by omega) rfl (ef_X8_finesOf_30 (d := d + 1) (h := h) g hk2) rfl ?_
    change am_At _ _ _ 35 [_, _, _, _, _] [_, _, _, _, _, _] _ _
    obtain ⟨⟨v3, M3⟩, hk3, hyp⟩ := bd_some hyp
    try dsimp only at hyp
    refine am_callV [_, _, _, _] dX4_dueBits_35 ml_X4_19 vm_X3_value (sh_23 g) rfl (fun _ => Nat.le_of_ble_eq_true rfl) (by omega) rfl (ef_X3_value_24 (d := d + 0) (h := h) g hW hk3) rfl ?_
    change am_At _ _ _ 38 [_, _, _, _, _] [_, _] _ _
    refine am_if_le (10) 48 dX4_dueBits_38 rfl ?_ ?_
    · intro hc4
      have hc4 : v3 ≤ 0 := hc4
      replace hyp := it_pos hc4 hyp
      refine am_iconst 0 (v := 0) dX4_dueBits_48 (by decide) ?_
      refine am_ior dX4_dueBits_49 ?_
      refine am_istore_n dX4_dueBits_50 (am_lb rfl) ?_
      change am_At _ _ _ 51 [_, _, _, _, _] [] _ _
      refine am_iinc dX4_dueBits_51 rfl (am_ix _) ?_
      change am_At _ _ _ 54 [_, _, _, _, _] [] _ _
      refine am_goto (-49) 5 dX4_dueBits_54 rfl ?_
      cases hyp
      exact hx
    · intro hc4n
      have hc4n : ¬ (v3 ≤ 0) := hc4n
      replace hyp := it_neg hc4n hyp
      refine am_iconst 1 (v := 1) dX4_dueBits_41 (by decide) ?_
      refine am_iload dX4_dueBits_42 rfl ?_
      refine am_ishl dX4_dueBits_44 ?_
      refine am_goto (4) 49 dX4_dueBits_45 rfl ?_
      refine am_ior dX4_dueBits_49 ?_
      refine am_istore_n dX4_dueBits_50 (am_lb rfl) ?_
      change am_At _ _ _ 51 [_, _, _, _, _] [] _ _
      refine am_iinc dX4_dueBits_51 rfl (am_ix _) ?_
      change am_At _ _ _ 54 [_, _, _, _, _] [] _ _
      refine am_goto (-49) 5 dX4_dueBits_54 rfl ?_
      cases hyp
      exact hx
theorem ef_X4_dueBits_30_24 {d : Nat} {h : am_H} (g : lay h) (hW : h.2.2 23 0 = some 24 ∧ h.2.2 23 2 = some 25) {x2 : Int32} {M : Mem} {v : Int32} {M' : Mem} (hyp : f_X4_dueBits 30 24 25 x2 M = some (v, M')) : am_Ev (d + 2) mX4_dueBits [.inr (28, 0), .inr (29, 0), am_I x2] (am_hM h M) (.inl (some (am_I v), am_hM h M')) := by
  unfold f_X4_dueBits at hyp
  refine am_Ev.mk (by decide +kernel) rfl rfl (Nat.le_refl _) (Nat.le_refl _) ?_
  change am_At _ _ _ 0 [_, _, _, _, _] [] _ _
  refine am_iconst 0 (v := 0) dX4_dueBits_0 (by decide) ?_
  refine am_istore_n dX4_dueBits_1 (am_lb rfl) ?_
  change am_At _ _ _ 2 [_, _, _, _, _] [] _ _
  refine am_iconst 0 (v := 0) dX4_dueBits_2 (by decide) ?_
  refine am_istore dX4_dueBits_3 (am_lb rfl) ?_
  change am_At _ _ _ 5 [_, _, _, _, _] [] _ _
  obtain ⟨⟨x3_5, M5⟩, hw5, hyp⟩ := bd_some hyp
  try dsimp only at hyp
  refine eL_X4_dueBits_5_30_24 (d := d) (h := h) g hW  FU ((0 : Int32), (0 : Int32), M) (x3_5, M5) hw5 ?_
  change am_At _ _ _ 57 [_, _, _, _, _] [] _ _
  refine am_iload_n dX4_dueBits_57 rfl ?_
  cases hyp
  exact am_iret dX4_dueBits_58 rfl
theorem eL_X4_dueBits_5_30_25 {d : Nat} {h : am_H} (g : lay h) (hW : h.2.2 23 0 = some 25 ∧ h.2.2 23 2 = some 24) {x2 : Int32} {r : am_R} (n : Nat) : ∀ (s : Int32 × Int32 × Mem) (e : Int32 × Mem), wh (L_X4_dueBits_5 30 25 24 x2) n s = some e → (match e with | (x3, M) => am_At am_X0 (d + 2) mX4_dueBits 57 [some (.inr (28, 0)), some (.inr (29, 0)), some (am_I (x2)), some (am_I (x3)), none] [] (am_hM h M) r) → (match s with | (x3, x4, M) => am_At am_X0 (d + 2) mX4_dueBits 5 [some (.inr (28, 0)), some (.inr (29, 0)), some (am_I (x2)), some (am_I (x3)), some (am_I (x4))] [] (am_hM h M) r) := by
  refine am_wh (At := fun (s : Int32 × Int32 × Mem) => match s with | (x3, x4, M) => am_At am_X0 (d + 2) mX4_dueBits 5 [some (.inr (28, 0)), some (.inr (29, 0)), some (am_I (x2)), some (am_I (x3)), some (am_I (x4))] [] (am_hM h M) r) (Ex := fun (e : Int32 × Mem) => match e with | (x3, M) => am_At am_X0 (d + 2) mX4_dueBits 57 [some (.inr (28, 0)), some (.inr (29, 0)), some (am_I (x2)), some (am_I (x3)), none] [] (am_hM h M) r) ?_ n
  rintro ⟨x3, x4, M⟩ y hyp hx
  unfold L_X4_dueBits_5 at hyp
  try dsimp only at hyp
  change am_At _ _ _ 5 [_, _, _, _, _] [] _ _
  refine am_iload dX4_dueBits_5 rfl ?_
  refine am_aload_n dX4_dueBits_7 rfl ?_
  refine am_getR 4 0 3 dX4_dueBits_8 fg_X4_9 (sh_28 g) (by decide) rfl (rf_28_0 g) ?_
  refine am_getI 1 0 dX4_dueBits_11 fg_X4_25 (sh_3 g) (by decide) rfl ?_
  refine am_icmp_ge (43) 57 dX4_dueBits_14 rfl ?_ ?_
  · intro hc1
    have hc1 : (M 3 0 0) ≤ x4 := hc1
    replace hyp := it_pos hc1 hyp
    cases hyp
    refine am_At.drop 4 ?_
    exact hx
  · intro hc1n
    have hc1n : ¬ ((M 3 0 0) ≤ x4) := hc1n
    replace hyp := it_neg hc1n hyp
    refine am_iload_n dX4_dueBits_17 rfl ?_
    refine am_aload_n dX4_dueBits_18 rfl ?_
    refine am_getR 4 1 23 dX4_dueBits_19 fg_X4_15 (sh_28 g) (by decide) rfl (rf_28_1 g) ?_
    refine am_aload_n dX4_dueBits_22 rfl ?_
    refine am_getR 4 0 3 dX4_dueBits_23 fg_X4_9 (sh_28 g) (by decide) rfl (rf_28_0 g) ?_
    refine am_iload dX4_dueBits_26 rfl ?_
    refine am_iload_n dX4_dueBits_28 rfl ?_
    refine am_aload_n dX4_dueBits_29 rfl ?_
    refine am_iload dX4_dueBits_30 rfl ?_
    obtain ⟨v2, hk2, hyp⟩ := bd_some hyp
    try dsimp only at hyp
    refine am_callV [_] dX4_dueBits_32 ml_X4_31 vm_X8_finesOf (sh_29 g) rfl (fun _ => Nat.le_of_ble_eq_true rfl) (by omega) rfl (ef_X8_finesOf_30 (d := d + 1) (h := h) g hk2) rfl ?_
    change am_At _ _ _ 35 [_, _, _, _, _] [_, _, _, _, _, _] _ _
    obtain ⟨⟨v3, M3⟩, hk3, hyp⟩ := bd_some hyp
    try dsimp only at hyp
    refine am_callV [_, _, _, _] dX4_dueBits_35 ml_X4_19 vm_X3_value (sh_23 g) rfl (fun _ => Nat.le_of_ble_eq_true rfl) (by omega) rfl (ef_X3_value_25 (d := d + 0) (h := h) g hW hk3) rfl ?_
    change am_At _ _ _ 38 [_, _, _, _, _] [_, _] _ _
    refine am_if_le (10) 48 dX4_dueBits_38 rfl ?_ ?_
    · intro hc4
      have hc4 : v3 ≤ 0 := hc4
      replace hyp := it_pos hc4 hyp
      refine am_iconst 0 (v := 0) dX4_dueBits_48 (by decide) ?_
      refine am_ior dX4_dueBits_49 ?_
      refine am_istore_n dX4_dueBits_50 (am_lb rfl) ?_
      change am_At _ _ _ 51 [_, _, _, _, _] [] _ _
      refine am_iinc dX4_dueBits_51 rfl (am_ix _) ?_
      change am_At _ _ _ 54 [_, _, _, _, _] [] _ _
      refine am_goto (-49) 5 dX4_dueBits_54 rfl ?_
      cases hyp
      exact hx
    · intro hc4n
      have hc4n : ¬ (v3 ≤ 0) := hc4n
      replace hyp := it_neg hc4n hyp
      refine am_iconst 1 (v := 1) dX4_dueBits_41 (by decide) ?_
      refine am_iload dX4_dueBits_42 rfl ?_
      refine am_ishl dX4_dueBits_44 ?_
      refine am_goto (4) 49 dX4_dueBits_45 rfl ?_
      refine am_ior dX4_dueBits_49 ?_
      refine am_istore_n dX4_dueBits_50 (am_lb rfl) ?_
      change am_At _ _ _ 51 [_, _, _, _, _] [] _ _
      refine am_iinc dX4_dueBits_51 rfl (am_ix _) ?_
      change am_At _ _ _ 54 [_, _, _, _, _] [] _ _
      refine am_goto (-49) 5 dX4_dueBits_54 rfl ?_
      cases hyp
      exact hx
theorem ef_X4_dueBits_30_25 {d : Nat} {h : am_H} (g : lay h) (hW : h.2.2 23 0 = some 25 ∧ h.2.2 23 2 = some 24) {x2 : Int32} {M : Mem} {v : Int32} {M' : Mem} (hyp : f_X4_dueBits 30 25 24 x2 M = some (v, M')) : am_Ev (d + 2) mX4_dueBits [.inr (28, 0), .inr (29, 0), am_I x2] (am_hM h M) (.inl (some (am_I v), am_hM h M')) := by
  unfold f_X4_dueBits at hyp
  refine am_Ev.mk (by decide +kernel) rfl rfl (Nat.le_refl _) (Nat.le_refl _) ?_
  change am_At _ _ _ 0 [_, _, _, _, _] [] _ _
  refine am_iconst 0 (v := 0) dX4_dueBits_0 (by decide) ?_
  refine am_istore_n dX4_dueBits_1 (am_lb rfl) ?_
  change am_At _ _ _ 2 [_, _, _, _, _] [] _ _
  refine am_iconst 0 (v := 0) dX4_dueBits_2 (by decide) ?_
  refine am_istore dX4_dueBits_3 (am_lb rfl) ?_
  change am_At _ _ _ 5 [_, _, _, _, _] [] _ _
  obtain ⟨⟨x3_5, M5⟩, hw5, hyp⟩ := bd_some hyp
  try dsimp only at hyp
  refine eL_X4_dueBits_5_30_25 (d := d) (h := h) g hW  FU ((0 : Int32), (0 : Int32), M) (x3_5, M5) hw5 ?_
  change am_At _ _ _ 57 [_, _, _, _, _] [] _ _
  refine am_iload_n dX4_dueBits_57 rfl ?_
  cases hyp
  exact am_iret dX4_dueBits_58 rfl
theorem eL_X4_dueBits_5_40_24 {d : Nat} {h : am_H} (g : lay h) (hW : h.2.2 23 0 = some 24 ∧ h.2.2 23 2 = some 25) {x2 : Int32} {r : am_R} (n : Nat) : ∀ (s : Int32 × Int32 × Mem) (e : Int32 × Mem), wh (L_X4_dueBits_5 40 24 25 x2) n s = some e → (match e with | (x3, M) => am_At am_X0 (d + 2) mX4_dueBits 57 [some (.inr (28, 0)), some (.inr (39, 0)), some (am_I (x2)), some (am_I (x3)), none] [] (am_hM h M) r) → (match s with | (x3, x4, M) => am_At am_X0 (d + 2) mX4_dueBits 5 [some (.inr (28, 0)), some (.inr (39, 0)), some (am_I (x2)), some (am_I (x3)), some (am_I (x4))] [] (am_hM h M) r) := by
  refine am_wh (At := fun (s : Int32 × Int32 × Mem) => match s with | (x3, x4, M) => am_At am_X0 (d + 2) mX4_dueBits 5 [some (.inr (28, 0)), some (.inr (39, 0)), some (am_I (x2)), some (am_I (x3)), some (am_I (x4))] [] (am_hM h M) r) (Ex := fun (e : Int32 × Mem) => match e with | (x3, M) => am_At am_X0 (d + 2) mX4_dueBits 57 [some (.inr (28, 0)), some (.inr (39, 0)), some (am_I (x2)), some (am_I (x3)), none] [] (am_hM h M) r) ?_ n
  rintro ⟨x3, x4, M⟩ y hyp hx
  unfold L_X4_dueBits_5 at hyp
  try dsimp only at hyp
  change am_At _ _ _ 5 [_, _, _, _, _] [] _ _
  refine am_iload dX4_dueBits_5 rfl ?_
  refine am_aload_n dX4_dueBits_7 rfl ?_
  refine am_getR 4 0 3 dX4_dueBits_8 fg_X4_9 (sh_28 g) (by decide) rfl (rf_28_0 g) ?_
  refine am_getI 1 0 dX4_dueBits_11 fg_X4_25 (sh_3 g) (by decide) rfl ?_
  refine am_icmp_ge (43) 57 dX4_dueBits_14 rfl ?_ ?_
  · intro hc1
    have hc1 : (M 3 0 0) ≤ x4 := hc1
    replace hyp := it_pos hc1 hyp
    cases hyp
    refine am_At.drop 4 ?_
    exact hx
  · intro hc1n
    have hc1n : ¬ ((M 3 0 0) ≤ x4) := hc1n
    replace hyp := it_neg hc1n hyp
    refine am_iload_n dX4_dueBits_17 rfl ?_
    refine am_aload_n dX4_dueBits_18 rfl ?_
    refine am_getR 4 1 23 dX4_dueBits_19 fg_X4_15 (sh_28 g) (by decide) rfl (rf_28_1 g) ?_
    refine am_aload_n dX4_dueBits_22 rfl ?_
    refine am_getR 4 0 3 dX4_dueBits_23 fg_X4_9 (sh_28 g) (by decide) rfl (rf_28_0 g) ?_
    refine am_iload dX4_dueBits_26 rfl ?_
    refine am_iload_n dX4_dueBits_28 rfl ?_
    refine am_aload_n dX4_dueBits_29 rfl ?_
    refine am_iload dX4_dueBits_30 rfl ?_
    obtain ⟨v2, hk2, hyp⟩ := bd_some hyp
    try dsimp only at hyp
    refine am_callV [_] dX4_dueBits_32 ml_X4_31 vm_X8_finesOf (sh_39 g) rfl (fun _ => Nat.le_of_ble_eq_true rfl) (by omega) rfl (ef_X8_finesOf_40 (d := d + 1) (h := h) g hk2) rfl ?_
    change am_At _ _ _ 35 [_, _, _, _, _] [_, _, _, _, _, _] _ _
    obtain ⟨⟨v3, M3⟩, hk3, hyp⟩ := bd_some hyp
    try dsimp only at hyp
    refine am_callV [_, _, _, _] dX4_dueBits_35 ml_X4_19 vm_X3_value (sh_23 g) rfl (fun _ => Nat.le_of_ble_eq_true rfl) (by omega) rfl (ef_X3_value_24 (d := d + 0) (h := h) g hW hk3) rfl ?_
    change am_At _ _ _ 38 [_, _, _, _, _] [_, _] _ _
    refine am_if_le (10) 48 dX4_dueBits_38 rfl ?_ ?_
    · intro hc4
      have hc4 : v3 ≤ 0 := hc4
      replace hyp := it_pos hc4 hyp
      refine am_iconst 0 (v := 0) dX4_dueBits_48 (by decide) ?_
      refine am_ior dX4_dueBits_49 ?_
      refine am_istore_n dX4_dueBits_50 (am_lb rfl) ?_
      change am_At _ _ _ 51 [_, _, _, _, _] [] _ _
      refine am_iinc dX4_dueBits_51 rfl (am_ix _) ?_
      change am_At _ _ _ 54 [_, _, _, _, _] [] _ _
      refine am_goto (-49) 5 dX4_dueBits_54 rfl ?_
      cases hyp
      exact hx
    · intro hc4n
      have hc4n : ¬ (v3 ≤ 0) := hc4n
      replace hyp := it_neg hc4n hyp
      refine am_iconst 1 (v := 1) dX4_dueBits_41 (by decide) ?_
      refine am_iload dX4_dueBits_42 rfl ?_
      refine am_ishl dX4_dueBits_44 ?_
      refine am_goto (4) 49 dX4_dueBits_45 rfl ?_
      refine am_ior dX4_dueBits_49 ?_
      refine am_istore_n dX4_dueBits_50 (am_lb rfl) ?_
      change am_At _ _ _ 51 [_, _, _, _, _] [] _ _
      refine am_iinc dX4_dueBits_51 rfl (am_ix _) ?_
      change am_At _ _ _ 54 [_, _, _, _, _] [] _ _
      refine am_goto (-49) 5 dX4_dueBits_54 rfl ?_
      cases hyp
      exact hx
theorem ef_X4_dueBits_40_24 {d : Nat} {h : am_H} (g : lay h) (hW : h.2.2 23 0 = some 24 ∧ h.2.2 23 2 = some 25) {x2 : Int32} {M : Mem} {v : Int32} {M' : Mem} (hyp : f_X4_dueBits 40 24 25 x2 M = some (v, M')) : am_Ev (d + 2) mX4_dueBits [.inr (28, 0), .inr (39, 0), am_I x2] (am_hM h M) (.inl (some (am_I v), am_hM h M')) := by
  unfold f_X4_dueBits at hyp
  refine am_Ev.mk (by decide +kernel) rfl rfl (Nat.le_refl _) (Nat.le_refl _) ?_
  change am_At _ _ _ 0 [_, _, _, _, _] [] _ _
  refine am_iconst 0 (v := 0) dX4_dueBits_0 (by decide) ?_
  refine am_istore_n dX4_dueBits_1 (am_lb rfl) ?_
  change am_At _ _ _ 2 [_, _, _, _, _] [] _ _
  refine am_iconst 0 (v := 0) dX4_dueBits_2 (by decide) ?_
  refine am_istore dX4_dueBits_3 (am_lb rfl) ?_
  change am_At _ _ _ 5 [_, _, _, _, _] [] _ _
  obtain ⟨⟨x3_5, M5⟩, hw5, hyp⟩ := bd_some hyp
  try dsimp only at hyp
  refine eL_X4_dueBits_5_40_24 (d := d) (h := h) g hW  FU ((0 : Int32), (0 : Int32), M) (x3_5, M5) hw5 ?_
  change am_At _ _ _ 57 [_, _, _, _, _] [] _ _
  refine am_iload_n dX4_dueBits_57 rfl ?_
  cases hyp
  exact am_iret dX4_dueBits_58 rfl
theorem eL_X4_dueBits_5_40_25 {d : Nat} {h : am_H} (g : lay h) (hW : h.2.2 23 0 = some 25 ∧ h.2.2 23 2 = some 24) {x2 : Int32} {r : am_R} (n : Nat) : ∀ (s : Int32 × Int32 × Mem) (e : Int32 × Mem), wh (L_X4_dueBits_5 40 25 24 x2) n s = some e → (match e with | (x3, M) => am_At am_X0 (d + 2) mX4_dueBits 57 [some (.inr (28, 0)), some (.inr (39, 0)), some (am_I (x2)), some (am_I (x3)), none] [] (am_hM h M) r) → (match s with | (x3, x4, M) => am_At am_X0 (d + 2) mX4_dueBits 5 [some (.inr (28, 0)), some (.inr (39, 0)), some (am_I (x2)), some (am_I (x3)), some (am_I (x4))] [] (am_hM h M) r) := by
  refine am_wh (At := fun (s : Int32 × Int32 × Mem) => match s with | (x3, x4, M) => am_At am_X0 (d + 2) mX4_dueBits 5 [some (.inr (28, 0)), some (.inr (39, 0)), some (am_I (x2)), some (am_I (x3)), some (am_I (x4))] [] (am_hM h M) r) (Ex := fun (e : Int32 × Mem) => match e with | (x3, M) => am_At am_X0 (d + 2) mX4_dueBits 57 [some (.inr (28, 0)), some (.inr (39, 0)), some (am_I (x2)), some (am_I (x3)), none] [] (am_hM h M) r) ?_ n
  rintro ⟨x3, x4, M⟩ y hyp hx
  unfold L_X4_dueBits_5 at hyp
  try dsimp only at hyp
  change am_At _ _ _ 5 [_, _, _, _, _] [] _ _
  refine am_iload dX4_dueBits_5 rfl ?_
  refine am_aload_n dX4_dueBits_7 rfl ?_
  refine am_getR 4 0 3 dX4_dueBits_8 fg_X4_9 (sh_28 g) (by decide) rfl (rf_28_0 g) ?_
  refine am_getI 1 0 dX4_dueBits_11 fg_X4_25 (sh_3 g) (by decide) rfl ?_
  refine am_icmp_ge (43) 57 dX4_dueBits_14 rfl ?_ ?_
  · intro hc1
    have hc1 : (M 3 0 0) ≤ x4 := hc1
    replace hyp := it_pos hc1 hyp
    cases hyp
    refine am_At.drop 4 ?_
    exact hx
  · intro hc1n
    have hc1n : ¬ ((M 3 0 0) ≤ x4) := hc1n
    replace hyp := it_neg hc1n hyp
    refine am_iload_n dX4_dueBits_17 rfl ?_
    refine am_aload_n dX4_dueBits_18 rfl ?_
    refine am_getR 4 1 23 dX4_dueBits_19 fg_X4_15 (sh_28 g) (by decide) rfl (rf_28_1 g) ?_
    refine am_aload_n dX4_dueBits_22 rfl ?_
    refine am_getR 4 0 3 dX4_dueBits_23 fg_X4_9 (sh_28 g) (by decide) rfl (rf_28_0 g) ?_
    refine am_iload dX4_dueBits_26 rfl ?_
    refine am_iload_n dX4_dueBits_28 rfl ?_
    refine am_aload_n dX4_dueBits_29 rfl ?_
    refine am_iload dX4_dueBits_30 rfl ?_
    obtain ⟨v2, hk2, hyp⟩ := bd_some hyp
    try dsimp only at hyp
    refine am_callV [_] dX4_dueBits_32 ml_X4_31 vm_X8_finesOf (sh_39 g) rfl (fun _ => Nat.le_of_ble_eq_true rfl) (by omega) rfl (ef_X8_finesOf_40 (d := d + 1) (h := h) g hk2) rfl ?_
    change am_At _ _ _ 35 [_, _, _, _, _] [_, _, _, _, _, _] _ _
    obtain ⟨⟨v3, M3⟩, hk3, hyp⟩ := bd_some hyp
    try dsimp only at hyp
    refine am_callV [_, _, _, _] dX4_dueBits_35 ml_X4_19 vm_X3_value (sh_23 g) rfl (fun _ => Nat.le_of_ble_eq_true rfl) (by omega) rfl (ef_X3_value_25 (d := d + 0) (h := h) g hW hk3) rfl ?_
    change am_At _ _ _ 38 [_, _, _, _, _] [_, _] _ _
    refine am_if_le (10) 48 dX4_dueBits_38 rfl ?_ ?_
    · intro hc4
      have hc4 : v3 ≤ 0 := hc4
      replace hyp := it_pos hc4 hyp
      refine am_iconst 0 (v := 0) dX4_dueBits_48 (by decide) ?_
      refine am_ior dX4_dueBits_49 ?_
      refine am_istore_n dX4_dueBits_50 (am_lb rfl) ?_
      change am_At _ _ _ 51 [_, _, _, _, _] [] _ _
      refine am_iinc dX4_dueBits_51 rfl (am_ix _) ?_
      change am_At _ _ _ 54 [_, _, _, _, _] [] _ _
      refine am_goto (-49) 5 dX4_dueBits_54 rfl ?_
      cases hyp
      exact hx
    · intro hc4n
      have hc4n : ¬ (v3 ≤ 0) := hc4n
      replace hyp := it_neg hc4n hyp
      refine am_iconst 1 (v := 1) dX4_dueBits_41 (by decide) ?_
      refine am_iload dX4_dueBits_42 rfl ?_
      refine am_ishl dX4_dueBits_44 ?_
      refine am_goto (4) 49 dX4_dueBits_45 rfl ?_
      refine am_ior dX4_dueBits_49 ?_
      refine am_istore_n dX4_dueBits_50 (am_lb rfl) ?_
      change am_At _ _ _ 51 [_, _, _, _, _] [] _ _
      refine am_iinc dX4_dueBits_51 rfl (am_ix _) ?_
      change am_At _ _ _ 54 [_, _, _, _, _] [] _ _
      refine am_goto (-49) 5 dX4_dueBits_54 rfl ?_
      cases hyp
      exact hx
theorem ef_X4_dueBits_40_25 {d : Nat} {h : am_H} (g : lay h) (hW : h.2.2 23 0 = some 25 ∧ h.2.2 23 2 = some 24) {x2 : Int32} {M : Mem} {v : Int32} {M' : Mem} (hyp : f_X4_dueBits 40 25 24 x2 M = some (v, M')) : am_Ev (d + 2) mX4_dueBits [.inr (28, 0), .inr (39, 0), am_I x2] (am_hM h M) (.inl (some (am_I v), am_hM h M')) := by
  unfold f_X4_dueBits at hyp
  refine am_Ev.mk (by decide +kernel) rfl rfl (Nat.le_refl _) (Nat.le_refl _) ?_
  change am_At _ _ _ 0 [_, _, _, _, _] [] _ _
  refine am_iconst 0 (v := 0) dX4_dueBits_0 (by decide) ?_
  refine am_istore_n dX4_dueBits_1 (am_lb rfl) ?_
  change am_At _ _ _ 2 [_, _, _, _, _] [] _ _
  refine am_iconst 0 (v := 0) dX4_dueBits_2 (by decide) ?_
  refine am_istore dX4_dueBits_3 (am_lb rfl) ?_
  change am_At _ _ _ 5 [_, _, _, _, _] [] _ _
  obtain ⟨⟨x3_5, M5⟩, hw5, hyp⟩ := bd_some hyp
  try dsimp only at hyp
  refine eL_X4_dueBits_5_40_25 (d := d) (h := h) g hW  FU ((0 : Int32), (0 : Int32), M) (x3_5, M5) hw5 ?_
  change am_At _ _ _ 57 [_, _, _, _, _] [] _ _
  refine am_iload_n dX4_dueBits_57 rfl ?_
  cases hyp
  exact am_iret dX4_dueBits_58 rfl
