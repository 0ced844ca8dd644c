theorem eL_X12_beginsAnew_2 {d : Nat} {h : am_H} (g : lay h) {r : am_R} (n : Nat) : ∀ (s : Int32 × Mem) (e : Mem), wh (L_X12_beginsAnew_2) n s = some e → ((fun (M : Mem) => am_At am_X0 (d + 1) mX12_beginsAnew 25 [some (.inr (54, 0)), none] [] (am_hM h M) r) e) → (match s with | (x1, M) => am_At am_X0 (d + 1) mX12_beginsAnew 2 [some (.inr (54, 0)), some (am_I (x1))] [] (am_hM h M) r) := by
  refine am_wh (At := fun (s : Int32 × Mem) => match s with | (x1, M) => am_At am_X0 (d + 1) mX12_beginsAnew 2 [some (.inr (54, 0)), some (am_I (x1))] [] (am_hM h M) r) (Ex := fun (e : Mem) => (fun (M : Mem) => am_At am_X0 (d + 1) mX12_beginsAnew 25 [some (.inr (54, 0)), none] [] (am_hM h M) r) e) ?_ n
  rintro ⟨x1, M⟩ y hyp hx
  unfold L_X12_beginsAnew_2 at hyp
  try dsimp only at hyp
  change am_At _ _ _ 2 [_, _] [] _ _
  refine am_iload_n dX12_beginsAnew_2 rfl ?_
  refine am_iconst 5 (v := 5) dX12_beginsAnew_3 (by decide) ?_
  refine am_icmp_ge (21) 25 dX12_beginsAnew_4 rfl ?_ ?_
  · intro hc1
    have hc1 : (5 : Int32) ≤ x1 := hc1
    replace hyp := it_pos hc1 hyp
    cases hyp
    refine am_At.drop 1 ?_
    exact hx
  · intro hc1n
    have hc1n : ¬ ((5 : Int32) ≤ x1) := hc1n
    replace hyp := it_neg hc1n hyp
    refine am_aload_n dX12_beginsAnew_7 rfl ?_
    refine am_getR 12 12 58 dX12_beginsAnew_8 fg_X12_23 (sh_54 g) (by decide) rfl (rf_54_12 g) ?_
    refine am_iload_n dX12_beginsAnew_11 rfl ?_
    refine am_aload_n dX12_beginsAnew_12 rfl ?_
    refine am_getR 12 11 57 dX12_beginsAnew_13 fg_X12_20 (sh_54 g) (by decide) rfl (rf_54_11 g) ?_
    refine am_iload_n dX12_beginsAnew_16 rfl ?_
    obtain ⟨hg2, hyp⟩ := gd_some hyp
    refine am_iald dX12_beginsAnew_17 (am_ia.one (sh_57 g)) (am_lit hg2) ?_
    refine am_iast dX12_beginsAnew_18 (am_ia.one (sh_58 g)) (am_lit hg2) ?_
    refine am_iinc dX12_beginsAnew_19 rfl (am_ix _) ?_
    change am_At _ _ _ 22 [_, _] [] _ _
    refine am_goto (-20) 2 dX12_beginsAnew_22 rfl ?_
    cases hyp
    exact hx
theorem eL_X12_beginsAnew_78 {d : Nat} {h : am_H} (g : lay h) {r : am_R} (n : Nat) : ∀ (s : Int32 × Mem) (e : Mem), wh (L_X12_beginsAnew_78) n s = some e → ((fun (M : Mem) => am_At am_X0 (d + 1) mX12_beginsAnew 118 [some (.inr (54, 0)), none] [] (am_hM h M) r) e) → (match s with | (x1, M) => am_At am_X0 (d + 1) mX12_beginsAnew 78 [some (.inr (54, 0)), some (am_I (x1))] [] (am_hM h M) r) := by
  refine am_wh (At := fun (s : Int32 × Mem) => match s with | (x1, M) => am_At am_X0 (d + 1) mX12_beginsAnew 78 [some (.inr (54, 0)), some (am_I (x1))] [] (am_hM h M) r) (Ex := fun (e : Mem) => (fun (M : Mem) => am_At am_X0 (d + 1) mX12_beginsAnew 118 [some (.inr (54, 0)), none] [] (am_hM h M) r) e) ?_ n
  rintro ⟨x1, M⟩ y hyp hx
  unfold L_X12_beginsAnew_78 at hyp
  try dsimp only at hyp
  change am_At _ _ _ 78 [_, _] [] _ _
  refine am_iload_n dX12_beginsAnew_78 rfl ?_
  refine am_bipush 66 (v := 66) dX12_beginsAnew_79 (by decide) ?_
  refine am_icmp_ge (37) 118 dX12_beginsAnew_81 rfl ?_ ?_
  · intro hc7
    have hc7 : (66 : Int32) ≤ x1 := hc7
    replace hyp := it_pos hc7 hyp
    cases hyp
    refine am_At.drop 1 ?_
    exact hx
  · intro hc7n
    have hc7n : ¬ ((66 : Int32) ≤ x1) := hc7n
    replace hyp := it_neg hc7n hyp
    refine am_aload_n dX12_beginsAnew_84 rfl ?_
    refine am_getR 12 29 72 dX12_beginsAnew_85 fg_X12_67 (sh_54 g) (by decide) rfl (rf_54_29 g) ?_
    refine am_iload_n dX12_beginsAnew_88 rfl ?_
    refine am_iload_n dX12_beginsAnew_89 rfl ?_
    refine am_bipush 58 (v := 58) dX12_beginsAnew_90 (by decide) ?_
    refine am_bipush 62 (v := 62) dX12_beginsAnew_92 (by decide) ?_
    refine am_callS (c := 0) (k := 0) (n := 0) (w := 0) [_, _, _] dX12_beginsAnew_94 ml_X12_137 sm_X12_in rfl (fun _ => Nat.le_of_ble_eq_true rfl) (by omega) rfl (ef_X12_in (d := d + 0) (h := am_hM h M) (x0 := x1) (x1 := (58 : Int32)) (x2 := (62 : Int32))  rfl) rfl ?_
    change am_At _ _ _ 97 [_, _] [_, _, _] _ _
    refine am_if_ne (9) 106 dX12_beginsAnew_97 rfl ?_ ?_
    · intro hc8n
      have hc8n : ¬ ((f_X12_in x1 (58 : Int32) (62 : Int32)) = 0) := hc8n
      replace hyp := it_neg hc8n hyp
      refine am_iconst (-1) (v := (-1)) dX12_beginsAnew_106 (by decide) ?_
      refine am_goto (4) 111 dX12_beginsAnew_107 rfl ?_
      obtain ⟨hg9, hyp⟩ := gd_some hyp
      refine am_iast dX12_beginsAnew_111 (am_ia.one (sh_72 g)) (am_lit hg9) ?_
      refine am_iinc dX12_beginsAnew_112 rfl (am_ix _) ?_
      change am_At _ _ _ 115 [_, _] [] _ _
      refine am_goto (-37) 78 dX12_beginsAnew_115 rfl ?_
      cases hyp
      exact hx
    · intro hc8
      have hc8 : (f_X12_in x1 (58 : Int32) (62 : Int32)) = 0 := hc8
      replace hyp := it_pos hc8 hyp
      refine am_iload_n dX12_beginsAnew_100 rfl ?_
      refine am_bipush 64 (v := 64) dX12_beginsAnew_101 (by decide) ?_
      refine am_icmp_ne (7) 110 dX12_beginsAnew_103 rfl ?_ ?_
      · intro hc10n
        have hc10n : ¬ (x1 = (64 : Int32)) := hc10n
        replace hyp := it_neg hc10n hyp
        refine am_iconst 0 (v := 0) dX12_beginsAnew_110 (by decide) ?_
        obtain ⟨hg11, hyp⟩ := gd_some hyp
        refine am_iast dX12_beginsAnew_111 (am_ia.one (sh_72 g)) (am_lit hg11) ?_
        refine am_iinc dX12_beginsAnew_112 rfl (am_ix _) ?_
        change am_At _ _ _ 115 [_, _] [] _ _
        refine am_goto (-37) 78 dX12_beginsAnew_115 rfl ?_
        cases hyp
        exact hx
      · intro hc10
        have hc10 : x1 = (64 : Int32) := hc10
        replace hyp := it_pos hc10 hyp
        refine am_iconst (-1) (v := (-1)) dX12_beginsAnew_106 (by decide) ?_
        refine am_goto (4) 111 dX12_beginsAnew_107 rfl ?_
        obtain ⟨hg12, hyp⟩ := gd_some hyp
        refine am_iast dX12_beginsAnew_111 (am_ia.one (sh_72 g)) (am_lit hg12) ?_
        refine am_iinc dX12_beginsAnew_112 rfl (am_ix _) ?_
        change am_At _ _ _ 115 [_, _] [] _ _
        refine am_goto (-37) 78 dX12_beginsAnew_115 rfl ?_
        cases hyp
        exact hx
theorem ef_X12_beginsAnew {d : Nat} {h : am_H} (g : lay h) {M : Mem} {M' : Mem} (hyp : f_X12_beginsAnew M = some M') : am_Ev (d + 1) mX12_beginsAnew [.inr (54, 0)] (am_hM h M) (.inl (none, am_hM h M')) := by
  unfold f_X12_beginsAnew at hyp
  refine am_Ev.mk (by decide +kernel) rfl rfl (Nat.le_refl _) (Nat.le_refl _) ?_
  change am_At _ _ _ 0 [_, _] [] _ _
  refine am_iconst 0 (v := 0) dX12_beginsAnew_0 (by decide) ?_
  refine am_istore_n dX12_beginsAnew_1 (am_lb rfl) ?_
  change am_At _ _ _ 2 [_, _] [] _ _
  obtain ⟨M3, hw3, hyp⟩ := bd_some hyp
  try dsimp only at hyp
  refine eL_X12_beginsAnew_2 (d := d) (h := h) g  FU ((0 : Int32), M) M3 hw3 ?_
  change am_At _ _ _ 25 [_, _] [] _ _
  refine am_aload_n dX12_beginsAnew_25 rfl ?_
  refine am_getR 12 13 59 dX12_beginsAnew_26 fg_X12_28 (sh_54 g) (by decide) rfl (rf_54_13 g) ?_
  refine am_aload_n dX12_beginsAnew_29 rfl ?_
  refine am_getR 12 14 60 dX12_beginsAnew_30 fg_X12_31 (sh_54 g) (by decide) rfl (rf_54_14 g) ?_
  refine am_aload_n dX12_beginsAnew_33 rfl ?_
  refine am_getR 12 12 58 dX12_beginsAnew_34 fg_X12_23 (sh_54 g) (by decide) rfl (rf_54_12 g) ?_
  refine am_iconst 0 (v := 0) dX12_beginsAnew_37 (by decide) ?_
  refine am_iald dX12_beginsAnew_38 (am_ia.one (sh_58 g)) (am_lit rfl) ?_
  obtain ⟨M4, hk4, hyp⟩ := bd_some hyp
  try dsimp only at hyp
  refine am_callS (c := 0) (k := 0) (n := 0) (w := 0) [_, _, _] dX12_beginsAnew_39 ml_X12_192 sm_X12_lays rfl (fun _ => Nat.le_of_ble_eq_true rfl) (by omega) rfl (ef_X12_lays_b (d := d + 0) (h := h) g hk4) rfl ?_
  change am_At _ _ _ 42 [_, _] [] _ _
  refine am_aload_n dX12_beginsAnew_42 rfl ?_
  refine am_getR 12 15 61 dX12_beginsAnew_43 fg_X12_34 (sh_54 g) (by decide) rfl (rf_54_15 g) ?_
  refine am_aload_n dX12_beginsAnew_46 rfl ?_
  refine am_getR 12 16 62 dX12_beginsAnew_47 fg_X12_37 (sh_54 g) (by decide) rfl (rf_54_16 g) ?_
  refine am_aload_n dX12_beginsAnew_50 rfl ?_
  refine am_getR 12 12 58 dX12_beginsAnew_51 fg_X12_23 (sh_54 g) (by decide) rfl (rf_54_12 g) ?_
  refine am_iconst 1 (v := 1) dX12_beginsAnew_54 (by decide) ?_
  refine am_iald dX12_beginsAnew_55 (am_ia.one (sh_58 g)) (am_lit rfl) ?_
  obtain ⟨M5, hk5, hyp⟩ := bd_some hyp
  try dsimp only at hyp
  refine am_callS (c := 0) (k := 0) (n := 0) (w := 0) [_, _, _] dX12_beginsAnew_56 ml_X12_192 sm_X12_lays rfl (fun _ => Nat.le_of_ble_eq_true rfl) (by omega) rfl (ef_X12_lays_g (d := d + 0) (h := h) g hk5) rfl ?_
  change am_At _ _ _ 59 [_, _] [] _ _
  refine am_aload_n dX12_beginsAnew_59 rfl ?_
  refine am_getR 12 17 63 dX12_beginsAnew_60 fg_X12_40 (sh_54 g) (by decide) rfl (rf_54_17 g) ?_
  refine am_aload_n dX12_beginsAnew_63 rfl ?_
  refine am_getR 12 18 64 dX12_beginsAnew_64 fg_X12_43 (sh_54 g) (by decide) rfl (rf_54_18 g) ?_
  refine am_aload_n dX12_beginsAnew_67 rfl ?_
  refine am_getR 12 12 58 dX12_beginsAnew_68 fg_X12_23 (sh_54 g) (by decide) rfl (rf_54_12 g) ?_
  refine am_iconst 2 (v := 2) dX12_beginsAnew_71 (by decide) ?_
  refine am_iald dX12_beginsAnew_72 (am_ia.one (sh_58 g)) (am_lit rfl) ?_
  obtain ⟨M6, hk6, hyp⟩ := bd_some hyp
  try dsimp only at hyp
  refine am_callS (c := 0) (k := 0) (n := 0) (w := 0) [_, _, _] dX12_beginsAnew_73 ml_X12_192 sm_X12_lays rfl (fun _ => Nat.le_of_ble_eq_true rfl) (by omega) rfl (ef_X12_lays_s (d := d + 0) (h := h) g hk6) rfl ?_
  change am_At _ _ _ 76 [_, _] [] _ _
  refine am_iconst 0 (v := 0) dX12_beginsAnew_76 (by decide) ?_
  refine am_istore_n dX12_beginsAnew_77 (am_lb rfl) ?_
  change am_At _ _ _ 78 [_, _] [] _ _
  obtain ⟨M13, hw13, hyp⟩ := bd_some hyp
  try dsimp only at hyp
  refine eL_X12_beginsAnew_78 (d := d) (h := h) g  FU ((0 : Int32), M6) M13 hw13 ?_
  change am_At _ _ _ 118 [_, _] [] _ _
  refine am_aload_n dX12_beginsAnew_118 rfl ?_
  refine am_iconst 0 (v := 0) dX12_beginsAnew_119 (by decide) ?_
  refine am_putI 12 19 dX12_beginsAnew_120 (Or.inl fp_X12_196) (sh_54 g) (by decide) rfl rfl rfl ?_
  refine am_aload_n dX12_beginsAnew_123 rfl ?_
  refine am_iconst 0 (v := 0) dX12_beginsAnew_124 (by decide) ?_
  refine am_putI 12 34 dX12_beginsAnew_125 (Or.inl fp_X12_199) (sh_54 g) (by decide) rfl rfl rfl ?_
  refine am_aload_n dX12_beginsAnew_128 rfl ?_
  refine am_iconst 0 (v := 0) dX12_beginsAnew_129 (by decide) ?_
  refine am_putI 12 35 dX12_beginsAnew_130 (Or.inl fp_X12_202) (sh_54 g) (by decide) rfl rfl rfl ?_
  refine am_aload_n dX12_beginsAnew_133 rfl ?_
  refine am_iconst 0 (v := 0) dX12_beginsAnew_134 (by decide) ?_
  refine am_putI 12 36 dX12_beginsAnew_135 (Or.inl fp_X12_205) (sh_54 g) (by decide) rfl rfl rfl ?_
  refine am_aload_n dX12_beginsAnew_138 rfl ?_
  refine am_iconst 0 (v := 0) dX12_beginsAnew_139 (by decide) ?_
  refine am_putI 12 37 dX12_beginsAnew_140 (Or.inl fp_X12_208) (sh_54 g) (by decide) rfl rfl rfl ?_
  cases hyp
  exact am_vret dX12_beginsAnew_143 rfl
theorem eL_X12_blanks_0 {d : Nat} {h : am_H} (g : lay h) {r : am_R} (n : Nat) : ∀ (s : Mem) (e : Mem), wh (L_X12_blanks_0) n s = some e → ((fun (M : Mem) => am_At am_X0 (d + 1) mX12_blanks 26 [some (.inr (54, 0))] [] (am_hM h M) r) e) → ((fun (M : Mem) => am_At am_X0 (d + 1) mX12_blanks 0 [some (.inr (54, 0))] [] (am_hM h M) r) s) := by
  refine am_wh (At := fun (s : Mem) => (fun (M : Mem) => am_At am_X0 (d + 1) mX12_blanks 0 [some (.inr (54, 0))] [] (am_hM h M) r) s) (Ex := fun (e : Mem) => (fun (M : Mem) => am_At am_X0 (d + 1) mX12_blanks 26 [some (.inr (54, 0))] [] (am_hM h M) r) e) ?_ n
  rintro M y hyp hx
  unfold L_X12_blanks_0 at hyp
  try dsimp only at hyp
  change am_At _ _ _ 0 [_] [] _ _
  refine am_aload_n dX12_blanks_0 rfl ?_
  refine am_aload_n dX12_blanks_1 rfl ?_
  refine am_getI 12 4 dX12_blanks_2 fg_X12_112 (sh_54 g) (by decide) rfl ?_
  obtain ⟨v1, hk1, hyp⟩ := bd_some hyp
  try dsimp only at hyp
  refine am_callV [_] dX12_blanks_5 ml_X12_115 vm_X12_byteAt (sh_54 g) rfl (fun _ => Nat.le_of_ble_eq_true rfl) (by omega) rfl (ef_X12_byteAt (d := d + 0) (h := h) g hk1) rfl ?_
  change am_At _ _ _ 8 [_] [_] _ _
  refine am_bipush 32 (v := 32) dX12_blanks_8 (by decide) ?_
  refine am_icmp_ne (16) 26 dX12_blanks_10 rfl ?_ ?_
  · intro hc2n
    have hc2n : ¬ (v1 = (32 : Int32)) := hc2n
    replace hyp := it_neg hc2n hyp
    cases hyp
    exact hx
  · intro hc2
    have hc2 : v1 = (32 : Int32) := hc2
    replace hyp := it_pos hc2 hyp
    refine am_aload_n dX12_blanks_13 rfl ?_
    refine am_dup dX12_blanks_14 (fun _ => rfl) ?_
    refine am_getI 12 4 dX12_blanks_15 fg_X12_112 (sh_54 g) (by decide) rfl ?_
    refine am_iconst 1 (v := 1) dX12_blanks_18 (by decide) ?_
    refine am_iadd dX12_blanks_19 ?_
    refine am_putI 12 4 dX12_blanks_20 (Or.inl fp_X12_112) (sh_54 g) (by decide) rfl rfl rfl ?_
    refine am_goto (-23) 0 dX12_blanks_23 rfl ?_
    cases hyp
    exact hx
theorem ef_X12_blanks {d : Nat} {h : am_H} (g : lay h) {M : Mem} {M' : Mem} (hyp : f_X12_blanks M = some M') : am_Ev (d + 1) mX12_blanks [.inr (54, 0)] (am_hM h M) (.inl (none, am_hM h M')) := by
  unfold f_X12_blanks at hyp
  refine am_Ev.mk (by decide +kernel) rfl rfl (Nat.le_refl _) (Nat.le_refl _) ?_
  change am_At _ _ _ 0 [_] [] _ _
  obtain ⟨M3, hw3, hyp⟩ := bd_some hyp
  try dsimp only at hyp
  refine eL_X12_blanks_0 (d := d) (h := h) g  FU M M3 hw3 ?_
  change am_At _ _ _ 26 [_] [] _ _
  cases hyp
  exact am_vret dX12_blanks_26 rfl
theorem ef_X12_by {d : Nat} {h : am_H} {x0 x1 x2 : Int32} {v : Int32} (hyp : f_X12_by x0 x1 x2 = some v) : am_Ev (d + 1) mX12_by [am_I x0, am_I x1, am_I x2] h (.inl (some (am_I v), h)) := by
  unfold f_X12_by at hyp
  refine am_Ev.mk (by decide +kernel) rfl rfl (Nat.le_refl _) (Nat.le_refl _) ?_
  change am_At _ _ _ 0 [_, _, _] [] _ _
  refine am_iload_n dX12_by_0 rfl ?_
  by_cases hc1 : x0 = (2 : Int32)
  · refine am_tabIn (39) 40 dX12_by_1 (by rw [hc1]; decide) (by rw [hc1]; decide) (by rw [hc1]; rfl) rfl ?_
    replace hyp := it_pos hc1 hyp
    refine am_iload_n dX12_by_40 rfl ?_
    refine am_iload_n dX12_by_41 rfl ?_
    refine am_iadd dX12_by_42 ?_
    cases hyp
    exact am_iret dX12_by_43 rfl
  · have hc1n := hc1
    replace hyp := it_neg hc1n hyp
    by_cases hc2 : x0 = (3 : Int32)
    · refine am_tabIn (43) 44 dX12_by_1 (by rw [hc2]; decide) (by rw [hc2]; decide) (by rw [hc2]; rfl) rfl ?_
      replace hyp := it_pos hc2 hyp
      refine am_iload_n dX12_by_44 rfl ?_
      refine am_iload_n dX12_by_45 rfl ?_
      refine am_isub dX12_by_46 ?_
      cases hyp
      exact am_iret dX12_by_47 rfl
    · have hc2n := hc2
      replace hyp := it_neg hc2n hyp
      by_cases hc3 : x0 = (4 : Int32)
      · refine am_tabIn (47) 48 dX12_by_1 (by rw [hc3]; decide) (by rw [hc3]; decide) (by rw [hc3]; rfl) rfl ?_
        replace hyp := it_pos hc3 hyp
        refine am_iload_n dX12_by_48 rfl ?_
        refine am_iload_n dX12_by_49 rfl ?_
        refine am_imul dX12_by_50 ?_
        cases hyp
        exact am_iret dX12_by_51 rfl
      · have hc3n := hc3
        replace hyp := it_neg hc3n hyp
        by_cases hc4 : x0 = (5 : Int32)
        · refine am_tabIn (51) 52 dX12_by_1 (by rw [hc4]; decide) (by rw [hc4]; decide) (by rw [hc4]; rfl) rfl ?_
          replace hyp := it_pos hc4 hyp
          refine am_iload_n dX12_by_52 rfl ?_
          refine am_if_ne (7) 60 dX12_by_53 rfl ?_ ?_
          · intro hc5n
            have hc5n : ¬ (x2 = 0) := hc5n
            replace hyp := it_neg hc5n hyp
            refine am_iload_n dX12_by_60 rfl ?_
            refine am_iconst (-1) (v := (-1)) dX12_by_61 (by decide) ?_
            refine am_icmp_ne (8) 70 dX12_by_62 rfl ?_ ?_
            · intro hc6n
              have hc6n : ¬ (x2 = (-1 : Int32)) := hc6n
              replace hyp := it_neg hc6n hyp
              refine am_iload_n dX12_by_70 rfl ?_
              refine am_iload_n dX12_by_71 rfl ?_
              obtain ⟨hg7, hyp⟩ := gd_some hyp
              refine am_idiv dX12_by_72 hg7 ?_
              cases hyp
              exact am_iret dX12_by_73 rfl
            · intro hc6
              have hc6 : x2 = (-1 : Int32) := hc6
              replace hyp := it_pos hc6 hyp
              refine am_iload_n dX12_by_65 rfl ?_
              refine am_ineg dX12_by_66 ?_
              refine am_goto (6) 73 dX12_by_67 rfl ?_
              cases hyp
              exact am_iret dX12_by_73 rfl
          · intro hc5
            have hc5 : x2 = 0 := hc5
            replace hyp := it_pos hc5 hyp
            refine am_iconst 0 (v := 0) dX12_by_56 (by decide) ?_
            refine am_goto (16) 73 dX12_by_57 rfl ?_
            cases hyp
            exact am_iret dX12_by_73 rfl
        · have hc4n := hc4
          replace hyp := it_neg hc4n hyp
          by_cases hc8 : x0 = (6 : Int32)
          · refine am_tabIn (73) 74 dX12_by_1 (by rw [hc8]; decide) (by rw [hc8]; decide) (by rw [hc8]; rfl) rfl ?_
            replace hyp := it_pos hc8 hyp
            refine am_iload_n dX12_by_74 rfl ?_
            refine am_if_eq (8) 83 dX12_by_75 rfl ?_ ?_
            · intro hc9
              have hc9 : x2 = 0 := hc9
              replace hyp := it_pos hc9 hyp
              refine am_iconst 0 (v := 0) dX12_by_83 (by decide) ?_
              refine am_goto (6) 90 dX12_by_84 rfl ?_
              cases hyp
              exact am_iret dX12_by_90 rfl
            · intro hc9n
              have hc9n : ¬ (x2 = 0) := hc9n
              replace hyp := it_neg hc9n hyp
              refine am_iload_n dX12_by_78 rfl ?_
              refine am_iconst (-1) (v := (-1)) dX12_by_79 (by decide) ?_
              refine am_icmp_ne (7) 87 dX12_by_80 rfl ?_ ?_
              · intro hc10n
                have hc10n : ¬ (x2 = (-1 : Int32)) := hc10n
                replace hyp := it_neg hc10n hyp
                refine am_iload_n dX12_by_87 rfl ?_
                refine am_iload_n dX12_by_88 rfl ?_
                obtain ⟨hg11, hyp⟩ := gd_some hyp
                refine am_irem dX12_by_89 hg11 ?_
                cases hyp
                exact am_iret dX12_by_90 rfl
              · intro hc10
                have hc10 : x2 = (-1 : Int32) := hc10
                replace hyp := it_pos hc10 hyp
                refine am_iconst 0 (v := 0) dX12_by_83 (by decide) ?_
                refine am_goto (6) 90 dX12_by_84 rfl ?_
                cases hyp
                exact am_iret dX12_by_90 rfl
          · have hc8n := hc8
            replace hyp := it_neg hc8n hyp
            by_cases hc12 : x0 = (7 : Int32)
            · refine am_tabIn (90) 91 dX12_by_1 (by rw [hc12]; decide) (by rw [hc12]; decide) (by rw [hc12]; rfl) rfl ?_
              replace hyp := it_pos hc12 hyp
              refine am_iload_n dX12_by_91 rfl ?_
              refine am_iload_n dX12_by_92 rfl ?_
              refine am_callS (c := 0) (k := 0) (n := 0) (w := 0) [_, _] dX12_by_93 ml_X12_239 sm_X12_less rfl (fun _ => Nat.le_of_ble_eq_true rfl) (by omega) rfl (ef_X12_less (d := d + 0) (h := h) (x0 := x1) (x1 := x2)  rfl) rfl ?_
              change am_At _ _ _ 96 [_, _, _] [_] _ _
              cases hyp
              exact am_iret dX12_by_96 rfl
            · have hc12n := hc12
              replace hyp := it_neg hc12n hyp
              refine am_tabOut 97 dX12_by_1 (by have q0 := lv_neT (a := 2) hc1n (by decide); have q1 := lv_neT (a := 3) hc2n (by decide); have q2 := lv_neT (a := 4) hc3n (by decide); have q3 := lv_neT (a := 5) hc4n (by decide); have q4 := lv_neT (a := 6) hc8n (by decide); have q5 := lv_neT (a := 7) hc12n (by decide); omega) rfl ?_
              refine am_iload_n dX12_by_97 rfl ?_
              refine am_iload_n dX12_by_98 rfl ?_
              refine am_callS (c := 0) (k := 0) (n := 0) (w := 0) [_, _] dX12_by_99 ml_X12_242 sm_X12_more rfl (fun _ => Nat.le_of_ble_eq_true rfl) (by omega) rfl (ef_X12_more (d := d + 0) (h := h) (x0 := x1) (x1 := x2)  rfl) rfl ?_
              change am_At _ _ _ 102 [_, _, _] [_] _ _
              cases hyp
              exact am_iret dX12_by_102 rfl
theorem eL_X12_byLaw_35 {d : Nat} {h : am_H} (g : lay h) {r : am_R} (n : Nat) : ∀ (s : Int32 × Int32 × Mem) (e : Mem), wh (L_X12_byLaw_35) n s = some e → ((fun (M : Mem) => am_At am_X0 (d + 2) mX12_byLaw 144 [some (.inr (54, 0)), none, none] [] (am_hM h M) r) e) → (match s with | (x1, x2, M) => am_At am_X0 (d + 2) mX12_byLaw 35 [some (.inr (54, 0)), some (am_I (x1)), some (am_I (x2))] [] (am_hM h M) r) := by
  refine am_wh (At := fun (s : Int32 × Int32 × Mem) => match s with | (x1, x2, M) => am_At am_X0 (d + 2) mX12_byLaw 35 [some (.inr (54, 0)), some (am_I (x1)), some (am_I (x2))] [] (am_hM h M) r) (Ex := fun (e : Mem) => (fun (M : Mem) => am_At am_X0 (d + 2) mX12_byLaw 144 [some (.inr (54, 0)), none, none] [] (am_hM h M) r) e) ?_ n
  rintro ⟨x1, x2, M⟩ y hyp hx
  unfold L_X12_byLaw_35 at hyp
  try dsimp only at hyp
  change am_At _ _ _ 35 [_, _, _] [] _ _
  refine am_iload_n dX12_byLaw_35 rfl ?_
  refine am_aload_n dX12_byLaw_36 rfl ?_
  refine am_getI 12 19 dX12_byLaw_37 fg_X12_196 (sh_54 g) (by decide) rfl ?_
  refine am_icmp_ge (104) 144 dX12_byLaw_40 rfl ?_ ?_
  · intro hc2
    have hc2 : (M 54 0 19) ≤ x2 := hc2
    replace hyp := it_pos hc2 hyp
    cases hyp
    refine am_At.drop 1 ?_
    refine am_At.drop 2 ?_
    exact hx
  · intro hc2n
    have hc2n : ¬ ((M 54 0 19) ≤ x2) := hc2n
    replace hyp := it_neg hc2n hyp
    refine am_aload_n dX12_byLaw_43 rfl ?_
    refine am_getR 12 21 65 dX12_byLaw_44 fg_X12_46 (sh_54 g) (by decide) rfl (rf_54_21 g) ?_
    refine am_iload_n dX12_byLaw_47 rfl ?_
    obtain ⟨hg3, hyp⟩ := gd_some hyp
    refine am_aald dX12_byLaw_48 (sh_65 g) (am_lit hg3) ?_
    refine am_iconst 0 (v := 0) dX12_byLaw_49 (by decide) ?_
    refine am_iald dX12_byLaw_50 (am_ia.row (sh_65 g) (by omega) (am_vlt (am_lit hg3))) (am_lit rfl) ?_
    refine am_iconst 2 (v := 2) dX12_byLaw_51 (by decide) ?_
    refine am_icmp_ge (50) 102 dX12_byLaw_52 rfl ?_ ?_
    · intro hc4
      have hc4 : (2 : Int32) ≤ (M 65 (x2.toNatClampNeg + 1) 0) := hc4
      replace hyp := it_pos hc4 hyp
      refine am_iinc dX12_byLaw_102 rfl (am_dx _) ?_
      change am_At _ _ _ 105 [_, _, _] [] _ _
      refine am_aload_n dX12_byLaw_105 rfl ?_
      refine am_getR 12 25 69 dX12_byLaw_106 fg_X12_58 (sh_54 g) (by decide) rfl (rf_54_25 g) ?_
      refine am_iload_n dX12_byLaw_109 rfl ?_
      refine am_iconst 1 (v := 1) dX12_byLaw_110 (by decide) ?_
      refine am_isub dX12_byLaw_111 ?_
      refine am_aload_n dX12_byLaw_112 rfl ?_
      refine am_getR 12 21 65 dX12_byLaw_113 fg_X12_46 (sh_54 g) (by decide) rfl (rf_54_21 g) ?_
      refine am_iload_n dX12_byLaw_116 rfl ?_
      refine am_aald dX12_byLaw_117 (sh_65 g) (am_lit hg3) ?_
      refine am_iconst 0 (v := 0) dX12_byLaw_118 (by decide) ?_
      refine am_iald dX12_byLaw_119 (am_ia.row (sh_65 g) (by omega) (am_vlt (am_lit hg3))) (am_lit rfl) ?_
      refine am_aload_n dX12_byLaw_120 rfl ?_
      refine am_getR 12 25 69 dX12_byLaw_121 fg_X12_58 (sh_54 g) (by decide) rfl (rf_54_25 g) ?_
      refine am_iload_n dX12_byLaw_124 rfl ?_
      refine am_iconst 1 (v := 1) dX12_byLaw_125 (by decide) ?_
      refine am_isub dX12_byLaw_126 ?_
      obtain ⟨hg5, hyp⟩ := gd_some hyp
      refine am_iald dX12_byLaw_127 (am_ia.one (sh_69 g)) (am_lit hg5) ?_
      refine am_aload_n dX12_byLaw_128 rfl ?_
      refine am_getR 12 25 69 dX12_byLaw_129 fg_X12_58 (sh_54 g) (by decide) rfl (rf_54_25 g) ?_
      refine am_iload_n dX12_byLaw_132 rfl ?_
      obtain ⟨hg6, hyp⟩ := gd_some hyp
      refine am_iald dX12_byLaw_133 (am_ia.one (sh_69 g)) (am_lit hg6) ?_
      obtain ⟨v7, hk7, hyp⟩ := bd_some hyp
      try dsimp only at hyp
      refine am_callS (c := 0) (k := 0) (n := 0) (w := 0) [_, _, _] dX12_byLaw_134 ml_X12_245 sm_X12_by rfl (fun _ => Nat.le_of_ble_eq_true rfl) (by omega) rfl (ef_X12_by (d := d + 0) (h := am_hM h M) hk7) rfl ?_
      change am_At _ _ _ 137 [_, _, _] [_, _, _] _ _
      refine am_iast dX12_byLaw_137 (am_ia.one (sh_69 g)) (am_lit hg5) ?_
      refine am_iinc dX12_byLaw_138 rfl (am_ix _) ?_
      change am_At _ _ _ 141 [_, _, _] [] _ _
      refine am_goto (-106) 35 dX12_byLaw_141 rfl ?_
      cases hyp
      exact hx
    · intro hc4n
      have hc4n : ¬ ((2 : Int32) ≤ (M 65 (x2.toNatClampNeg + 1) 0)) := hc4n
      replace hyp := it_neg hc4n hyp
      refine am_aload_n dX12_byLaw_55 rfl ?_
      refine am_getR 12 25 69 dX12_byLaw_56 fg_X12_58 (sh_54 g) (by decide) rfl (rf_54_25 g) ?_
      refine am_iload_n dX12_byLaw_59 rfl ?_
      refine am_aload_n dX12_byLaw_60 rfl ?_
      refine am_getR 12 21 65 dX12_byLaw_61 fg_X12_46 (sh_54 g) (by decide) rfl (rf_54_21 g) ?_
      refine am_iload_n dX12_byLaw_64 rfl ?_
      refine am_aald dX12_byLaw_65 (sh_65 g) (am_lit hg3) ?_
      refine am_iconst 0 (v := 0) dX12_byLaw_66 (by decide) ?_
      refine am_iald dX12_byLaw_67 (am_ia.row (sh_65 g) (by omega) (am_vlt (am_lit hg3))) (am_lit rfl) ?_
      refine am_if_ne (14) 82 dX12_byLaw_68 rfl ?_ ?_
      · intro hc8n
        have hc8n : ¬ ((M 65 (x2.toNatClampNeg + 1) 0) = 0) := hc8n
        replace hyp := it_neg hc8n hyp
        refine am_aload_n dX12_byLaw_82 rfl ?_
        refine am_getR 12 26 70 dX12_byLaw_83 fg_X12_61 (sh_54 g) (by decide) rfl (rf_54_26 g) ?_
        refine am_aload_n dX12_byLaw_86 rfl ?_
        refine am_getR 12 21 65 dX12_byLaw_87 fg_X12_46 (sh_54 g) (by decide) rfl (rf_54_21 g) ?_
        refine am_iload_n dX12_byLaw_90 rfl ?_
        refine am_aald dX12_byLaw_91 (sh_65 g) (am_lit hg3) ?_
        refine am_iconst 1 (v := 1) dX12_byLaw_92 (by decide) ?_
        refine am_iald dX12_byLaw_93 (am_ia.row (sh_65 g) (by omega) (am_vlt (am_lit hg3))) (am_lit rfl) ?_
        obtain ⟨hg9, hyp⟩ := gd_some hyp
        refine am_iald dX12_byLaw_94 (am_ia.one (sh_70 g)) (am_lit hg9) ?_
        obtain ⟨hg10, hyp⟩ := gd_some hyp
        refine am_iast dX12_byLaw_95 (am_ia.one (sh_69 g)) (am_lit hg10) ?_
        refine am_iinc dX12_byLaw_96 rfl (am_ix _) ?_
        change am_At _ _ _ 99 [_, _, _] [] _ _
        refine am_goto (39) 138 dX12_byLaw_99 rfl ?_
        refine am_iinc dX12_byLaw_138 rfl (am_ix _) ?_
        change am_At _ _ _ 141 [_, _, _] [] _ _
        refine am_goto (-106) 35 dX12_byLaw_141 rfl ?_
        cases hyp
        exact hx
      · intro hc8
        have hc8 : (M 65 (x2.toNatClampNeg + 1) 0) = 0 := hc8
        replace hyp := it_pos hc8 hyp
        refine am_aload_n dX12_byLaw_71 rfl ?_
        refine am_getR 12 21 65 dX12_byLaw_72 fg_X12_46 (sh_54 g) (by decide) rfl (rf_54_21 g) ?_
        refine am_iload_n dX12_byLaw_75 rfl ?_
        refine am_aald dX12_byLaw_76 (sh_65 g) (am_lit hg3) ?_
        refine am_iconst 1 (v := 1) dX12_byLaw_77 (by decide) ?_
        refine am_iald dX12_byLaw_78 (am_ia.row (sh_65 g) (by omega) (am_vlt (am_lit hg3))) (am_lit rfl) ?_
        refine am_goto (16) 95 dX12_byLaw_79 rfl ?_
        obtain ⟨hg11, hyp⟩ := gd_some hyp
        refine am_iast dX12_byLaw_95 (am_ia.one (sh_69 g)) (am_lit hg11) ?_
        refine am_iinc dX12_byLaw_96 rfl (am_ix _) ?_
        change am_At _ _ _ 99 [_, _, _] [] _ _
        refine am_goto (39) 138 dX12_byLaw_99 rfl ?_
        refine am_iinc dX12_byLaw_138 rfl (am_ix _) ?_
        change am_At _ _ _ 141 [_, _, _] [] _ _
        refine am_goto (-106) 35 dX12_byLaw_141 rfl ?_
        cases hyp
        exact hx
theorem ef_X12_byLaw {d : Nat} {h : am_H} (g : lay h) {M : Mem} {v : Int32} {M' : Mem} (hyp : f_X12_byLaw M = some (v, M')) : am_Ev (d + 2) mX12_byLaw [.inr (54, 0)] (am_hM h M) (.inl (some (am_I v), am_hM h M')) := by
  unfold f_X12_byLaw at hyp
  refine am_Ev.mk (by decide +kernel) rfl rfl (Nat.le_refl _) (Nat.le_refl _) ?_
  change am_At _ _ _ 0 [_, _, _] [] _ _
  refine am_aload_n dX12_byLaw_0 rfl ?_
  refine am_getI 12 19 dX12_byLaw_1 fg_X12_196 (sh_54 g) (by decide) rfl ?_
  refine am_if_ne (27) 31 dX12_byLaw_4 rfl ?_ ?_
  · intro hc1n
    have hc1n : ¬ ((M 54 0 19) = 0) := hc1n
    replace hyp := it_neg hc1n hyp
    refine am_iconst 0 (v := 0) dX12_byLaw_31 (by decide) ?_
    refine am_istore_n dX12_byLaw_32 (am_lb rfl) ?_
    change am_At _ _ _ 33 [_, _, _] [] _ _
    refine am_iconst 0 (v := 0) dX12_byLaw_33 (by decide) ?_
    refine am_istore_n dX12_byLaw_34 (am_lb rfl) ?_
    change am_At _ _ _ 35 [_, _, _] [] _ _
    obtain ⟨M12, hw12, hyp⟩ := bd_some hyp
    try dsimp only at hyp
    refine eL_X12_byLaw_35 (d := d) (h := h) g  FU ((0 : Int32), (0 : Int32), M) M12 hw12 ?_
    change am_At _ _ _ 144 [_, _, _] [] _ _
    refine am_aload_n dX12_byLaw_144 rfl ?_
    refine am_getR 12 25 69 dX12_byLaw_145 fg_X12_58 (sh_54 g) (by decide) rfl (rf_54_25 g) ?_
    refine am_iconst 0 (v := 0) dX12_byLaw_148 (by decide) ?_
    refine am_iald dX12_byLaw_149 (am_ia.one (sh_69 g)) (am_lit rfl) ?_
    cases hyp
    exact am_iret dX12_byLaw_150 rfl
  · intro hc1
    have hc1 : (M 54 0 19) = 0 := hc1
    replace hyp := it_pos hc1 hyp
    refine am_iconst 1 (v := 1) dX12_byLaw_7 (by decide) ?_
    refine am_aload_n dX12_byLaw_8 rfl ?_
    refine am_getR 12 26 70 dX12_byLaw_9 fg_X12_61 (sh_54 g) (by decide) rfl (rf_54_26 g) ?_
    refine am_iconst 0 (v := 0) dX12_byLaw_12 (by decide) ?_
    refine am_iald dX12_byLaw_13 (am_ia.one (sh_70 g)) (am_lit rfl) ?_
    refine am_bipush 12 (v := 12) dX12_byLaw_14 (by decide) ?_
    refine am_isub dX12_byLaw_16 ?_
    refine am_bipush 12 (v := 12) dX12_byLaw_17 (by decide) ?_
    refine am_aload_n dX12_byLaw_19 rfl ?_
    refine am_getR 12 26 70 dX12_byLaw_20 fg_X12_61 (sh_54 g) (by decide) rfl (rf_54_26 g) ?_
    refine am_iconst 0 (v := 0) dX12_byLaw_23 (by decide) ?_
    refine am_iald dX12_byLaw_24 (am_ia.one (sh_70 g)) (am_lit rfl) ?_
    refine am_isub dX12_byLaw_25 ?_
    refine am_callS (c := 0) (k := 0) (n := 0) (w := 0) [_, _] dX12_byLaw_26 ml_X12_242 sm_X12_more rfl (fun _ => Nat.le_of_ble_eq_true rfl) (by omega) rfl (ef_X12_more (d := d + 1) (h := am_hM h M) (x0 := ((M 70 0 0) - (12 : Int32))) (x1 := ((12 : Int32) - (M 70 0 0)))  rfl) rfl ?_
    change am_At _ _ _ 29 [_, _, _] [_, _] _ _
    refine am_isub dX12_byLaw_29 ?_
    cases hyp
    exact am_iret dX12_byLaw_30 rfl
theorem eL_X12_flood_80 {d : Nat} {h : am_H} (g : lay h) {x1 x2 x3 : Int32} {M : Mem} {r : am_R} (n : Nat) : ∀ (s : Int32 × Int32) (e : Int32), wh (L_X12_flood_80 x1 x3 M) n s = some e → ((fun (x4 : Int32) => am_At am_X0 (d + 2) mX12_flood 128 [some (.inr (54, 0)), some (am_I (x1)), some (am_I (x2)), some (am_I (x3)), some (am_I (x4)), none] [] (am_hM h M) r) e) → (match s with | (x4, x5) => am_At am_X0 (d + 2) mX12_flood 80 [some (.inr (54, 0)), some (am_I (x1)), some (am_I (x2)), some (am_I (x3)), some (am_I (x4)), some (am_I (x5))] [] (am_hM h M) r) := by
  refine am_wh (At := fun (s : Int32 × Int32) => match s with | (x4, x5) => am_At am_X0 (d + 2) mX12_flood 80 [some (.inr (54, 0)), some (am_I (x1)), some (am_I (x2)), some (am_I (x3)), some (am_I (x4)), some (am_I (x5))] [] (am_hM h M) r) (Ex := fun (e : Int32) => (fun (x4 : Int32) => am_At am_X0 (d + 2) mX12_flood 128 [some (.inr (54, 0)), some (am_I (x1)), some (am_I (x2)), some (am_I (x3)), some (am_I (x4)), none] [] (am_hM h M) r) e) ?_ n
  rintro ⟨x4, x5⟩ y hyp hx
  unfold L_X12_flood_80 at hyp
  try dsimp only at hyp
  change am_At _ _ _ 80 [_, _, _, _, _, _] [] _ _
  refine am_iload dX12_flood_80 rfl ?_
  refine am_aload_n dX12_flood_82 rfl ?_
  refine am_getR 12 12 58 dX12_flood_83 fg_X12_23 (sh_54 g) (by decide) rfl (rf_54_12 g) ?_
  refine am_iconst 2 (v := 2) dX12_flood_86 (by decide) ?_
  refine am_iald dX12_flood_87 (am_ia.one (sh_58 g)) (am_lit rfl) ?_
  refine am_icmp_ge (40) 128 dX12_flood_88 rfl ?_ ?_
  · intro hc6
    have hc6 : (M 58 0 2) ≤ x5 := hc6
    replace hyp := it_pos hc6 hyp
    cases hyp
    refine am_At.drop 5 ?_
    exact hx
  · intro hc6n
    have hc6n : ¬ ((M 58 0 2) ≤ x5) := hc6n
    replace hyp := it_neg hc6n hyp
    refine am_iload dX12_flood_91 rfl ?_
    refine am_if_eq (35) 128 dX12_flood_93 rfl ?_ ?_
    · intro hc7
      have hc7 : x4 = 0 := hc7
      replace hyp := it_pos hc7 hyp
      cases hyp
      refine am_At.drop 5 ?_
      exact hx
    · intro hc7n
      have hc7n : ¬ (x4 = 0) := hc7n
      replace hyp := it_neg hc7n hyp
      refine am_iload_n dX12_flood_96 rfl ?_
      refine am_iload dX12_flood_97 rfl ?_
      refine am_callS (c := 0) (k := 0) (n := 0) (w := 0) [_, _] dX12_flood_99 ml_X12_258 sm_X12_has rfl (fun _ => Nat.le_of_ble_eq_true rfl) (by omega) rfl (ef_X12_has (d := d + 1) (h := am_hM h M) (x0 := x1) (x1 := x5)  rfl) rfl ?_
      change am_At _ _ _ 102 [_, _, _, _, _, _] [_] _ _
      refine am_if_eq (13) 115 dX12_flood_102 rfl ?_ ?_
      · intro hc8
        have hc8 : (f_X12_has x1 x5) = 0 := hc8
        replace hyp := it_pos hc8 hyp
        refine am_iconst 1 (v := 1) dX12_flood_115 (by decide) ?_
        refine am_goto (4) 120 dX12_flood_116 rfl ?_
        refine am_istore dX12_flood_120 (am_lb rfl) ?_
        change am_At _ _ _ 122 [_, _, _, _, _, _] [] _ _
        refine am_iinc dX12_flood_122 rfl (am_ix _) ?_
        change am_At _ _ _ 125 [_, _, _, _, _, _] [] _ _
        refine am_goto (-45) 80 dX12_flood_125 rfl ?_
        cases hyp
        exact hx
      · intro hc8n
        have hc8n : ¬ ((f_X12_has x1 x5) = 0) := hc8n
        replace hyp := it_neg hc8n hyp
        refine am_aload_n dX12_flood_105 rfl ?_
        refine am_iload dX12_flood_106 rfl ?_
        refine am_iload_n dX12_flood_108 rfl ?_
        obtain ⟨v9, hk9, hyp⟩ := bd_some hyp
        try dsimp only at hyp
        refine am_callV [_, _] dX12_flood_109 ml_X12_330 vm_X12_isHolding (sh_54 g) rfl (fun _ => Nat.le_of_ble_eq_true rfl) (by omega) rfl (ef_X12_isHolding (d := d + 0) (h := h) g hk9) rfl ?_
        change am_At _ _ _ 112 [_, _, _, _, _, _] [_] _ _
        refine am_if_eq (7) 119 dX12_flood_112 rfl ?_ ?_
        · intro hc10
          have hc10 : v9 = 0 := hc10
          replace hyp := it_pos hc10 hyp
          refine am_iconst 0 (v := 0) dX12_flood_119 (by decide) ?_
          refine am_istore dX12_flood_120 (am_lb rfl) ?_
          change am_At _ _ _ 122 [_, _, _, _, _, _] [] _ _
          refine am_iinc dX12_flood_122 rfl (am_ix _) ?_
          change am_At _ _ _ 125 [_, _, _, _, _, _] [] _ _
          refine am_goto (-45) 80 dX12_flood_125 rfl ?_
          cases hyp
          exact hx
        · intro hc10n
          have hc10n : ¬ (v9 = 0) := hc10n
          replace hyp := it_neg hc10n hyp
          refine am_iconst 1 (v := 1) dX12_flood_115 (by decide) ?_
          refine am_goto (4) 120 dX12_flood_116 rfl ?_
          refine am_istore dX12_flood_120 (am_lb rfl) ?_
          change am_At _ _ _ 122 [_, _, _, _, _, _] [] _ _
          refine am_iinc dX12_flood_122 rfl (am_ix _) ?_
          change am_At _ _ _ 125 [_, _, _, _, _, _] [] _ _
          refine am_goto (-45) 80 dX12_flood_125 rfl ?_
          cases hyp
          exact hx
theorem eL_X12_flood_43 {d : Nat} {h : am_H} (g : lay h) {x1 : Int32} {M : Mem} {r : am_R} (n : Nat) : ∀ (s : Int32 × Int32) (e : Int32), wh (L_X12_flood_43 x1 M) n s = some e → ((fun (x2 : Int32) => am_At am_X0 (d + 2) mX12_flood 145 [some (.inr (54, 0)), some (am_I (x1)), some (am_I (x2)), none, none, none] [] (am_hM h M) r) e) → (match s with | (x2, x3) => am_At am_X0 (d + 2) mX12_flood 43 [some (.inr (54, 0)), some (am_I (x1)), some (am_I (x2)), some (am_I (x3)), none, none] [] (am_hM h M) r) := by
  refine am_wh (At := fun (s : Int32 × Int32) => match s with | (x2, x3) => am_At am_X0 (d + 2) mX12_flood 43 [some (.inr (54, 0)), some (am_I (x1)), some (am_I (x2)), some (am_I (x3)), none, none] [] (am_hM h M) r) (Ex := fun (e : Int32) => (fun (x2 : Int32) => am_At am_X0 (d + 2) mX12_flood 145 [some (.inr (54, 0)), some (am_I (x1)), some (am_I (x2)), none, none, none] [] (am_hM h M) r) e) ?_ n
  rintro ⟨x2, x3⟩ y hyp hx
  unfold L_X12_flood_43 at hyp
  try dsimp only at hyp
  change am_At _ _ _ 43 [_, _, _, _, _, _] [] _ _
  refine am_iload_n dX12_flood_43 rfl ?_
  refine am_iconst 1 (v := 1) dX12_flood_44 (by decide) ?_
  refine am_aload_n dX12_flood_45 rfl ?_
  refine am_getR 12 12 58 dX12_flood_46 fg_X12_23 (sh_54 g) (by decide) rfl (rf_54_12 g) ?_
  refine am_iconst 0 (v := 0) dX12_flood_49 (by decide) ?_
  refine am_iald dX12_flood_50 (am_ia.one (sh_58 g)) (am_lit rfl) ?_
  refine am_ishl dX12_flood_51 ?_
  refine am_icmp_ge (93) 145 dX12_flood_52 rfl ?_ ?_
  · intro hc4
    have hc4 : ((1 : Int32) <<< ((M 58 0 0) &&& 31)) ≤ x3 := hc4
    replace hyp := it_pos hc4 hyp
    cases hyp
    refine am_At.drop 3 ?_
    exact hx
  · intro hc4n
    have hc4n : ¬ (((1 : Int32) <<< ((M 58 0 0) &&& 31)) ≤ x3) := hc4n
    replace hyp := it_neg hc4n hyp
    refine am_iload_n dX12_flood_55 rfl ?_
    refine am_iconst (-1) (v := (-1)) dX12_flood_56 (by decide) ?_
    refine am_icmp_eq (17) 74 dX12_flood_57 rfl ?_ ?_
    · intro hc5
      have hc5 : x2 = (-1 : Int32) := hc5
      replace hyp := it_pos hc5 hyp
      refine am_iconst 1 (v := 1) dX12_flood_74 (by decide) ?_
      refine am_istore dX12_flood_75 (am_lb rfl) ?_
      change am_At _ _ _ 77 [_, _, _, _, _, _] [] _ _
      refine am_iconst 0 (v := 0) dX12_flood_77 (by decide) ?_
      refine am_istore dX12_flood_78 (am_lb rfl) ?_
      change am_At _ _ _ 80 [_, _, _, _, _, _] [] _ _
      obtain ⟨x4_11, hw11, hyp⟩ := bd_some hyp
      try dsimp only at hyp
      refine eL_X12_flood_80 (d := d) (h := h) g (M := M) FU ((1 : Int32), (0 : Int32)) x4_11 hw11 ?_
      change am_At _ _ _ 128 [_, _, _, _, _, _] [] _ _
      refine am_iload dX12_flood_128 rfl ?_
      refine am_if_eq (7) 137 dX12_flood_130 rfl ?_ ?_
      · intro hc12
        have hc12 : x4_11 = 0 := hc12
        replace hyp := it_pos hc12 hyp
        refine am_iload_n dX12_flood_137 rfl ?_
        refine am_istore_n dX12_flood_138 (am_lb rfl) ?_
        change am_At _ _ _ 139 [_, _, _, _, _, _] [] _ _
        refine am_iinc dX12_flood_139 rfl (am_ix _) ?_
        change am_At _ _ _ 142 [_, _, _, _, _, _] [] _ _
        refine am_goto (-99) 43 dX12_flood_142 rfl ?_
        cases hyp
        refine am_At.drop 4 ?_
        exact hx
      · intro hc12n
        have hc12n : ¬ (x4_11 = 0) := hc12n
        replace hyp := it_neg hc12n hyp
        refine am_iload_n dX12_flood_133 rfl ?_
        refine am_goto (4) 138 dX12_flood_134 rfl ?_
        refine am_istore_n dX12_flood_138 (am_lb rfl) ?_
        change am_At _ _ _ 139 [_, _, _, _, _, _] [] _ _
        refine am_iinc dX12_flood_139 rfl (am_ix _) ?_
        change am_At _ _ _ 142 [_, _, _, _, _, _] [] _ _
        refine am_goto (-99) 43 dX12_flood_142 rfl ?_
        cases hyp
        refine am_At.drop 4 ?_
        exact hx
    · intro hc5n
      have hc5n : ¬ (x2 = (-1 : Int32)) := hc5n
      replace hyp := it_neg hc5n hyp
      refine am_iload_n dX12_flood_60 rfl ?_
      obtain ⟨v13, hk13, hyp⟩ := bd_some hyp
      try dsimp only at hyp
      refine am_callS (c := 0) (k := 0) (n := 0) (w := 0) [_] dX12_flood_61 ml_X12_318 sm_X12_ones rfl (fun _ => Nat.le_of_ble_eq_true rfl) (by omega) rfl (ef_X12_ones (d := d + 1) (h := am_hM h M) hk13) rfl ?_
      change am_At _ _ _ 64 [_, _, _, _, _, _] [_] _ _
      refine am_iload_n dX12_flood_64 rfl ?_
      obtain ⟨v14, hk14, hyp⟩ := bd_some hyp
      try dsimp only at hyp
      refine am_callS (c := 0) (k := 0) (n := 0) (w := 0) [_] dX12_flood_65 ml_X12_318 sm_X12_ones rfl (fun _ => Nat.le_of_ble_eq_true rfl) (by omega) rfl (ef_X12_ones (d := d + 1) (h := am_hM h M) hk14) rfl ?_
      change am_At _ _ _ 68 [_, _, _, _, _, _] [_, _] _ _
      refine am_icmp_lt (6) 74 dX12_flood_68 rfl ?_ ?_
      · intro hc15
        have hc15 : v13 < v14 := hc15
        replace hyp := it_pos hc15 hyp
        refine am_iconst 1 (v := 1) dX12_flood_74 (by decide) ?_
        refine am_istore dX12_flood_75 (am_lb rfl) ?_
        change am_At _ _ _ 77 [_, _, _, _, _, _] [] _ _
        refine am_iconst 0 (v := 0) dX12_flood_77 (by decide) ?_
        refine am_istore dX12_flood_78 (am_lb rfl) ?_
        change am_At _ _ _ 80 [_, _, _, _, _, _] [] _ _
        obtain ⟨x4_16, hw16, hyp⟩ := bd_some hyp
        try dsimp only at hyp
        refine eL_X12_flood_80 (d := d) (h := h) g (M := M) FU ((1 : Int32), (0 : Int32)) x4_16 hw16 ?_
        change am_At _ _ _ 128 [_, _, _, _, _, _] [] _ _
        refine am_iload dX12_flood_128 rfl ?_
        refine am_if_eq (7) 137 dX12_flood_130 rfl ?_ ?_
        · intro hc17
          have hc17 : x4_16 = 0 := hc17
          replace hyp := it_pos hc17 hyp
          refine am_iload_n dX12_flood_137 rfl ?_
          refine am_istore_n dX12_flood_138 (am_lb rfl) ?_
          change am_At _ _ _ 139 [_, _, _, _, _, _] [] _ _
          refine am_iinc dX12_flood_139 rfl (am_ix _) ?_
          change am_At _ _ _ 142 [_, _, _, _, _, _] [] _ _
          refine am_goto (-99) 43 dX12_flood_142 rfl ?_
          cases hyp
          refine am_At.drop 4 ?_
          exact hx
        · intro hc17n
          have hc17n : ¬ (x4_16 = 0) := hc17n
          replace hyp := it_neg hc17n hyp
          refine am_iload_n dX12_flood_133 rfl ?_
          refine am_goto (4) 138 dX12_flood_134 rfl ?_
          refine am_istore_n dX12_flood_138 (am_lb rfl) ?_
          change am_At _ _ _ 139 [_, _, _, _, _, _] [] _ _
          refine am_iinc dX12_flood_139 rfl (am_ix _) ?_
          change am_At _ _ _ 142 [_, _, _, _, _, _] [] _ _
          refine am_goto (-99) 43 dX12_flood_142 rfl ?_
          cases hyp
          refine am_At.drop 4 ?_
          exact hx
      · intro hc15n
        have hc15n : ¬ (v13 < v14) := hc15n
        replace hyp := it_neg hc15n hyp
        refine am_goto (68) 139 dX12_flood_71 rfl ?_
        refine am_iinc dX12_flood_139 rfl (am_ix _) ?_
        change am_At _ _ _ 142 [_, _, _, _, _, _] [] _ _
        refine am_goto (-99) 43 dX12_flood_142 rfl ?_
        cases hyp
        exact hx
theorem ef_X12_flood {d : Nat} {h : am_H} (g : lay h) {x1 : Int32} {M : Mem} {v : Int32} {M' : Mem} (hyp : f_X12_flood x1 M = some (v, M')) : am_Ev (d + 2) mX12_flood [.inr (54, 0), am_I x1] (am_hM h M) (.inl (some (am_I v), am_hM h M')) := by
  unfold f_X12_flood at hyp
  refine am_Ev.mk (by decide +kernel) rfl rfl (Nat.le_refl _) (Nat.le_refl _) ?_
  change am_At _ _ _ 0 [_, _, _, _, _, _] [] _ _
  refine am_aload_n dX12_flood_0 rfl ?_
  refine am_iconst 0 (v := 0) dX12_flood_1 (by decide) ?_
  refine am_putI 12 0 dX12_flood_2 (Or.inl fp_X12_103) (sh_54 g) (by decide) rfl rfl rfl ?_
  refine am_aload_n dX12_flood_5 rfl ?_
  refine am_iload_n dX12_flood_6 rfl ?_
  refine am_iconst 0 (v := 0) dX12_flood_7 (by decide) ?_
  refine am_iconst 1 (v := 1) dX12_flood_8 (by decide) ?_
  refine am_aload_n dX12_flood_9 rfl ?_
  refine am_getR 12 12 58 dX12_flood_10 fg_X12_23 (sh_54 g) (by decide) rfl (rf_54_12 g) ?_
  refine am_iconst 2 (v := 2) dX12_flood_13 (by decide) ?_
  refine am_iald dX12_flood_14 (am_ia.one (sh_58 g)) (am_lit rfl) ?_
  refine am_ishl dX12_flood_15 ?_
  refine am_iconst 1 (v := 1) dX12_flood_16 (by decide) ?_
  refine am_isub dX12_flood_17 ?_
  refine am_callS (c := 0) (k := 0) (n := 0) (w := 0) [_, _, _] dX12_flood_18 ml_X12_137 sm_X12_in rfl (fun _ => Nat.le_of_ble_eq_true rfl) (by omega) rfl (ef_X12_in (d := d + 1) (h := am_hM h (am_u3 M 54 0 0 (0 : Int32))) (x0 := x1) (x1 := (0 : Int32)) (x2 := (((1 : Int32) <<< ((M 58 0 2) &&& 31)) - (1 : Int32)))  rfl) rfl ?_
  change am_At _ _ _ 21 [_, _, _, _, _, _] [_, _] _ _
  refine am_if_ne (7) 28 dX12_flood_21 rfl ?_ ?_
  · intro hc1n
    have hc1n : ¬ ((f_X12_in x1 (0 : Int32) (((1 : Int32) <<< ((M 58 0 2) &&& 31)) - (1 : Int32))) = 0) := hc1n
    replace hyp := it_neg hc1n hyp
    refine am_iconst 0 (v := 0) dX12_flood_28 (by decide) ?_
    refine am_iconst 1 (v := 1) dX12_flood_29 (by decide) ?_
    refine am_iconst 1 (v := 1) dX12_flood_30 (by decide) ?_
    obtain ⟨⟨v2, M2⟩, hk2, hyp⟩ := bd_some hyp
    try dsimp only at hyp
    refine am_callV [_, _, _] dX12_flood_31 ml_X12_179 vm_X12_bad (sh_54 g) rfl (fun _ => Nat.le_of_ble_eq_true rfl) (by omega) rfl (ef_X12_bad (d := d + 1) (h := h) g hk2) rfl ?_
    change am_At _ _ _ 34 [_, _, _, _, _, _] [_] _ _
    refine am_if_eq (5) 39 dX12_flood_34 rfl ?_ ?_
    · intro hc3
      have hc3 : v2 = 0 := hc3
      replace hyp := it_pos hc3 hyp
      refine am_iconst (-1) (v := (-1)) dX12_flood_39 (by decide) ?_
      refine am_istore_n dX12_flood_40 (am_lb rfl) ?_
      change am_At _ _ _ 41 [_, _, _, _, _, _] [] _ _
      refine am_iconst 0 (v := 0) dX12_flood_41 (by decide) ?_
      refine am_istore_n dX12_flood_42 (am_lb rfl) ?_
      change am_At _ _ _ 43 [_, _, _, _, _, _] [] _ _
      obtain ⟨x2_18, hw18, hyp⟩ := bd_some hyp
      try dsimp only at hyp
      refine eL_X12_flood_43 (d := d) (h := h) g (M := M2) FU ((-1 : Int32), (0 : Int32)) x2_18 hw18 ?_
      change am_At _ _ _ 145 [_, _, _, _, _, _] [] _ _
      refine am_iload_n dX12_flood_145 rfl ?_
      cases hyp
      exact am_iret dX12_flood_146 rfl
    · intro hc3n
      have hc3n : ¬ (v2 = 0) := hc3n
      replace hyp := it_neg hc3n hyp
      refine am_iconst 0 (v := 0) dX12_flood_37 (by decide) ?_
      cases hyp
      exact am_iret dX12_flood_38 rfl
  · intro hc1
    have hc1 : (f_X12_in x1 (0 : Int32) (((1 : Int32) <<< ((M 58 0 2) &&& 31)) - (1 : Int32))) = 0 := hc1
    replace hyp := it_pos hc1 hyp
    refine am_iconst 1 (v := 1) dX12_flood_24 (by decide) ?_
    refine am_goto (4) 29 dX12_flood_25 rfl ?_
    refine am_iconst 1 (v := 1) dX12_flood_29 (by decide) ?_
    refine am_iconst 1 (v := 1) dX12_flood_30 (by decide) ?_
    obtain ⟨⟨v19, M19⟩, hk19, hyp⟩ := bd_some hyp
    try dsimp only at hyp
    refine am_callV [_, _, _] dX12_flood_31 ml_X12_179 vm_X12_bad (sh_54 g) rfl (fun _ => Nat.le_of_ble_eq_true rfl) (by omega) rfl (ef_X12_bad (d := d + 1) (h := h) g hk19) rfl ?_
    change am_At _ _ _ 34 [_, _, _, _, _, _] [_] _ _
    refine am_if_eq (5) 39 dX12_flood_34 rfl ?_ ?_
    · intro hc20
      have hc20 : v19 = 0 := hc20
      replace hyp := it_pos hc20 hyp
      refine am_iconst (-1) (v := (-1)) dX12_flood_39 (by decide) ?_
      refine am_istore_n dX12_flood_40 (am_lb rfl) ?_
      change am_At _ _ _ 41 [_, _, _, _, _, _] [] _ _
      refine am_iconst 0 (v := 0) dX12_flood_41 (by decide) ?_
      refine am_istore_n dX12_flood_42 (am_lb rfl) ?_
      change am_At _ _ _ 43 [_, _, _, _, _, _] [] _ _
      obtain ⟨x2_21, hw21, hyp⟩ := bd_some hyp
      try dsimp only at hyp
      refine eL_X12_flood_43 (d := d) (h := h) g (M := M19) FU ((-1 : Int32), (0 : Int32)) x2_21 hw21 ?_
      change am_At _ _ _ 145 [_, _, _, _, _, _] [] _ _
      refine am_iload_n dX12_flood_145 rfl ?_
      cases hyp
      exact am_iret dX12_flood_146 rfl
    · intro hc20n
      have hc20n : ¬ (v19 = 0) := hc20n
      replace hyp := it_neg hc20n hyp
      refine am_iconst 0 (v := 0) dX12_flood_37 (by decide) ?_
      cases hyp
      exact am_iret dX12_flood_38 rfl
theorem eL_X12_holds_33 {d : Nat} {h : am_H} (g : lay h) {x1 : Int32} {M : Mem} {r : am_R} (n : Nat) : ∀ (s : Int32 × Int32) (e : Int32), wh (L_X12_holds_33 x1 M) n s = some e → ((fun (x2 : Int32) => am_At am_X0 (d + 2) mX12_holds 68 [some (.inr (54, 0)), some (am_I (x1)), some (am_I (x2)), none] [] (am_hM h M) r) e) → (match s with | (x2, x3) => am_At am_X0 (d + 2) mX12_holds 33 [some (.inr (54, 0)), some (am_I (x1)), some (am_I (x2)), some (am_I (x3))] [] (am_hM h M) r) := by
  refine am_wh (At := fun (s : Int32 × Int32) => match s with | (x2, x3) => am_At am_X0 (d + 2) mX12_holds 33 [some (.inr (54, 0)), some (am_I (x1)), some (am_I (x2)), some (am_I (x3))] [] (am_hM h M) r) (Ex := fun (e : Int32) => (fun (x2 : Int32) => am_At am_X0 (d + 2) mX12_holds 68 [some (.inr (54, 0)), some (am_I (x1)), some (am_I (x2)), none] [] (am_hM h M) r) e) ?_ n
  rintro ⟨x2, x3⟩ y hyp hx
  unfold L_X12_holds_33 at hyp
  try dsimp only at hyp
  change am_At _ _ _ 33 [_, _, _, _] [] _ _
  refine am_iload_n dX12_holds_33 rfl ?_
  refine am_aload_n dX12_holds_34 rfl ?_
  refine am_getR 12 12 58 dX12_holds_35 fg_X12_23 (sh_54 g) (by decide) rfl (rf_54_12 g) ?_
  refine am_iconst 2 (v := 2) dX12_holds_38 (by decide) ?_
  refine am_iald dX12_holds_39 (am_ia.one (sh_58 g)) (am_lit rfl) ?_
  refine am_icmp_ge (28) 68 dX12_holds_40 rfl ?_ ?_
  · intro hc4
    have hc4 : (M 58 0 2) ≤ x3 := hc4
    replace hyp := it_pos hc4 hyp
    cases hyp
    refine am_At.drop 3 ?_
    exact hx
  · intro hc4n
    have hc4n : ¬ ((M 58 0 2) ≤ x3) := hc4n
    replace hyp := it_neg hc4n hyp
    refine am_iload_n dX12_holds_43 rfl ?_
    refine am_aload_n dX12_holds_44 rfl ?_
    refine am_iload_n dX12_holds_45 rfl ?_
    refine am_iload_n dX12_holds_46 rfl ?_
    obtain ⟨v5, hk5, hyp⟩ := bd_some hyp
    try dsimp only at hyp
    refine am_callV [_, _] dX12_holds_47 ml_X12_330 vm_X12_isHolding (sh_54 g) rfl (fun _ => Nat.le_of_ble_eq_true rfl) (by omega) rfl (ef_X12_isHolding (d := d + 0) (h := h) g hk5) rfl ?_
    change am_At _ _ _ 50 [_, _, _, _] [_, _] _ _
    refine am_if_eq (9) 59 dX12_holds_50 rfl ?_ ?_
    · intro hc6
      have hc6 : v5 = 0 := hc6
      replace hyp := it_pos hc6 hyp
      refine am_iconst 0 (v := 0) dX12_holds_59 (by decide) ?_
      refine am_ior dX12_holds_60 ?_
      refine am_istore_n dX12_holds_61 (am_lb rfl) ?_
      change am_At _ _ _ 62 [_, _, _, _] [] _ _
      refine am_iinc dX12_holds_62 rfl (am_ix _) ?_
      change am_At _ _ _ 65 [_, _, _, _] [] _ _
      refine am_goto (-32) 33 dX12_holds_65 rfl ?_
      cases hyp
      exact hx
    · intro hc6n
      have hc6n : ¬ (v5 = 0) := hc6n
      replace hyp := it_neg hc6n hyp
      refine am_iconst 1 (v := 1) dX12_holds_53 (by decide) ?_
      refine am_iload_n dX12_holds_54 rfl ?_
      refine am_ishl dX12_holds_55 ?_
      refine am_goto (4) 60 dX12_holds_56 rfl ?_
      refine am_ior dX12_holds_60 ?_
      refine am_istore_n dX12_holds_61 (am_lb rfl) ?_
      change am_At _ _ _ 62 [_, _, _, _] [] _ _
      refine am_iinc dX12_holds_62 rfl (am_ix _) ?_
      change am_At _ _ _ 65 [_, _, _, _] [] _ _
      refine am_goto (-32) 33 dX12_holds_65 rfl ?_
      cases hyp
      exact hx
theorem ef_X12_holds {d : Nat} {h : am_H} (g : lay h) {x1 : Int32} {M : Mem} {v : Int32} {M' : Mem} (hyp : f_X12_holds x1 M = some (v, M')) : am_Ev (d + 2) mX12_holds [.inr (54, 0), am_I x1] (am_hM h M) (.inl (some (am_I v), am_hM h M')) := by
  unfold f_X12_holds at hyp
  refine am_Ev.mk (by decide +kernel) rfl rfl (Nat.le_refl _) (Nat.le_refl _) ?_
  change am_At _ _ _ 0 [_, _, _, _] [] _ _
  refine am_aload_n dX12_holds_0 rfl ?_
  refine am_iconst 0 (v := 0) dX12_holds_1 (by decide) ?_
  refine am_putI 12 0 dX12_holds_2 (Or.inl fp_X12_103) (sh_54 g) (by decide) rfl rfl rfl ?_
  refine am_aload_n dX12_holds_5 rfl ?_
  refine am_aload_n dX12_holds_6 rfl ?_
  refine am_iload_n dX12_holds_7 rfl ?_
  refine am_callV [_] dX12_holds_8 ml_X12_342 vm_X12_areBoards (sh_54 g) rfl (fun _ => Nat.le_of_ble_eq_true rfl) (by omega) rfl (ef_X12_areBoards (d := d + 0) (h := h) g (x1 := x1) (M := (am_u3 M 54 0 0 (0 : Int32))) rfl) rfl ?_
  change am_At _ _ _ 11 [_, _, _, _] [_, _] _ _
  refine am_if_ne (7) 18 dX12_holds_11 rfl ?_ ?_
  · intro hc1n
    have hc1n : ¬ ((f_X12_in x1 (0 : Int32) (((1 : Int32) <<< (((am_u3 M 54 0 0 (0 : Int32)) 58 0 0) &&& 31)) - (1 : Int32))) = 0) := hc1n
    replace hyp := it_neg hc1n hyp
    refine am_iconst 0 (v := 0) dX12_holds_18 (by decide) ?_
    refine am_iconst 1 (v := 1) dX12_holds_19 (by decide) ?_
    refine am_iconst 1 (v := 1) dX12_holds_20 (by decide) ?_
    obtain ⟨⟨v2, M2⟩, hk2, hyp⟩ := bd_some hyp
    try dsimp only at hyp
    refine am_callV [_, _, _] dX12_holds_21 ml_X12_179 vm_X12_bad (sh_54 g) rfl (fun _ => Nat.le_of_ble_eq_true rfl) (by omega) rfl (ef_X12_bad (d := d + 1) (h := h) g hk2) rfl ?_
    change am_At _ _ _ 24 [_, _, _, _] [_] _ _
    refine am_if_eq (5) 29 dX12_holds_24 rfl ?_ ?_
    · intro hc3
      have hc3 : v2 = 0 := hc3
      replace hyp := it_pos hc3 hyp
      refine am_iconst 0 (v := 0) dX12_holds_29 (by decide) ?_
      refine am_istore_n dX12_holds_30 (am_lb rfl) ?_
      change am_At _ _ _ 31 [_, _, _, _] [] _ _
      refine am_iconst 0 (v := 0) dX12_holds_31 (by decide) ?_
      refine am_istore_n dX12_holds_32 (am_lb rfl) ?_
      change am_At _ _ _ 33 [_, _, _, _] [] _ _
      obtain ⟨x2_7, hw7, hyp⟩ := bd_some hyp
      try dsimp only at hyp
      refine eL_X12_holds_33 (d := d) (h := h) g (M := M2) FU ((0 : Int32), (0 : Int32)) x2_7 hw7 ?_
      change am_At _ _ _ 68 [_, _, _, _] [] _ _
      refine am_iload_n dX12_holds_68 rfl ?_
      cases hyp
      exact am_iret dX12_holds_69 rfl
    · intro hc3n
      have hc3n : ¬ (v2 = 0) := hc3n
      replace hyp := it_neg hc3n hyp
      refine am_iconst 0 (v := 0) dX12_holds_27 (by decide) ?_
      cases hyp
      exact am_iret dX12_holds_28 rfl
  · intro hc1
    have hc1 : (f_X12_in x1 (0 : Int32) (((1 : Int32) <<< (((am_u3 M 54 0 0 (0 : Int32)) 58 0 0) &&& 31)) - (1 : Int32))) = 0 := hc1
    replace hyp := it_pos hc1 hyp
    refine am_iconst 1 (v := 1) dX12_holds_14 (by decide) ?_
    refine am_goto (4) 19 dX12_holds_15 rfl ?_
    refine am_iconst 1 (v := 1) dX12_holds_19 (by decide) ?_
    refine am_iconst 1 (v := 1) dX12_holds_20 (by decide) ?_
    obtain ⟨⟨v8, M8⟩, hk8, hyp⟩ := bd_some hyp
    try dsimp only at hyp
    refine am_callV [_, _, _] dX12_holds_21 ml_X12_179 vm_X12_bad (sh_54 g) rfl (fun _ => Nat.le_of_ble_eq_true rfl) (by omega) rfl (ef_X12_bad (d := d + 1) (h := h) g hk8) rfl ?_
    change am_At _ _ _ 24 [_, _, _, _] [_] _ _
    refine am_if_eq (5) 29 dX12_holds_24 rfl ?_ ?_
    · intro hc9
      have hc9 : v8 = 0 := hc9
      replace hyp := it_pos hc9 hyp
      refine am_iconst 0 (v := 0) dX12_holds_29 (by decide) ?_
      refine am_istore_n dX12_holds_30 (am_lb rfl) ?_
      change am_At _ _ _ 31 [_, _, _, _] [] _ _
      refine am_iconst 0 (v := 0) dX12_holds_31 (by decide) ?_
      refine am_istore_n dX12_holds_32 (am_lb rfl) ?_
      change am_At _ _ _ 33 [_, _, _, _] [] _ _
      obtain ⟨x2_10, hw10, hyp⟩ := bd_some hyp
      try dsimp only at hyp
      refine eL_X12_holds_33 (d := d) (h := h) g (M := M8) FU ((0 : Int32), (0 : Int32)) x2_10 hw10 ?_
      change am_At _ _ _ 68 [_, _, _, _] [] _ _
      refine am_iload_n dX12_holds_68 rfl ?_
      cases hyp
      exact am_iret dX12_holds_69 rfl
    · intro hc9n
      have hc9n : ¬ (v8 = 0) := hc9n
      replace hyp := it_neg hc9n hyp
      refine am_iconst 0 (v := 0) dX12_holds_27 (by decide) ?_
      cases hyp
      exact am_iret dX12_holds_28 rfl
theorem ef_X12_image {d : Nat} {h : am_H} (g : lay h) {M : Mem} {v : Int32} {M' : Mem} (hyp : f_X12_image M = some (v, M')) : am_Ev (d + 2) mX12_image [.inr (54, 0)] (am_hM h M) (.inl (some (am_I v), am_hM h M')) := by
  unfold f_X12_image at hyp
  refine am_Ev.mk (by decide +kernel) rfl rfl (Nat.le_refl _) (Nat.le_refl _) ?_
  change am_At _ _ _ 0 [_] [] _ _
  refine am_aload_n dX12_image_0 rfl ?_
  refine am_iconst 0 (v := 0) dX12_image_1 (by decide) ?_
  refine am_putI 12 0 dX12_image_2 (Or.inl fp_X12_103) (sh_54 g) (by decide) rfl rfl rfl ?_
  refine am_aload_n dX12_image_5 rfl ?_
  refine am_getI 12 37 dX12_image_6 fg_X12_208 (sh_54 g) (by decide) rfl ?_
  refine am_iconst 3 (v := 3) dX12_image_9 (by decide) ?_
  refine am_icmp_ne (5) 15 dX12_image_10 rfl ?_ ?_
  · intro hc1n
    have hc1n : ¬ ((M 54 0 37) = (3 : Int32)) := hc1n
    replace hyp := it_neg hc1n hyp
    refine am_aload_n dX12_image_15 rfl ?_
    refine am_aload_n dX12_image_16 rfl ?_
    refine am_getR 12 33 76 dX12_image_17 fg_X12_79 (sh_54 g) (by decide) rfl (rf_54_33 g) ?_
    refine am_aload_n dX12_image_20 rfl ?_
    refine am_getI 12 37 dX12_image_21 fg_X12_208 (sh_54 g) (by decide) rfl ?_
    obtain ⟨hg2, hyp⟩ := gd_some hyp
    refine am_aald dX12_image_24 (sh_76 g) (am_lit hg2) ?_
    refine am_iconst 0 (v := 0) dX12_image_25 (by decide) ?_
    obtain ⟨M3, hk3, hyp⟩ := bd_some hyp
    try dsimp only at hyp
    refine am_callV [_, _] dX12_image_26 ml_X12_390 vm_X12_putsAll (sh_54 g) rfl (fun _ => Nat.le_of_ble_eq_true rfl) (by omega) rfl (ef_X12_putsAll (d := d + 0) (h := h) g ⟨Nat.succ_pos _, am_vlt (am_lit hg2)⟩ hk3) rfl ?_
    change am_At _ _ _ 29 [_] [] _ _
    refine am_aload_n dX12_image_29 rfl ?_
    refine am_dup dX12_image_30 (fun _ => rfl) ?_
    refine am_getI 12 37 dX12_image_31 fg_X12_208 (sh_54 g) (by decide) rfl ?_
    refine am_iconst 1 (v := 1) dX12_image_34 (by decide) ?_
    refine am_iadd dX12_image_35 ?_
    refine am_putI 12 37 dX12_image_36 (Or.inl fp_X12_208) (sh_54 g) (by decide) rfl rfl rfl ?_
    refine am_aload_n dX12_image_39 rfl ?_
    refine am_getI 12 37 dX12_image_40 fg_X12_208 (sh_54 g) (by decide) rfl ?_
    cases hyp
    exact am_iret dX12_image_43 rfl
  · intro hc1
    have hc1 : (M 54 0 37) = (3 : Int32) := hc1
    replace hyp := it_pos hc1 hyp
    refine am_iconst (-1) (v := (-1)) dX12_image_13 (by decide) ?_
    cases hyp
    exact am_iret dX12_image_14 rfl
theorem eL_X12_isLawful_24 {d : Nat} {h : am_H} (g : lay h) {x1 x4 : Int32} {r : am_R} (n : Nat) : ∀ (s : Int32 × Mem) (e : Mem), wh (L_X12_isLawful_24 x1) n s = some e → ((fun (M : Mem) => am_At am_X0 (d + 3) mX12_isLawful 54 [some (.inr (54, 0)), some (am_I (x1)), none, none, some (am_I (x4)), none] [] (am_hM h M) r) e) → (match s with | (x5, M) => am_At am_X0 (d + 3) mX12_isLawful 24 [some (.inr (54, 0)), some (am_I (x1)), none, none, some (am_I (x4)), some (am_I (x5))] [] (am_hM h M) r) := by
  refine am_wh (At := fun (s : Int32 × Mem) => match s with | (x5, M) => am_At am_X0 (d + 3) mX12_isLawful 24 [some (.inr (54, 0)), some (am_I (x1)), none, none, some (am_I (x4)), some (am_I (x5))] [] (am_hM h M) r) (Ex := fun (e : Mem) => (fun (M : Mem) => am_At am_X0 (d + 3) mX12_isLawful 54 [some (.inr (54, 0)), some (am_I (x1)), none, none, some (am_I (x4)), none] [] (am_hM h M) r) e) ?_ n
  rintro ⟨x5, M⟩ y hyp hx
  unfold L_X12_isLawful_24 at hyp
  try dsimp only at hyp
  change am_At _ _ _ 24 [_, _, _, _, _, _] [] _ _
  refine am_iload dX12_isLawful_24 rfl ?_
  refine am_iconst 4 (v := 4) dX12_isLawful_26 (by decide) ?_
  refine am_icmp_ge (27) 54 dX12_isLawful_27 rfl ?_ ?_
  · intro hc1
    have hc1 : (4 : Int32) ≤ x5 := hc1
    replace hyp := it_pos hc1 hyp
    cases hyp
    refine am_At.drop 5 ?_
    exact hx
  · intro hc1n
    have hc1n : ¬ ((4 : Int32) ≤ x5) := hc1n
    replace hyp := it_neg hc1n hyp
    refine am_aload_n dX12_isLawful_30 rfl ?_
    refine am_getR 12 26 70 dX12_isLawful_31 fg_X12_61 (sh_54 g) (by decide) rfl (rf_54_26 g) ?_
    refine am_iconst 3 (v := 3) dX12_isLawful_34 (by decide) ?_
    refine am_iload dX12_isLawful_35 rfl ?_
    refine am_iadd dX12_isLawful_37 ?_
    refine am_aload_n dX12_isLawful_38 rfl ?_
    refine am_getR 12 14 60 dX12_isLawful_39 fg_X12_31 (sh_54 g) (by decide) rfl (rf_54_14 g) ?_
    refine am_iload_n dX12_isLawful_42 rfl ?_
    obtain ⟨hg2, hyp⟩ := gd_some hyp
    refine am_aald dX12_isLawful_43 (sh_60 g) (am_lit hg2) ?_
    refine am_iload dX12_isLawful_44 rfl ?_
    obtain ⟨hg3, hyp⟩ := gd_some hyp
    refine am_iald dX12_isLawful_46 (am_ia.row (sh_60 g) (by omega) (am_vlt (am_lit hg2))) (am_lit hg3) ?_
    obtain ⟨hg4, hyp⟩ := gd_some hyp
    refine am_iast dX12_isLawful_47 (am_ia.one (sh_70 g)) (am_lit hg4) ?_
    refine am_iinc dX12_isLawful_48 rfl (am_ix _) ?_
    change am_At _ _ _ 51 [_, _, _, _, _, _] [] _ _
    refine am_goto (-27) 24 dX12_isLawful_51 rfl ?_
    cases hyp
    exact hx
theorem ef_X12_isLawful {d : Nat} {h : am_H} (g : lay h) {x1 x2 x3 x4 : Int32} {M : Mem} {v : Int32} {M' : Mem} (hyp : f_X12_isLawful x1 x2 x3 x4 M = some (v, M')) : am_Ev (d + 3) mX12_isLawful [.inr (54, 0), am_I x1, am_I x2, am_I x3, am_I x4] (am_hM h M) (.inl (some (am_I v), am_hM h M')) := by
  unfold f_X12_isLawful at hyp
  refine am_Ev.mk (by decide +kernel) rfl rfl (Nat.le_refl _) (Nat.le_refl _) ?_
  change am_At _ _ _ 0 [_, _, _, _, _, _] [] _ _
  refine am_aload_n dX12_isLawful_0 rfl ?_
  refine am_getR 12 26 70 dX12_isLawful_1 fg_X12_61 (sh_54 g) (by decide) rfl (rf_54_26 g) ?_
  refine am_iconst 0 (v := 0) dX12_isLawful_4 (by decide) ?_
  refine am_iload_n dX12_isLawful_5 rfl ?_
  refine am_iast dX12_isLawful_6 (am_ia.one (sh_70 g)) (am_lit rfl) ?_
  refine am_aload_n dX12_isLawful_7 rfl ?_
  refine am_getR 12 26 70 dX12_isLawful_8 fg_X12_61 (sh_54 g) (by decide) rfl (rf_54_26 g) ?_
  refine am_iconst 1 (v := 1) dX12_isLawful_11 (by decide) ?_
  refine am_iload_n dX12_isLawful_12 rfl ?_
  refine am_iast dX12_isLawful_13 (am_ia.one (sh_70 g)) (am_lit rfl) ?_
  refine am_aload_n dX12_isLawful_14 rfl ?_
  refine am_getR 12 26 70 dX12_isLawful_15 fg_X12_61 (sh_54 g) (by decide) rfl (rf_54_26 g) ?_
  refine am_iconst 2 (v := 2) dX12_isLawful_18 (by decide) ?_
  refine am_iload_n dX12_isLawful_19 rfl ?_
  refine am_iast dX12_isLawful_20 (am_ia.one (sh_70 g)) (am_lit rfl) ?_
  refine am_iconst 0 (v := 0) dX12_isLawful_21 (by decide) ?_
  refine am_istore dX12_isLawful_22 (am_lb rfl) ?_
  change am_At _ _ _ 24 [_, _, _, _, _, _] [] _ _
  obtain ⟨M5, hw5, hyp⟩ := bd_some hyp
  refine am_At.drop 2 ?_
  refine am_At.drop 3 ?_
  try dsimp only at hyp
  refine eL_X12_isLawful_24 (d := d) (h := h) g  FU ((0 : Int32), (am_u3 (am_u3 (am_u3 M 70 0 0 x2) 70 0 1 x3) 70 0 2 x1)) M5 hw5 ?_
  change am_At _ _ _ 54 [_, _, _, _, _, _] [] _ _
  refine am_aload_n dX12_isLawful_54 rfl ?_
  refine am_getR 12 26 70 dX12_isLawful_55 fg_X12_61 (sh_54 g) (by decide) rfl (rf_54_26 g) ?_
  refine am_bipush 7 (v := 7) dX12_isLawful_58 (by decide) ?_
  refine am_iload dX12_isLawful_60 rfl ?_
  refine am_iast dX12_isLawful_62 (am_ia.one (sh_70 g)) (am_lit rfl) ?_
  refine am_aload_n dX12_isLawful_63 rfl ?_
  obtain ⟨⟨v6, M6⟩, hk6, hyp⟩ := bd_some hyp
  try dsimp only at hyp
  refine am_callV [] dX12_isLawful_64 ml_X12_262 vm_X12_byLaw (sh_54 g) rfl (fun _ => Nat.le_of_ble_eq_true rfl) (by omega) rfl (ef_X12_byLaw (d := d + 0) (h := h) g hk6) rfl ?_
  change am_At _ _ _ 67 [_, _, _, _, _, _] [_] _ _
  refine am_if_le (7) 74 dX12_isLawful_67 rfl ?_ ?_
  · intro hc7
    have hc7 : v6 ≤ 0 := hc7
    replace hyp := it_pos hc7 hyp
    refine am_iconst 0 (v := 0) dX12_isLawful_74 (by decide) ?_
    cases hyp
    exact am_zret dX12_isLawful_75 rfl rfl
  · intro hc7n
    have hc7n : ¬ (v6 ≤ 0) := hc7n
    replace hyp := it_neg hc7n hyp
    refine am_iconst 1 (v := 1) dX12_isLawful_70 (by decide) ?_
    refine am_goto (4) 75 dX12_isLawful_71 rfl ?_
    cases hyp
    exact am_zret dX12_isLawful_75 rfl rfl
theorem eL_X12_isOpener_2 {d : Nat} {h : am_H} (g : lay h) {x1 : Int32} {M : Mem} {r : am_R} (n : Nat) : ∀ (s : Int32) (e : (Unit) ⊕ (Unit)), wh (L_X12_isOpener_2 x1 M) n s = some e → (match e with | (Sum.inl _) => am_At am_X0 (d + 2) mX12_isOpener 34 [some (.inr (54, 0)), some (am_I (x1)), none] [] (am_hM h M) r | (Sum.inr _) => am_At am_X0 (d + 2) mX12_isOpener 42 [some (.inr (54, 0)), some (am_I (x1)), none] [] (am_hM h M) r) → ((fun (x2 : Int32) => am_At am_X0 (d + 2) mX12_isOpener 2 [some (.inr (54, 0)), some (am_I (x1)), some (am_I (x2))] [] (am_hM h M) r) s) := by
  refine am_wh (At := fun (s : Int32) => (fun (x2 : Int32) => am_At am_X0 (d + 2) mX12_isOpener 2 [some (.inr (54, 0)), some (am_I (x1)), some (am_I (x2))] [] (am_hM h M) r) s) (Ex := fun (e : (Unit) ⊕ (Unit)) => match e with | (Sum.inl _) => am_At am_X0 (d + 2) mX12_isOpener 34 [some (.inr (54, 0)), some (am_I (x1)), none] [] (am_hM h M) r | (Sum.inr _) => am_At am_X0 (d + 2) mX12_isOpener 42 [some (.inr (54, 0)), some (am_I (x1)), none] [] (am_hM h M) r) ?_ n
  rintro x2 y hyp hx
  unfold L_X12_isOpener_2 at hyp
  try dsimp only at hyp
  change am_At _ _ _ 2 [_, _, _] [] _ _
  refine am_iload_n dX12_isOpener_2 rfl ?_
  refine am_aload_n dX12_isOpener_3 rfl ?_
  refine am_getI 12 34 dX12_isOpener_4 fg_X12_199 (sh_54 g) (by decide) rfl ?_
  refine am_icmp_ge (35) 42 dX12_isOpener_7 rfl ?_ ?_
  · intro hc1
    have hc1 : (M 54 0 34) ≤ x2 := hc1
    replace hyp := it_pos hc1 hyp
    cases hyp
    refine am_At.drop 2 ?_
    exact hx
  · intro hc1n
    have hc1n : ¬ ((M 54 0 34) ≤ x2) := hc1n
    replace hyp := it_neg hc1n hyp
    refine am_aload_n dX12_isOpener_10 rfl ?_
    refine am_aload_n dX12_isOpener_11 rfl ?_
    refine am_getR 12 23 67 dX12_isOpener_12 fg_X12_52 (sh_54 g) (by decide) rfl (rf_54_23 g) ?_
    refine am_iload_n dX12_isOpener_15 rfl ?_
    obtain ⟨hg2, hyp⟩ := gd_some hyp
    refine am_aald dX12_isOpener_16 (sh_67 g) (am_lit hg2) ?_
    refine am_iconst 0 (v := 0) dX12_isOpener_17 (by decide) ?_
    refine am_iald dX12_isOpener_18 (am_ia.row (sh_67 g) (by omega) (am_vlt (am_lit hg2))) (am_lit rfl) ?_
    refine am_iload_n dX12_isOpener_19 rfl ?_
    obtain ⟨v3, hk3, hyp⟩ := bd_some hyp
    try dsimp only at hyp
    refine am_callV [_, _] dX12_isOpener_20 ml_X12_345 vm_X12_smellAt (sh_54 g) rfl (fun _ => Nat.le_of_ble_eq_true rfl) (by omega) rfl (ef_X12_smellAt (d := d + 0) (h := h) g hk3) rfl ?_
    change am_At _ _ _ 23 [_, _, _] [_] _ _
    refine am_aload_n dX12_isOpener_23 rfl ?_
    refine am_getR 12 23 67 dX12_isOpener_24 fg_X12_52 (sh_54 g) (by decide) rfl (rf_54_23 g) ?_
    refine am_iload_n dX12_isOpener_27 rfl ?_
    refine am_aald dX12_isOpener_28 (sh_67 g) (am_lit hg2) ?_
    refine am_iconst 1 (v := 1) dX12_isOpener_29 (by decide) ?_
    refine am_iald dX12_isOpener_30 (am_ia.row (sh_67 g) (by omega) (am_vlt (am_lit hg2))) (am_lit rfl) ?_
    refine am_icmp_eq (5) 36 dX12_isOpener_31 rfl ?_ ?_
    · intro hc4
      have hc4 : v3 = (M 67 (x2.toNatClampNeg + 1) 1) := hc4
      replace hyp := it_pos hc4 hyp
      refine am_iinc dX12_isOpener_36 rfl (am_ix _) ?_
      change am_At _ _ _ 39 [_, _, _] [] _ _
      refine am_goto (-37) 2 dX12_isOpener_39 rfl ?_
      cases hyp
      exact hx
    · intro hc4n
      have hc4n : ¬ (v3 = (M 67 (x2.toNatClampNeg + 1) 1)) := hc4n
      replace hyp := it_neg hc4n hyp
      cases hyp
      refine am_At.drop 2 ?_
      exact hx
theorem ef_X12_isOpener {d : Nat} {h : am_H} (g : lay h) {x1 : Int32} {M : Mem} {v : Int32} (hyp : f_X12_isOpener x1 M = some v) : am_Ev (d + 2) mX12_isOpener [.inr (54, 0), am_I x1] (am_hM h M) (.inl (some (am_I v), am_hM h M)) := by
  unfold f_X12_isOpener at hyp
  refine am_Ev.mk (by decide +kernel) rfl rfl (Nat.le_refl _) (Nat.le_refl _) ?_
  change am_At _ _ _ 0 [_, _, _] [] _ _
  refine am_iconst 0 (v := 0) dX12_isOpener_0 (by decide) ?_
  refine am_istore_n dX12_isOpener_1 (am_lb rfl) ?_
  change am_At _ _ _ 2 [_, _, _] [] _ _
  obtain ⟨e5, hw5, hyp⟩ := bd_some hyp
  rcases e5 with _ | _
  · try dsimp only at hyp
    refine eL_X12_isOpener_2 (d := d) (h := h) g (M := M) FU (0 : Int32) (Sum.inl ()) hw5 ?_
    change am_At _ _ _ 34 [_, _, _] [] _ _
    refine am_iconst 0 (v := 0) dX12_isOpener_34 (by decide) ?_
    cases hyp
    exact am_zret dX12_isOpener_35 rfl rfl
  · try dsimp only at hyp
    refine eL_X12_isOpener_2 (d := d) (h := h) g (M := M) FU (0 : Int32) (Sum.inr ()) hw5 ?_
    change am_At _ _ _ 42 [_, _, _] [] _ _
    refine am_iconst 1 (v := 1) dX12_isOpener_42 (by decide) ?_
    cases hyp
    exact am_zret dX12_isOpener_43 rfl rfl
theorem ef_X12_lawful {d : Nat} {h : am_H} (g : lay h) {x1 x2 x3 : Int32} {M : Mem} {v : Int32} {M' : Mem} (hyp : f_X12_lawful x1 x2 x3 M = some (v, M')) : am_Ev (d + 4) mX12_lawful [.inr (54, 0), am_I x1, am_I x2, am_I x3] (am_hM h M) (.inl (some (am_I v), am_hM h M')) := by
  unfold f_X12_lawful at hyp
  refine am_Ev.mk (by decide +kernel) rfl rfl (Nat.le_refl _) (Nat.le_refl _) ?_
  change am_At _ _ _ 0 [_, _, _, _] [] _ _
  refine am_aload_n dX12_lawful_0 rfl ?_
  refine am_iconst 0 (v := 0) dX12_lawful_1 (by decide) ?_
  refine am_putI 12 0 dX12_lawful_2 (Or.inl fp_X12_103) (sh_54 g) (by decide) rfl rfl rfl ?_
  refine am_aload_n dX12_lawful_5 rfl ?_
  refine am_aload_n dX12_lawful_6 rfl ?_
  refine am_iload_n dX12_lawful_7 rfl ?_
  refine am_callV [_] dX12_lawful_8 ml_X12_327 vm_X12_isBoard (sh_54 g) rfl (fun _ => Nat.le_of_ble_eq_true rfl) (by omega) rfl (ef_X12_isBoard (d := d + 2) (h := h) g (x1 := x1) (M := (am_u3 M 54 0 0 (0 : Int32))) rfl) rfl ?_
  change am_At _ _ _ 11 [_, _, _, _] [_, _] _ _
  refine am_if_ne (7) 18 dX12_lawful_11 rfl ?_ ?_
  · intro hc1n
    have hc1n : ¬ ((f_X12_in x1 (0 : Int32) (((am_u3 M 54 0 0 (0 : Int32)) 58 0 0) - (1 : Int32))) = 0) := hc1n
    replace hyp := it_neg hc1n hyp
    refine am_iconst 0 (v := 0) dX12_lawful_18 (by decide) ?_
    refine am_iconst 1 (v := 1) dX12_lawful_19 (by decide) ?_
    refine am_iconst 0 (v := 0) dX12_lawful_20 (by decide) ?_
    obtain ⟨⟨v2, M2⟩, hk2, hyp⟩ := bd_some hyp
    try dsimp only at hyp
    refine am_callV [_, _, _] dX12_lawful_21 ml_X12_179 vm_X12_bad (sh_54 g) rfl (fun _ => Nat.le_of_ble_eq_true rfl) (by omega) rfl (ef_X12_bad (d := d + 3) (h := h) g hk2) rfl ?_
    change am_At _ _ _ 24 [_, _, _, _] [_] _ _
    refine am_if_ne (37) 61 dX12_lawful_24 rfl ?_ ?_
    · intro hc3n
      have hc3n : ¬ (v2 = 0) := hc3n
      replace hyp := it_neg hc3n hyp
      refine am_iconst 0 (v := 0) dX12_lawful_61 (by decide) ?_
      cases hyp
      exact am_zret dX12_lawful_62 rfl rfl
    · intro hc3
      have hc3 : v2 = 0 := hc3
      replace hyp := it_pos hc3 hyp
      refine am_aload_n dX12_lawful_27 rfl ?_
      refine am_iload_n dX12_lawful_28 rfl ?_
      refine am_iconst 0 (v := 0) dX12_lawful_29 (by decide) ?_
      refine am_bipush 23 (v := 23) dX12_lawful_30 (by decide) ?_
      refine am_callS (c := 0) (k := 0) (n := 0) (w := 0) [_, _, _] dX12_lawful_32 ml_X12_137 sm_X12_in rfl (fun _ => Nat.le_of_ble_eq_true rfl) (by omega) rfl (ef_X12_in (d := d + 3) (h := am_hM h M2) (x0 := x2) (x1 := (0 : Int32)) (x2 := (23 : Int32))  rfl) rfl ?_
      change am_At _ _ _ 35 [_, _, _, _] [_, _] _ _
      refine am_if_eq (13) 48 dX12_lawful_35 rfl ?_ ?_
      · intro hc4
        have hc4 : (f_X12_in x2 (0 : Int32) (23 : Int32)) = 0 := hc4
        replace hyp := it_pos hc4 hyp
        refine am_iconst 1 (v := 1) dX12_lawful_48 (by decide) ?_
        refine am_goto (4) 53 dX12_lawful_49 rfl ?_
        refine am_iconst 2 (v := 2) dX12_lawful_53 (by decide) ?_
        refine am_iconst 1 (v := 1) dX12_lawful_54 (by decide) ?_
        obtain ⟨⟨v5, M5⟩, hk5, hyp⟩ := bd_some hyp
        try dsimp only at hyp
        refine am_callV [_, _, _] dX12_lawful_55 ml_X12_179 vm_X12_bad (sh_54 g) rfl (fun _ => Nat.le_of_ble_eq_true rfl) (by omega) rfl (ef_X12_bad (d := d + 3) (h := h) g hk5) rfl ?_
        change am_At _ _ _ 58 [_, _, _, _] [_] _ _
        refine am_if_eq (5) 63 dX12_lawful_58 rfl ?_ ?_
        · intro hc6
          have hc6 : v5 = 0 := hc6
          replace hyp := it_pos hc6 hyp
          refine am_aload_n dX12_lawful_63 rfl ?_
          refine am_iload_n dX12_lawful_64 rfl ?_
          refine am_iload_n dX12_lawful_65 rfl ?_
          refine am_iload_n dX12_lawful_66 rfl ?_
          refine am_aload_n dX12_lawful_67 rfl ?_
          refine am_getR 12 29 72 dX12_lawful_68 fg_X12_67 (sh_54 g) (by decide) rfl (rf_54_29 g) ?_
          refine am_bipush 16 (v := 16) dX12_lawful_71 (by decide) ?_
          refine am_iload_n dX12_lawful_73 rfl ?_
          refine am_iadd dX12_lawful_74 ?_
          obtain ⟨hg7, hyp⟩ := gd_some hyp
          refine am_iald dX12_lawful_75 (am_ia.one (sh_72 g)) (am_lit hg7) ?_
          obtain ⟨⟨v8, M8⟩, hk8, hyp⟩ := bd_some hyp
          try dsimp only at hyp
          refine am_callV [_, _, _, _] dX12_lawful_76 ml_X12_265 vm_X12_isLawful (sh_54 g) rfl (fun _ => Nat.le_of_ble_eq_true rfl) (by omega) rfl (ef_X12_isLawful (d := d + 0) (h := h) g hk8) rfl ?_
          change am_At _ _ _ 79 [_, _, _, _] [_] _ _
          obtain ⟨hg9, hyp⟩ := gd_some hyp
          cases hyp
          exact am_zret dX12_lawful_79 rfl (isb_nf hg9).1
        · intro hc6n
          have hc6n : ¬ (v5 = 0) := hc6n
          replace hyp := it_neg hc6n hyp
          refine am_iconst 0 (v := 0) dX12_lawful_61 (by decide) ?_
          cases hyp
          exact am_zret dX12_lawful_62 rfl rfl
      · intro hc4n
        have hc4n : ¬ ((f_X12_in x2 (0 : Int32) (23 : Int32)) = 0) := hc4n
        replace hyp := it_neg hc4n hyp
        refine am_iload_n dX12_lawful_38 rfl ?_
        refine am_iconst 0 (v := 0) dX12_lawful_39 (by decide) ?_
        refine am_bipush 99 (v := 99) dX12_lawful_40 (by decide) ?_
        refine am_callS (c := 0) (k := 0) (n := 0) (w := 0) [_, _, _] dX12_lawful_42 ml_X12_137 sm_X12_in rfl (fun _ => Nat.le_of_ble_eq_true rfl) (by omega) rfl (ef_X12_in (d := d + 3) (h := am_hM h M2) (x0 := x3) (x1 := (0 : Int32)) (x2 := (99 : Int32))  rfl) rfl ?_
        change am_At _ _ _ 45 [_, _, _, _] [_, _] _ _
        refine am_if_ne (7) 52 dX12_lawful_45 rfl ?_ ?_
        · intro hc10n
          have hc10n : ¬ ((f_X12_in x3 (0 : Int32) (99 : Int32)) = 0) := hc10n
          replace hyp := it_neg hc10n hyp
          refine am_iconst 0 (v := 0) dX12_lawful_52 (by decide) ?_
          refine am_iconst 2 (v := 2) dX12_lawful_53 (by decide) ?_
          refine am_iconst 1 (v := 1) dX12_lawful_54 (by decide) ?_
          obtain ⟨⟨v11, M11⟩, hk11, hyp⟩ := bd_some hyp
          try dsimp only at hyp
          refine am_callV [_, _, _] dX12_lawful_55 ml_X12_179 vm_X12_bad (sh_54 g) rfl (fun _ => Nat.le_of_ble_eq_true rfl) (by omega) rfl (ef_X12_bad (d := d + 3) (h := h) g hk11) rfl ?_
          change am_At _ _ _ 58 [_, _, _, _] [_] _ _
          refine am_if_eq (5) 63 dX12_lawful_58 rfl ?_ ?_
          · intro hc12
            have hc12 : v11 = 0 := hc12
            replace hyp := it_pos hc12 hyp
            refine am_aload_n dX12_lawful_63 rfl ?_
            refine am_iload_n dX12_lawful_64 rfl ?_
            refine am_iload_n dX12_lawful_65 rfl ?_
            refine am_iload_n dX12_lawful_66 rfl ?_
            refine am_aload_n dX12_lawful_67 rfl ?_
            refine am_getR 12 29 72 dX12_lawful_68 fg_X12_67 (sh_54 g) (by decide) rfl (rf_54_29 g) ?_
            refine am_bipush 16 (v := 16) dX12_lawful_71 (by decide) ?_
            refine am_iload_n dX12_lawful_73 rfl ?_
            refine am_iadd dX12_lawful_74 ?_
            obtain ⟨hg13, hyp⟩ := gd_some hyp
            refine am_iald dX12_lawful_75 (am_ia.one (sh_72 g)) (am_lit hg13) ?_
            obtain ⟨⟨v14, M14⟩, hk14, hyp⟩ := bd_some hyp
            try dsimp only at hyp
            refine am_callV [_, _, _, _] dX12_lawful_76 ml_X12_265 vm_X12_isLawful (sh_54 g) rfl (fun _ => Nat.le_of_ble_eq_true rfl) (by omega) rfl (ef_X12_isLawful (d := d + 0) (h := h) g hk14) rfl ?_
            change am_At _ _ _ 79 [_, _, _, _] [_] _ _
            obtain ⟨hg15, hyp⟩ := gd_some hyp
            cases hyp
            exact am_zret dX12_lawful_79 rfl (isb_nf hg15).1
          · intro hc12n
            have hc12n : ¬ (v11 = 0) := hc12n
            replace hyp := it_neg hc12n hyp
            refine am_iconst 0 (v := 0) dX12_lawful_61 (by decide) ?_
            cases hyp
            exact am_zret dX12_lawful_62 rfl rfl
        · intro hc10
          have hc10 : (f_X12_in x3 (0 : Int32) (99 : Int32)) = 0 := hc10
          replace hyp := it_pos hc10 hyp
          refine am_iconst 1 (v := 1) dX12_lawful_48 (by decide) ?_
          refine am_goto (4) 53 dX12_lawful_49 rfl ?_
          refine am_iconst 2 (v := 2) dX12_lawful_53 (by decide) ?_
          refine am_iconst 1 (v := 1) dX12_lawful_54 (by decide) ?_
          obtain ⟨⟨v16, M16⟩, hk16, hyp⟩ := bd_some hyp
          try dsimp only at hyp
          refine am_callV [_, _, _] dX12_lawful_55 ml_X12_179 vm_X12_bad (sh_54 g) rfl (fun _ => Nat.le_of_ble_eq_true rfl) (by omega) rfl (ef_X12_bad (d := d + 3) (h := h) g hk16) rfl ?_
          change am_At _ _ _ 58 [_, _, _, _] [_] _ _
          refine am_if_eq (5) 63 dX12_lawful_58 rfl ?_ ?_
          · intro hc17
            have hc17 : v16 = 0 := hc17
            replace hyp := it_pos hc17 hyp
            refine am_aload_n dX12_lawful_63 rfl ?_
            refine am_iload_n dX12_lawful_64 rfl ?_
            refine am_iload_n dX12_lawful_65 rfl ?_
            refine am_iload_n dX12_lawful_66 rfl ?_
            refine am_aload_n dX12_lawful_67 rfl ?_
            refine am_getR 12 29 72 dX12_lawful_68 fg_X12_67 (sh_54 g) (by decide) rfl (rf_54_29 g) ?_
            refine am_bipush 16 (v := 16) dX12_lawful_71 (by decide) ?_
            refine am_iload_n dX12_lawful_73 rfl ?_
            refine am_iadd dX12_lawful_74 ?_
            obtain ⟨hg18, hyp⟩ := gd_some hyp
            refine am_iald dX12_lawful_75 (am_ia.one (sh_72 g)) (am_lit hg18) ?_
            obtain ⟨⟨v19, M19⟩, hk19, hyp⟩ := bd_some hyp
            try dsimp only at hyp
            refine am_callV [_, _, _, _] dX12_lawful_76 ml_X12_265 vm_X12_isLawful (sh_54 g) rfl (fun _ => Nat.le_of_ble_eq_true rfl) (by omega) rfl (ef_X12_isLawful (d := d + 0) (h := h) g hk19) rfl ?_
            change am_At _ _ _ 79 [_, _, _, _] [_] _ _
            obtain ⟨hg20, hyp⟩ := gd_some hyp
            cases hyp
            exact am_zret dX12_lawful_79 rfl (isb_nf hg20).1
          · intro hc17n
            have hc17n : ¬ (v16 = 0) := hc17n
            replace hyp := it_neg hc17n hyp
            refine am_iconst 0 (v := 0) dX12_lawful_61 (by decide) ?_
            cases hyp
            exact am_zret dX12_lawful_62 rfl rfl
  · intro hc1
    have hc1 : (f_X12_in x1 (0 : Int32) (((am_u3 M 54 0 0 (0 : Int32)) 58 0 0) - (1 : Int32))) = 0 := hc1
    replace hyp := it_pos hc1 hyp
    refine am_iconst 1 (v := 1) dX12_lawful_14 (by decide) ?_
    refine am_goto (4) 19 dX12_lawful_15 rfl ?_
    refine am_iconst 1 (v := 1) dX12_lawful_19 (by decide) ?_
    refine am_iconst 0 (v := 0) dX12_lawful_20 (by decide) ?_
    obtain ⟨⟨v21, M21⟩, hk21, hyp⟩ := bd_some hyp
    try dsimp only at hyp
    refine am_callV [_, _, _] dX12_lawful_21 ml_X12_179 vm_X12_bad (sh_54 g) rfl (fun _ => Nat.le_of_ble_eq_true rfl) (by omega) rfl (ef_X12_bad (d := d + 3) (h := h) g hk21) rfl ?_
    change am_At _ _ _ 24 [_, _, _, _] [_] _ _
    refine am_if_ne (37) 61 dX12_lawful_24 rfl ?_ ?_
    · intro hc22n
      have hc22n : ¬ (v21 = 0) := hc22n
      replace hyp := it_neg hc22n hyp
      refine am_iconst 0 (v := 0) dX12_lawful_61 (by decide) ?_
      cases hyp
      exact am_zret dX12_lawful_62 rfl rfl
    · intro hc22
      have hc22 : v21 = 0 := hc22
      replace hyp := it_pos hc22 hyp
      refine am_aload_n dX12_lawful_27 rfl ?_
      refine am_iload_n dX12_lawful_28 rfl ?_
      refine am_iconst 0 (v := 0) dX12_lawful_29 (by decide) ?_
      refine am_bipush 23 (v := 23) dX12_lawful_30 (by decide) ?_
      refine am_callS (c := 0) (k := 0) (n := 0) (w := 0) [_, _, _] dX12_lawful_32 ml_X12_137 sm_X12_in rfl (fun _ => Nat.le_of_ble_eq_true rfl) (by omega) rfl (ef_X12_in (d := d + 3) (h := am_hM h M21) (x0 := x2) (x1 := (0 : Int32)) (x2 := (23 : Int32))  rfl) rfl ?_
      change am_At _ _ _ 35 [_, _, _, _] [_, _] _ _
      refine am_if_eq (13) 48 dX12_lawful_35 rfl ?_ ?_
      · intro hc23
        have hc23 : (f_X12_in x2 (0 : Int32) (23 : Int32)) = 0 := hc23
        replace hyp := it_pos hc23 hyp
        refine am_iconst 1 (v := 1) dX12_lawful_48 (by decide) ?_
        refine am_goto (4) 53 dX12_lawful_49 rfl ?_
        refine am_iconst 2 (v := 2) dX12_lawful_53 (by decide) ?_
        refine am_iconst 1 (v := 1) dX12_lawful_54 (by decide) ?_
        obtain ⟨⟨v24, M24⟩, hk24, hyp⟩ := bd_some hyp
        try dsimp only at hyp
        refine am_callV [_, _, _] dX12_lawful_55 ml_X12_179 vm_X12_bad (sh_54 g) rfl (fun _ => Nat.le_of_ble_eq_true rfl) (by omega) rfl (ef_X12_bad (d := d + 3) (h := h) g hk24) rfl ?_
        change am_At _ _ _ 58 [_, _, _, _] [_] _ _
        refine am_if_eq (5) 63 dX12_lawful_58 rfl ?_ ?_
        · intro hc25
          have hc25 : v24 = 0 := hc25
          replace hyp := it_pos hc25 hyp
          refine am_aload_n dX12_lawful_63 rfl ?_
          refine am_iload_n dX12_lawful_64 rfl ?_
          refine am_iload_n dX12_lawful_65 rfl ?_
          refine am_iload_n dX12_lawful_66 rfl ?_
          refine am_aload_n dX12_lawful_67 rfl ?_
          refine am_getR 12 29 72 dX12_lawful_68 fg_X12_67 (sh_54 g) (by decide) rfl (rf_54_29 g) ?_
          refine am_bipush 16 (v := 16) dX12_lawful_71 (by decide) ?_
          refine am_iload_n dX12_lawful_73 rfl ?_
          refine am_iadd dX12_lawful_74 ?_
          obtain ⟨hg26, hyp⟩ := gd_some hyp
          refine am_iald dX12_lawful_75 (am_ia.one (sh_72 g)) (am_lit hg26) ?_
          obtain ⟨⟨v27, M27⟩, hk27, hyp⟩ := bd_some hyp
          try dsimp only at hyp
          refine am_callV [_, _, _, _] dX12_lawful_76 ml_X12_265 vm_X12_isLawful (sh_54 g) rfl (fun _ => Nat.le_of_ble_eq_true rfl) (by omega) rfl (ef_X12_isLawful (d := d + 0) (h := h) g hk27) rfl ?_
          change am_At _ _ _ 79 [_, _, _, _] [_] _ _
          obtain ⟨hg28, hyp⟩ := gd_some hyp
          cases hyp
          exact am_zret dX12_lawful_79 rfl (isb_nf hg28).1
        · intro hc25n
          have hc25n : ¬ (v24 = 0) := hc25n
          replace hyp := it_neg hc25n hyp
          refine am_iconst 0 (v := 0) dX12_lawful_61 (by decide) ?_
          cases hyp
          exact am_zret dX12_lawful_62 rfl rfl
      · intro hc23n
        have hc23n : ¬ ((f_X12_in x2 (0 : Int32) (23 : Int32)) = 0) := hc23n
        replace hyp := it_neg hc23n hyp
        refine am_iload_n dX12_lawful_38 rfl ?_
        refine am_iconst 0 (v := 0) dX12_lawful_39 (by decide) ?_
        refine am_bipush 99 (v := 99) dX12_lawful_40 (by decide) ?_
        refine am_callS (c := 0) (k := 0) (n := 0) (w := 0) [_, _, _] dX12_lawful_42 ml_X12_137 sm_X12_in rfl (fun _ => Nat.le_of_ble_eq_true rfl) (by omega) rfl (ef_X12_in (d := d + 3) (h := am_hM h M21) (x0 := x3) (x1 := (0 : Int32)) (x2 := (99 : Int32))  rfl) rfl ?_
        change am_At _ _ _ 45 [_, _, _, _] [_, _] _ _
        refine am_if_ne (7) 52 dX12_lawful_45 rfl ?_ ?_
        · intro hc29n
          have hc29n : ¬ ((f_X12_in x3 (0 : Int32) (99 : Int32)) = 0) := hc29n
          replace hyp := it_neg hc29n hyp
          refine am_iconst 0 (v := 0) dX12_lawful_52 (by decide) ?_
          refine am_iconst 2 (v := 2) dX12_lawful_53 (by decide) ?_
          refine am_iconst 1 (v := 1) dX12_lawful_54 (by decide) ?_
          obtain ⟨⟨v30, M30⟩, hk30, hyp⟩ := bd_some hyp
          try dsimp only at hyp
          refine am_callV [_, _, _] dX12_lawful_55 ml_X12_179 vm_X12_bad (sh_54 g) rfl (fun _ => Nat.le_of_ble_eq_true rfl) (by omega) rfl (ef_X12_bad (d := d + 3) (h := h) g hk30) rfl ?_
          change am_At _ _ _ 58 [_, _, _, _] [_] _ _
          refine am_if_eq (5) 63 dX12_lawful_58 rfl ?_ ?_
          · intro hc31
            have hc31 : v30 = 0 := hc31
            replace hyp := it_pos hc31 hyp
            refine am_aload_n dX12_lawful_63 rfl ?_
            refine am_iload_n dX12_lawful_64 rfl ?_
            refine am_iload_n dX12_lawful_65 rfl ?_
            refine am_iload_n dX12_lawful_66 rfl ?_
            refine am_aload_n dX12_lawful_67 rfl ?_
            refine am_getR 12 29 72 dX12_lawful_68 fg_X12_67 (sh_54 g) (by decide) rfl (rf_54_29 g) ?_
            refine am_bipush 16 (v := 16) dX12_lawful_71 (by decide) ?_
            refine am_iload_n dX12_lawful_73 rfl ?_
            refine am_iadd dX12_lawful_74 ?_
            obtain ⟨hg32, hyp⟩ := gd_some hyp
            refine am_iald dX12_lawful_75 (am_ia.one (sh_72 g)) (am_lit hg32) ?_
            obtain ⟨⟨v33, M33⟩, hk33, hyp⟩ := bd_some hyp
            try dsimp only at hyp
            refine am_callV [_, _, _, _] dX12_lawful_76 ml_X12_265 vm_X12_isLawful (sh_54 g) rfl (fun _ => Nat.le_of_ble_eq_true rfl) (by omega) rfl (ef_X12_isLawful (d := d + 0) (h := h) g hk33) rfl ?_
            change am_At _ _ _ 79 [_, _, _, _] [_] _ _
            obtain ⟨hg34, hyp⟩ := gd_some hyp
            cases hyp
            exact am_zret dX12_lawful_79 rfl (isb_nf hg34).1
          · intro hc31n
            have hc31n : ¬ (v30 = 0) := hc31n
            replace hyp := it_neg hc31n hyp
            refine am_iconst 0 (v := 0) dX12_lawful_61 (by decide) ?_
            cases hyp
            exact am_zret dX12_lawful_62 rfl rfl
        · intro hc29
          have hc29 : (f_X12_in x3 (0 : Int32) (99 : Int32)) = 0 := hc29
          replace hyp := it_pos hc29 hyp
          refine am_iconst 1 (v := 1) dX12_lawful_48 (by decide) ?_
          refine am_goto (4) 53 dX12_lawful_49 rfl ?_
          refine am_iconst 2 (v := 2) dX12_lawful_53 (by decide) ?_
          refine am_iconst 1 (v := 1) dX12_lawful_54 (by decide) ?_
          obtain ⟨⟨v35, M35⟩, hk35, hyp⟩ := bd_some hyp
          try dsimp only at hyp
          refine am_callV [_, _, _] dX12_lawful_55 ml_X12_179 vm_X12_bad (sh_54 g) rfl (fun _ => Nat.le_of_ble_eq_true rfl) (by omega) rfl (ef_X12_bad (d := d + 3) (h := h) g hk35) rfl ?_
          change am_At _ _ _ 58 [_, _, _, _] [_] _ _
          refine am_if_eq (5) 63 dX12_lawful_58 rfl ?_ ?_
          · intro hc36
            have hc36 : v35 = 0 := hc36
            replace hyp := it_pos hc36 hyp
            refine am_aload_n dX12_lawful_63 rfl ?_
            refine am_iload_n dX12_lawful_64 rfl ?_
            refine am_iload_n dX12_lawful_65 rfl ?_
            refine am_iload_n dX12_lawful_66 rfl ?_
            refine am_aload_n dX12_lawful_67 rfl ?_
            refine am_getR 12 29 72 dX12_lawful_68 fg_X12_67 (sh_54 g) (by decide) rfl (rf_54_29 g) ?_
            refine am_bipush 16 (v := 16) dX12_lawful_71 (by decide) ?_
            refine am_iload_n dX12_lawful_73 rfl ?_
            refine am_iadd dX12_lawful_74 ?_
            obtain ⟨hg37, hyp⟩ := gd_some hyp
            refine am_iald dX12_lawful_75 (am_ia.one (sh_72 g)) (am_lit hg37) ?_
            obtain ⟨⟨v38, M38⟩, hk38, hyp⟩ := bd_some hyp
            try dsimp only at hyp
            refine am_callV [_, _, _, _] dX12_lawful_76 ml_X12_265 vm_X12_isLawful (sh_54 g) rfl (fun _ => Nat.le_of_ble_eq_true rfl) (by omega) rfl (ef_X12_isLawful (d := d + 0) (h := h) g hk38) rfl ?_
            change am_At _ _ _ 79 [_, _, _, _] [_] _ _
            obtain ⟨hg39, hyp⟩ := gd_some hyp
            cases hyp
            exact am_zret dX12_lawful_79 rfl (isb_nf hg39).1
          · intro hc36n
            have hc36n : ¬ (v35 = 0) := hc36n
            replace hyp := it_neg hc36n hyp
            refine am_iconst 0 (v := 0) dX12_lawful_61 (by decide) ?_
            cases hyp
            exact am_zret dX12_lawful_62 rfl rfl
theorem eL_X12_laysAnglers_7 {d : Nat} {h : am_H} (g : lay h) {x1 : Int32} {r : am_R} (n : Nat) : ∀ (s : Int32 × Mem) (e : Mem), wh (L_X12_laysAnglers_7) n s = some e → ((fun (M : Mem) => am_At am_X0 (d + 31) mX12_laysAnglers 33 [some (.inr (54, 0)), some (am_I (x1)), none] [] (am_hM h M) r) e) → (match s with | (x2, M) => am_At am_X0 (d + 31) mX12_laysAnglers 7 [some (.inr (54, 0)), some (am_I (x1)), some (am_I (x2))] [] (am_hM h M) r) := by
  refine am_wh (At := fun (s : Int32 × Mem) => match s with | (x2, M) => am_At am_X0 (d + 31) mX12_laysAnglers 7 [some (.inr (54, 0)), some (am_I (x1)), some (am_I (x2))] [] (am_hM h M) r) (Ex := fun (e : Mem) => (fun (M : Mem) => am_At am_X0 (d + 31) mX12_laysAnglers 33 [some (.inr (54, 0)), some (am_I (x1)), none] [] (am_hM h M) r) e) ?_ n
  rintro ⟨x2, M⟩ y hyp hx
  unfold L_X12_laysAnglers_7 at hyp
  try dsimp only at hyp
  change am_At _ _ _ 7 [_, _, _] [] _ _
  refine am_iload_n dX12_laysAnglers_7 rfl ?_
  refine am_bipush 16 (v := 16) dX12_laysAnglers_8 (by decide) ?_
  refine am_icmp_ge (23) 33 dX12_laysAnglers_10 rfl ?_ ?_
  · intro hc1
    have hc1 : (16 : Int32) ≤ x2 := hc1
    replace hyp := it_pos hc1 hyp
    cases hyp
    refine am_At.drop 2 ?_
    exact hx
  · intro hc1n
    have hc1n : ¬ ((16 : Int32) ≤ x2) := hc1n
    replace hyp := it_neg hc1n hyp
    refine am_aload_n dX12_laysAnglers_13 rfl ?_
    refine am_getR 12 44 79 dX12_laysAnglers_14 fg_X12_88 (sh_54 g) (by decide) rfl (rf_54_44 g) ?_
    refine am_iload_n dX12_laysAnglers_17 rfl ?_
    refine am_iconst 0 (v := 0) dX12_laysAnglers_18 (by decide) ?_
    obtain ⟨hg2, hyp⟩ := gd_some hyp
    refine am_iast dX12_laysAnglers_19 (am_ia.one (sh_79 g)) (am_lit hg2) ?_
    refine am_aload_n dX12_laysAnglers_20 rfl ?_
    refine am_getR 12 45 80 dX12_laysAnglers_21 fg_X12_91 (sh_54 g) (by decide) rfl (rf_54_45 g) ?_
    refine am_iload_n dX12_laysAnglers_24 rfl ?_
    refine am_iconst 0 (v := 0) dX12_laysAnglers_25 (by decide) ?_
    refine am_iast dX12_laysAnglers_26 (am_ia.one (sh_80 g)) (am_lit hg2) ?_
    refine am_iinc dX12_laysAnglers_27 rfl (am_ix _) ?_
    change am_At _ _ _ 30 [_, _, _] [] _ _
    refine am_goto (-23) 7 dX12_laysAnglers_30 rfl ?_
    cases hyp
    exact hx
theorem ef_X12_laysAnglers {d : Nat} {h : am_H} (g : lay h) {x1 : Int32} {M : Mem} {M' : Mem} (hyp : f_X12_laysAnglers x1 M = some M') : am_Ev (d + 31) mX12_laysAnglers [.inr (54, 0), am_I x1] (am_hM h M) (.inl (none, am_hM h M')) := by
  unfold f_X12_laysAnglers at hyp
  refine am_Ev.mk (by decide +kernel) rfl rfl (Nat.le_refl _) (Nat.le_refl _) ?_
  change am_At _ _ _ 0 [_, _, _] [] _ _
  refine am_aload_n dX12_laysAnglers_0 rfl ?_
  refine am_iconst 0 (v := 0) dX12_laysAnglers_1 (by decide) ?_
  refine am_putI 12 46 dX12_laysAnglers_2 (Or.inl fp_X12_354) (sh_54 g) (by decide) rfl rfl rfl ?_
  refine am_iconst 0 (v := 0) dX12_laysAnglers_5 (by decide) ?_
  refine am_istore_n dX12_laysAnglers_6 (am_lb rfl) ?_
  change am_At _ _ _ 7 [_, _, _] [] _ _
  obtain ⟨M3, hw3, hyp⟩ := bd_some hyp
  try dsimp only at hyp
  refine eL_X12_laysAnglers_7 (d := d) (h := h) g  FU ((0 : Int32), (am_u3 M 54 0 46 (0 : Int32))) M3 hw3 ?_
  change am_At _ _ _ 33 [_, _, _] [] _ _
  refine am_aload_n dX12_laysAnglers_33 rfl ?_
  refine am_iconst 0 (v := 0) dX12_laysAnglers_34 (by decide) ?_
  refine am_iload_n dX12_laysAnglers_35 rfl ?_
  obtain ⟨M4, hk4, hyp⟩ := bd_some hyp
  try dsimp only at hyp
  refine am_callV [_, _] dX12_laysAnglers_36 ml_X12_357 vm_X12_angles (sh_54 g) rfl (fun _ => Nat.le_of_ble_eq_true rfl) (by omega) rfl (ef_X12_angles (d := d + 0) (h := h) g hk4) rfl ?_
  change am_At _ _ _ 39 [_, _, _] [] _ _
  cases hyp
  exact am_vret dX12_laysAnglers_39 rfl
theorem eL_X12_nose_40 {d : Nat} {h : am_H} (g : lay h) {x1 x2 : Int32} {r : am_R} (n : Nat) : ∀ (s : Int32 × Mem) (e : Mem), wh (L_X12_nose_40 x2) n s = some e → ((fun (M : Mem) => am_At am_X0 (d + 3) mX12_nose 61 [some (.inr (54, 0)), some (am_I (x1)), some (am_I (x2)), none, none, none, none, none] [] (am_hM h M) r) e) → (match s with | (x3, M) => am_At am_X0 (d + 3) mX12_nose 40 [some (.inr (54, 0)), some (am_I (x1)), some (am_I (x2)), some (am_I (x3)), none, none, none, none] [] (am_hM h M) r) := by
  refine am_wh (At := fun (s : Int32 × Mem) => match s with | (x3, M) => am_At am_X0 (d + 3) mX12_nose 40 [some (.inr (54, 0)), some (am_I (x1)), some (am_I (x2)), some (am_I (x3)), none, none, none, none] [] (am_hM h M) r) (Ex := fun (e : Mem) => (fun (M : Mem) => am_At am_X0 (d + 3) mX12_nose 61 [some (.inr (54, 0)), some (am_I (x1)), some (am_I (x2)), none, none, none, none, none] [] (am_hM h M) r) e) ?_ n
  rintro ⟨x3, M⟩ y hyp hx
  unfold L_X12_nose_40 at hyp
  try dsimp only at hyp
  change am_At _ _ _ 40 [_, _, _, _, _, _, _, _] [] _ _
  refine am_iload_n dX12_nose_40 rfl ?_
  refine am_bipush 16 (v := 16) dX12_nose_41 (by decide) ?_
  refine am_icmp_ge (18) 61 dX12_nose_43 rfl ?_ ?_
  · intro hc5
    have hc5 : (16 : Int32) ≤ x3 := hc5
    replace hyp := it_pos hc5 hyp
    cases hyp
    refine am_At.drop 3 ?_
    exact hx
  · intro hc5n
    have hc5n : ¬ ((16 : Int32) ≤ x3) := hc5n
    replace hyp := it_neg hc5n hyp
    refine am_aload_n dX12_nose_46 rfl ?_
    refine am_getR 12 43 78 dX12_nose_47 fg_X12_85 (sh_54 g) (by decide) rfl (rf_54_43 g) ?_
    refine am_iload_n dX12_nose_50 rfl ?_
    obtain ⟨hg6, hyp⟩ := gd_some hyp
    refine am_aald dX12_nose_51 (sh_78 g) (am_lit hg6) ?_
    refine am_iload_n dX12_nose_52 rfl ?_
    refine am_iconst 0 (v := 0) dX12_nose_53 (by decide) ?_
    obtain ⟨hg7, hyp⟩ := gd_some hyp
    refine am_iast dX12_nose_54 (am_ia.row (sh_78 g) (by omega) (am_vlt (am_lit hg6))) (am_lit hg7) ?_
    refine am_iinc dX12_nose_55 rfl (am_ix _) ?_
    change am_At _ _ _ 58 [_, _, _, _, _, _, _, _] [] _ _
    refine am_goto (-18) 40 dX12_nose_58 rfl ?_
    cases hyp
    exact hx
theorem eL_X12_nose_32 {d : Nat} {h : am_H} (g : lay h) {x1 : Int32} {r : am_R} (n : Nat) : ∀ (s : Int32 × Mem) (e : Mem), wh (L_X12_nose_32) n s = some e → ((fun (M : Mem) => am_At am_X0 (d + 3) mX12_nose 67 [some (.inr (54, 0)), some (am_I (x1)), none, none, none, none, none, none] [] (am_hM h M) r) e) → (match s with | (x2, M) => am_At am_X0 (d + 3) mX12_nose 32 [some (.inr (54, 0)), some (am_I (x1)), some (am_I (x2)), none, none, none, none, none] [] (am_hM h M) r) := by
  refine am_wh (At := fun (s : Int32 × Mem) => match s with | (x2, M) => am_At am_X0 (d + 3) mX12_nose 32 [some (.inr (54, 0)), some (am_I (x1)), some (am_I (x2)), none, none, none, none, none] [] (am_hM h M) r) (Ex := fun (e : Mem) => (fun (M : Mem) => am_At am_X0 (d + 3) mX12_nose 67 [some (.inr (54, 0)), some (am_I (x1)), none, none, none, none, none, none] [] (am_hM h M) r) e) ?_ n
  rintro ⟨x2, M⟩ y hyp hx
  unfold L_X12_nose_32 at hyp
  try dsimp only at hyp
  change am_At _ _ _ 32 [_, _, _, _, _, _, _, _] [] _ _
  refine am_iload_n dX12_nose_32 rfl ?_
  refine am_bipush 16 (v := 16) dX12_nose_33 (by decide) ?_
  refine am_icmp_ge (32) 67 dX12_nose_35 rfl ?_ ?_
  · intro hc4
    have hc4 : (16 : Int32) ≤ x2 := hc4
    replace hyp := it_pos hc4 hyp
    cases hyp
    refine am_At.drop 2 ?_
    exact hx
  · intro hc4n
    have hc4n : ¬ ((16 : Int32) ≤ x2) := hc4n
    replace hyp := it_neg hc4n hyp
    refine am_iconst 0 (v := 0) dX12_nose_38 (by decide) ?_
    refine am_istore_n dX12_nose_39 (am_lb rfl) ?_
    change am_At _ _ _ 40 [_, _, _, _, _, _, _, _] [] _ _
    obtain ⟨M8, hw8, hyp⟩ := bd_some hyp
    try dsimp only at hyp
    refine eL_X12_nose_40 (d := d) (h := h) g  FU ((0 : Int32), M) M8 hw8 ?_
    change am_At _ _ _ 61 [_, _, _, _, _, _, _, _] [] _ _
    refine am_iinc dX12_nose_61 rfl (am_ix _) ?_
    change am_At _ _ _ 64 [_, _, _, _, _, _, _, _] [] _ _
    refine am_goto (-32) 32 dX12_nose_64 rfl ?_
    cases hyp
    exact hx
theorem eL_X12_nose_94 {d : Nat} {h : am_H} (g : lay h) {x1 x2 : Int32} {r : am_R} (n : Nat) : ∀ (s : Int32 × Mem) (e : Mem), wh (L_X12_nose_94 x2) n s = some e → ((fun (M : Mem) => am_At am_X0 (d + 3) mX12_nose 127 [some (.inr (54, 0)), some (am_I (x1)), some (am_I (x2)), none, none, none, none, none] [] (am_hM h M) r) e) → (match s with | (x3, M) => am_At am_X0 (d + 3) mX12_nose 94 [some (.inr (54, 0)), some (am_I (x1)), some (am_I (x2)), some (am_I (x3)), none, none, none, none] [] (am_hM h M) r) := by
  refine am_wh (At := fun (s : Int32 × Mem) => match s with | (x3, M) => am_At am_X0 (d + 3) mX12_nose 94 [some (.inr (54, 0)), some (am_I (x1)), some (am_I (x2)), some (am_I (x3)), none, none, none, none] [] (am_hM h M) r) (Ex := fun (e : Mem) => (fun (M : Mem) => am_At am_X0 (d + 3) mX12_nose 127 [some (.inr (54, 0)), some (am_I (x1)), some (am_I (x2)), none, none, none, none, none] [] (am_hM h M) r) e) ?_ n
  rintro ⟨x3, M⟩ y hyp hx
  unfold L_X12_nose_94 at hyp
  try dsimp only at hyp
  change am_At _ _ _ 94 [_, _, _, _, _, _, _, _] [] _ _
  refine am_iload_n dX12_nose_94 rfl ?_
  refine am_aload_n dX12_nose_95 rfl ?_
  refine am_getR 12 12 58 dX12_nose_96 fg_X12_23 (sh_54 g) (by decide) rfl (rf_54_12 g) ?_
  refine am_iconst 0 (v := 0) dX12_nose_99 (by decide) ?_
  refine am_iald dX12_nose_100 (am_ia.one (sh_58 g)) (am_lit rfl) ?_
  refine am_icmp_ge (26) 127 dX12_nose_101 rfl ?_ ?_
  · intro hc13
    have hc13 : (M 58 0 0) ≤ x3 := hc13
    replace hyp := it_pos hc13 hyp
    cases hyp
    refine am_At.drop 3 ?_
    exact hx
  · intro hc13n
    have hc13n : ¬ ((M 58 0 0) ≤ x3) := hc13n
    replace hyp := it_neg hc13n hyp
    refine am_aload_n dX12_nose_104 rfl ?_
    refine am_getR 12 43 78 dX12_nose_105 fg_X12_85 (sh_54 g) (by decide) rfl (rf_54_43 g) ?_
    refine am_iload_n dX12_nose_108 rfl ?_
    obtain ⟨hg14, hyp⟩ := gd_some hyp
    refine am_aald dX12_nose_109 (sh_78 g) (am_lit hg14) ?_
    refine am_aload_n dX12_nose_110 rfl ?_
    refine am_iload_n dX12_nose_111 rfl ?_
    refine am_iload_n dX12_nose_112 rfl ?_
    obtain ⟨v15, hk15, hyp⟩ := bd_some hyp
    try dsimp only at hyp
    refine am_callV [_, _] dX12_nose_113 ml_X12_345 vm_X12_smellAt (sh_54 g) rfl (fun _ => Nat.le_of_ble_eq_true rfl) (by omega) rfl (ef_X12_smellAt (d := d + 1) (h := h) g hk15) rfl ?_
    change am_At _ _ _ 116 [_, _, _, _, _, _, _, _] [_, _] _ _
    refine am_dup2 dX12_nose_116 (fun _ => rfl) (fun _ => rfl) ?_
    obtain ⟨hg16, hyp⟩ := gd_some hyp
    refine am_iald dX12_nose_117 (am_ia.row (sh_78 g) (by omega) (am_vlt (am_lit hg14))) (am_lit hg16) ?_
    refine am_iconst 1 (v := 1) dX12_nose_118 (by decide) ?_
    refine am_iadd dX12_nose_119 ?_
    refine am_iast dX12_nose_120 (am_ia.row (sh_78 g) (by omega) (am_vlt (am_lit hg14))) (am_lit hg16) ?_
    refine am_iinc dX12_nose_121 rfl (am_ix _) ?_
    change am_At _ _ _ 124 [_, _, _, _, _, _, _, _] [] _ _
    refine am_goto (-30) 94 dX12_nose_124 rfl ?_
    cases hyp
    exact hx
theorem eL_X12_nose_69 {d : Nat} {h : am_H} (g : lay h) {x1 : Int32} {r : am_R} (n : Nat) : ∀ (s : Int32 × Mem) (e : Mem), wh (L_X12_nose_69) n s = some e → ((fun (M : Mem) => am_At am_X0 (d + 3) mX12_nose 133 [some (.inr (54, 0)), some (am_I (x1)), none, none, none, none, none, none] [] (am_hM h M) r) e) → (match s with | (x2, M) => am_At am_X0 (d + 3) mX12_nose 69 [some (.inr (54, 0)), some (am_I (x1)), some (am_I (x2)), none, none, none, none, none] [] (am_hM h M) r) := by
  refine am_wh (At := fun (s : Int32 × Mem) => match s with | (x2, M) => am_At am_X0 (d + 3) mX12_nose 69 [some (.inr (54, 0)), some (am_I (x1)), some (am_I (x2)), none, none, none, none, none] [] (am_hM h M) r) (Ex := fun (e : Mem) => (fun (M : Mem) => am_At am_X0 (d + 3) mX12_nose 133 [some (.inr (54, 0)), some (am_I (x1)), none, none, none, none, none, none] [] (am_hM h M) r) e) ?_ n
  rintro ⟨x2, M⟩ y hyp hx
  unfold L_X12_nose_69 at hyp
  try dsimp only at hyp
  change am_At _ _ _ 69 [_, _, _, _, _, _, _, _] [] _ _
  refine am_iload_n dX12_nose_69 rfl ?_
  refine am_iconst 1 (v := 1) dX12_nose_70 (by decide) ?_
  refine am_aload_n dX12_nose_71 rfl ?_
  refine am_getR 12 12 58 dX12_nose_72 fg_X12_23 (sh_54 g) (by decide) rfl (rf_54_12 g) ?_
  refine am_iconst 0 (v := 0) dX12_nose_75 (by decide) ?_
  refine am_iald dX12_nose_76 (am_ia.one (sh_58 g)) (am_lit rfl) ?_
  refine am_ishl dX12_nose_77 ?_
  refine am_icmp_ge (55) 133 dX12_nose_78 rfl ?_ ?_
  · intro hc10
    have hc10 : ((1 : Int32) <<< ((M 58 0 0) &&& 31)) ≤ x2 := hc10
    replace hyp := it_pos hc10 hyp
    cases hyp
    refine am_At.drop 2 ?_
    exact hx
  · intro hc10n
    have hc10n : ¬ (((1 : Int32) <<< ((M 58 0 0) &&& 31)) ≤ x2) := hc10n
    replace hyp := it_neg hc10n hyp
    refine am_aload_n dX12_nose_81 rfl ?_
    refine am_iload_n dX12_nose_82 rfl ?_
    obtain ⟨v11, hk11, hyp⟩ := bd_some hyp
    try dsimp only at hyp
    refine am_callV [_] dX12_nose_83 ml_X12_348 vm_X12_isOpener (sh_54 g) rfl (fun _ => Nat.le_of_ble_eq_true rfl) (by omega) rfl (ef_X12_isOpener (d := d + 0) (h := h) g hk11) rfl ?_
    change am_At _ _ _ 86 [_, _, _, _, _, _, _, _] [_] _ _
    refine am_if_ne (6) 92 dX12_nose_86 rfl ?_ ?_
    · intro hc12n
      have hc12n : ¬ (v11 = 0) := hc12n
      replace hyp := it_neg hc12n hyp
      refine am_iconst 0 (v := 0) dX12_nose_92 (by decide) ?_
      refine am_istore_n dX12_nose_93 (am_lb rfl) ?_
      change am_At _ _ _ 94 [_, _, _, _, _, _, _, _] [] _ _
      obtain ⟨M17, hw17, hyp⟩ := bd_some hyp
      try dsimp only at hyp
      refine eL_X12_nose_94 (d := d) (h := h) g  FU ((0 : Int32), M) M17 hw17 ?_
      change am_At _ _ _ 127 [_, _, _, _, _, _, _, _] [] _ _
      refine am_iinc dX12_nose_127 rfl (am_ix _) ?_
      change am_At _ _ _ 130 [_, _, _, _, _, _, _, _] [] _ _
      refine am_goto (-61) 69 dX12_nose_130 rfl ?_
      cases hyp
      exact hx
    · intro hc12
      have hc12 : v11 = 0 := hc12
      replace hyp := it_pos hc12 hyp
      refine am_goto (38) 127 dX12_nose_89 rfl ?_
      refine am_iinc dX12_nose_127 rfl (am_ix _) ?_
      change am_At _ _ _ 130 [_, _, _, _, _, _, _, _] [] _ _
      refine am_goto (-61) 69 dX12_nose_130 rfl ?_
      cases hyp
      exact hx
theorem eL_X12_nose_160 {d : Nat} {h : am_H} (g : lay h) {x1 x2 x3 x4 x5 : Int32} {M : Mem} {r : am_R} (n : Nat) : ∀ (s : Int32 × Int32) (e : Int32), wh (L_X12_nose_160 x4 M) n s = some e → ((fun (x6 : Int32) => am_At am_X0 (d + 3) mX12_nose 201 [some (.inr (54, 0)), some (am_I (x1)), some (am_I (x2)), some (am_I (x3)), some (am_I (x4)), some (am_I (x5)), some (am_I (x6)), none] [] (am_hM h M) r) e) → (match s with | (x6, x7) => am_At am_X0 (d + 3) mX12_nose 160 [some (.inr (54, 0)), some (am_I (x1)), some (am_I (x2)), some (am_I (x3)), some (am_I (x4)), some (am_I (x5)), some (am_I (x6)), some (am_I (x7))] [] (am_hM h M) r) := by
  refine am_wh (At := fun (s : Int32 × Int32) => match s with | (x6, x7) => am_At am_X0 (d + 3) mX12_nose 160 [some (.inr (54, 0)), some (am_I (x1)), some (am_I (x2)), some (am_I (x3)), some (am_I (x4)), some (am_I (x5)), some (am_I (x6)), some (am_I (x7))] [] (am_hM h M) r) (Ex := fun (e : Int32) => (fun (x6 : Int32) => am_At am_X0 (d + 3) mX12_nose 201 [some (.inr (54, 0)), some (am_I (x1)), some (am_I (x2)), some (am_I (x3)), some (am_I (x4)), some (am_I (x5)), some (am_I (x6)), none] [] (am_hM h M) r) e) ?_ n
  rintro ⟨x6, x7⟩ y hyp hx
  unfold L_X12_nose_160 at hyp
  try dsimp only at hyp
  change am_At _ _ _ 160 [_, _, _, _, _, _, _, _] [] _ _
  refine am_iload dX12_nose_160 rfl ?_
  refine am_aload_n dX12_nose_162 rfl ?_
  refine am_getI 12 34 dX12_nose_163 fg_X12_199 (sh_54 g) (by decide) rfl ?_
  refine am_icmp_ge (35) 201 dX12_nose_166 rfl ?_ ?_
  · intro hc20
    have hc20 : (M 54 0 34) ≤ x7 := hc20
    replace hyp := it_pos hc20 hyp
    cases hyp
    refine am_At.drop 7 ?_
    exact hx
  · intro hc20n
    have hc20n : ¬ ((M 54 0 34) ≤ x7) := hc20n
    replace hyp := it_neg hc20n hyp
    refine am_iload dX12_nose_169 rfl ?_
    refine am_if_ne (17) 188 dX12_nose_171 rfl ?_ ?_
    · intro hc21n
      have hc21n : ¬ (x6 = 0) := hc21n
      replace hyp := it_neg hc21n hyp
      refine am_iconst 1 (v := 1) dX12_nose_188 (by decide) ?_
      refine am_goto (4) 193 dX12_nose_189 rfl ?_
      refine am_istore dX12_nose_193 (am_lb rfl) ?_
      change am_At _ _ _ 195 [_, _, _, _, _, _, _, _] [] _ _
      refine am_iinc dX12_nose_195 rfl (am_ix _) ?_
      change am_At _ _ _ 198 [_, _, _, _, _, _, _, _] [] _ _
      refine am_goto (-38) 160 dX12_nose_198 rfl ?_
      cases hyp
      exact hx
    · intro hc21
      have hc21 : x6 = 0 := hc21
      replace hyp := it_pos hc21 hyp
      refine am_aload_n dX12_nose_174 rfl ?_
      refine am_getR 12 23 67 dX12_nose_175 fg_X12_52 (sh_54 g) (by decide) rfl (rf_54_23 g) ?_
      refine am_iload dX12_nose_178 rfl ?_
      obtain ⟨hg22, hyp⟩ := gd_some hyp
      refine am_aald dX12_nose_180 (sh_67 g) (am_lit hg22) ?_
      refine am_iconst 0 (v := 0) dX12_nose_181 (by decide) ?_
      refine am_iald dX12_nose_182 (am_ia.row (sh_67 g) (by omega) (am_vlt (am_lit hg22))) (am_lit rfl) ?_
      refine am_iload dX12_nose_183 rfl ?_
      refine am_icmp_ne (7) 192 dX12_nose_185 rfl ?_ ?_
      · intro hc23n
        have hc23n : ¬ ((M 67 (x7.toNatClampNeg + 1) 0) = x4) := hc23n
        replace hyp := it_neg hc23n hyp
        refine am_iconst 0 (v := 0) dX12_nose_192 (by decide) ?_
        refine am_istore dX12_nose_193 (am_lb rfl) ?_
        change am_At _ _ _ 195 [_, _, _, _, _, _, _, _] [] _ _
        refine am_iinc dX12_nose_195 rfl (am_ix _) ?_
        change am_At _ _ _ 198 [_, _, _, _, _, _, _, _] [] _ _
        refine am_goto (-38) 160 dX12_nose_198 rfl ?_
        cases hyp
        exact hx
      · intro hc23
        have hc23 : (M 67 (x7.toNatClampNeg + 1) 0) = x4 := hc23
        replace hyp := it_pos hc23 hyp
        refine am_iconst 1 (v := 1) dX12_nose_188 (by decide) ?_
        refine am_goto (4) 193 dX12_nose_189 rfl ?_
        refine am_istore dX12_nose_193 (am_lb rfl) ?_
        change am_At _ _ _ 195 [_, _, _, _, _, _, _, _] [] _ _
        refine am_iinc dX12_nose_195 rfl (am_ix _) ?_
        change am_At _ _ _ 198 [_, _, _, _, _, _, _, _] [] _ _
        refine am_goto (-38) 160 dX12_nose_198 rfl ?_
        cases hyp
        exact hx
theorem eL_X12_nose_204 {d : Nat} {h : am_H} (g : lay h) {x1 x2 x3 x4 x6 : Int32} {M : Mem} {r : am_R} (n : Nat) : ∀ (s : Int32 × Int32) (e : Int32), wh (L_X12_nose_204 x4 M) n s = some e → ((fun (x5 : Int32) => am_At am_X0 (d + 3) mX12_nose 234 [some (.inr (54, 0)), some (am_I (x1)), some (am_I (x2)), some (am_I (x3)), some (am_I (x4)), some (am_I (x5)), some (am_I (x6)), none] [] (am_hM h M) r) e) → (match s with | (x5, x7) => am_At am_X0 (d + 3) mX12_nose 204 [some (.inr (54, 0)), some (am_I (x1)), some (am_I (x2)), some (am_I (x3)), some (am_I (x4)), some (am_I (x5)), some (am_I (x6)), some (am_I (x7))] [] (am_hM h M) r) := by
  refine am_wh (At := fun (s : Int32 × Int32) => match s with | (x5, x7) => am_At am_X0 (d + 3) mX12_nose 204 [some (.inr (54, 0)), some (am_I (x1)), some (am_I (x2)), some (am_I (x3)), some (am_I (x4)), some (am_I (x5)), some (am_I (x6)), some (am_I (x7))] [] (am_hM h M) r) (Ex := fun (e : Int32) => (fun (x5 : Int32) => am_At am_X0 (d + 3) mX12_nose 234 [some (.inr (54, 0)), some (am_I (x1)), some (am_I (x2)), some (am_I (x3)), some (am_I (x4)), some (am_I (x5)), some (am_I (x6)), none] [] (am_hM h M) r) e) ?_ n
  rintro ⟨x5, x7⟩ y hyp hx
  unfold L_X12_nose_204 at hyp
  try dsimp only at hyp
  change am_At _ _ _ 204 [_, _, _, _, _, _, _, _] [] _ _
  refine am_iload dX12_nose_204 rfl ?_
  refine am_bipush 16 (v := 16) dX12_nose_206 (by decide) ?_
  refine am_icmp_ge (26) 234 dX12_nose_208 rfl ?_ ?_
  · intro hc25
    have hc25 : (16 : Int32) ≤ x7 := hc25
    replace hyp := it_pos hc25 hyp
    cases hyp
    refine am_At.drop 7 ?_
    exact hx
  · intro hc25n
    have hc25n : ¬ ((16 : Int32) ≤ x7) := hc25n
    replace hyp := it_neg hc25n hyp
    refine am_iload dX12_nose_211 rfl ?_
    refine am_aload_n dX12_nose_213 rfl ?_
    refine am_getR 12 43 78 dX12_nose_214 fg_X12_85 (sh_54 g) (by decide) rfl (rf_54_43 g) ?_
    refine am_iload dX12_nose_217 rfl ?_
    obtain ⟨hg26, hyp⟩ := gd_some hyp
    refine am_aald dX12_nose_219 (sh_78 g) (am_lit hg26) ?_
    refine am_iload dX12_nose_220 rfl ?_
    obtain ⟨hg27, hyp⟩ := gd_some hyp
    refine am_iald dX12_nose_222 (am_ia.row (sh_78 g) (by omega) (am_vlt (am_lit hg26))) (am_lit hg27) ?_
    refine am_callS (c := 0) (k := 0) (n := 0) (w := 0) [_, _] dX12_nose_223 ml_X12_242 sm_X12_more rfl (fun _ => Nat.le_of_ble_eq_true rfl) (by omega) rfl (ef_X12_more (d := d + 2) (h := am_hM h M) (x0 := x5) (x1 := (M 78 (x4.toNatClampNeg + 1) x7.toNatClampNeg))  rfl) rfl ?_
    change am_At _ _ _ 226 [_, _, _, _, _, _, _, _] [_] _ _
    refine am_istore dX12_nose_226 (am_lb rfl) ?_
    change am_At _ _ _ 228 [_, _, _, _, _, _, _, _] [] _ _
    refine am_iinc dX12_nose_228 rfl (am_ix _) ?_
    change am_At _ _ _ 231 [_, _, _, _, _, _, _, _] [] _ _
    refine am_goto (-27) 204 dX12_nose_231 rfl ?_
    cases hyp
    exact hx
theorem eL_X12_nose_140 {d : Nat} {h : am_H} (g : lay h) {x1 : Int32} {M : Mem} {r : am_R} (n : Nat) : ∀ (s : Int32 × Int32 × Int32) (e : Int32 × Int32), wh (L_X12_nose_140 M) n s = some e → (match e with | (x2, x3) => am_At am_X0 (d + 3) mX12_nose 265 [some (.inr (54, 0)), some (am_I (x1)), some (am_I (x2)), some (am_I (x3)), none, none, none, none] [] (am_hM h M) r) → (match s with | (x2, x3, x4) => am_At am_X0 (d + 3) mX12_nose 140 [some (.inr (54, 0)), some (am_I (x1)), some (am_I (x2)), some (am_I (x3)), some (am_I (x4)), none, none, none] [] (am_hM h M) r) := by
  refine am_wh (At := fun (s : Int32 × Int32 × Int32) => match s with | (x2, x3, x4) => am_At am_X0 (d + 3) mX12_nose 140 [some (.inr (54, 0)), some (am_I (x1)), some (am_I (x2)), some (am_I (x3)), some (am_I (x4)), none, none, none] [] (am_hM h M) r) (Ex := fun (e : Int32 × Int32) => match e with | (x2, x3) => am_At am_X0 (d + 3) mX12_nose 265 [some (.inr (54, 0)), some (am_I (x1)), some (am_I (x2)), some (am_I (x3)), none, none, none, none] [] (am_hM h M) r) ?_ n
  rintro ⟨x2, x3, x4⟩ y hyp hx
  unfold L_X12_nose_140 at hyp
  try dsimp only at hyp
  change am_At _ _ _ 140 [_, _, _, _, _, _, _, _] [] _ _
  refine am_iload dX12_nose_140 rfl ?_
  refine am_aload_n dX12_nose_142 rfl ?_
  refine am_getR 12 12 58 dX12_nose_143 fg_X12_23 (sh_54 g) (by decide) rfl (rf_54_12 g) ?_
  refine am_iconst 0 (v := 0) dX12_nose_146 (by decide) ?_
  refine am_iald dX12_nose_147 (am_ia.one (sh_58 g)) (am_lit rfl) ?_
  refine am_icmp_ge (117) 265 dX12_nose_148 rfl ?_ ?_
  · intro hc19
    have hc19 : (M 58 0 0) ≤ x4 := hc19
    replace hyp := it_pos hc19 hyp
    cases hyp
    refine am_At.drop 4 ?_
    exact hx
  · intro hc19n
    have hc19n : ¬ ((M 58 0 0) ≤ x4) := hc19n
    replace hyp := it_neg hc19n hyp
    refine am_iconst 0 (v := 0) dX12_nose_151 (by decide) ?_
    refine am_istore dX12_nose_152 (am_lb rfl) ?_
    change am_At _ _ _ 154 [_, _, _, _, _, _, _, _] [] _ _
    refine am_iconst 0 (v := 0) dX12_nose_154 (by decide) ?_
    refine am_istore dX12_nose_155 (am_lb rfl) ?_
    change am_At _ _ _ 157 [_, _, _, _, _, _, _, _] [] _ _
    refine am_iconst 0 (v := 0) dX12_nose_157 (by decide) ?_
    refine am_istore dX12_nose_158 (am_lb rfl) ?_
    change am_At _ _ _ 160 [_, _, _, _, _, _, _, _] [] _ _
    obtain ⟨x6_24, hw24, hyp⟩ := bd_some hyp
    try dsimp only at hyp
    refine eL_X12_nose_160 (d := d) (h := h) g (M := M) FU ((0 : Int32), (0 : Int32)) x6_24 hw24 ?_
    change am_At _ _ _ 201 [_, _, _, _, _, _, _, _] [] _ _
    refine am_iconst 0 (v := 0) dX12_nose_201 (by decide) ?_
    refine am_istore dX12_nose_202 (am_lb rfl) ?_
    change am_At _ _ _ 204 [_, _, _, _, _, _, _, _] [] _ _
    obtain ⟨x5_28, hw28, hyp⟩ := bd_some hyp
    try dsimp only at hyp
    refine eL_X12_nose_204 (d := d) (h := h) g (M := M) FU ((0 : Int32), (0 : Int32)) x5_28 hw28 ?_
    change am_At _ _ _ 234 [_, _, _, _, _, _, _, _] [] _ _
    refine am_iload dX12_nose_234 rfl ?_
    refine am_if_ne (23) 259 dX12_nose_236 rfl ?_ ?_
    · intro hc29n
      have hc29n : ¬ (x6_24 = 0) := hc29n
      replace hyp := it_neg hc29n hyp
      refine am_iinc dX12_nose_259 rfl (am_ix _) ?_
      change am_At _ _ _ 262 [_, _, _, _, _, _, _, _] [] _ _
      refine am_goto (-122) 140 dX12_nose_262 rfl ?_
      cases hyp
      refine am_At.drop 5 ?_
      refine am_At.drop 6 ?_
      exact hx
    · intro hc29
      have hc29 : x6_24 = 0 := hc29
      replace hyp := it_pos hc29 hyp
      refine am_iload_n dX12_nose_239 rfl ?_
      refine am_iconst (-1) (v := (-1)) dX12_nose_240 (by decide) ?_
      refine am_icmp_eq (12) 253 dX12_nose_241 rfl ?_ ?_
      · intro hc30
        have hc30 : x2 = (-1 : Int32) := hc30
        replace hyp := it_pos hc30 hyp
        refine am_iload dX12_nose_253 rfl ?_
        refine am_istore_n dX12_nose_255 (am_lb rfl) ?_
        change am_At _ _ _ 256 [_, _, _, _, _, _, _, _] [] _ _
        refine am_iload dX12_nose_256 rfl ?_
        refine am_istore_n dX12_nose_258 (am_lb rfl) ?_
        change am_At _ _ _ 259 [_, _, _, _, _, _, _, _] [] _ _
        refine am_iinc dX12_nose_259 rfl (am_ix _) ?_
        change am_At _ _ _ 262 [_, _, _, _, _, _, _, _] [] _ _
        refine am_goto (-122) 140 dX12_nose_262 rfl ?_
        cases hyp
        refine am_At.drop 5 ?_
        refine am_At.drop 6 ?_
        exact hx
      · intro hc30n
        have hc30n : ¬ (x2 = (-1 : Int32)) := hc30n
        replace hyp := it_neg hc30n hyp
        refine am_iload dX12_nose_244 rfl ?_
        refine am_iload_n dX12_nose_246 rfl ?_
        refine am_icmp_lt (6) 253 dX12_nose_247 rfl ?_ ?_
        · intro hc31
          have hc31 : x5_28 < x3 := hc31
          replace hyp := it_pos hc31 hyp
          refine am_iload dX12_nose_253 rfl ?_
          refine am_istore_n dX12_nose_255 (am_lb rfl) ?_
          change am_At _ _ _ 256 [_, _, _, _, _, _, _, _] [] _ _
          refine am_iload dX12_nose_256 rfl ?_
          refine am_istore_n dX12_nose_258 (am_lb rfl) ?_
          change am_At _ _ _ 259 [_, _, _, _, _, _, _, _] [] _ _
          refine am_iinc dX12_nose_259 rfl (am_ix _) ?_
          change am_At _ _ _ 262 [_, _, _, _, _, _, _, _] [] _ _
          refine am_goto (-122) 140 dX12_nose_262 rfl ?_
          cases hyp
          refine am_At.drop 5 ?_
          refine am_At.drop 6 ?_
          exact hx
        · intro hc31n
          have hc31n : ¬ (x5_28 < x3) := hc31n
          replace hyp := it_neg hc31n hyp
          refine am_goto (9) 259 dX12_nose_250 rfl ?_
          refine am_iinc dX12_nose_259 rfl (am_ix _) ?_
          change am_At _ _ _ 262 [_, _, _, _, _, _, _, _] [] _ _
          refine am_goto (-122) 140 dX12_nose_262 rfl ?_
          cases hyp
          refine am_At.drop 5 ?_
          refine am_At.drop 6 ?_
          exact hx
theorem ef_X12_nose {d : Nat} {h : am_H} (g : lay h) {x1 : Int32} {M : Mem} {v : Int32} {M' : Mem} (hyp : f_X12_nose x1 M = some (v, M')) : am_Ev (d + 3) mX12_nose [.inr (54, 0), am_I x1] (am_hM h M) (.inl (some (am_I v), am_hM h M')) := by
  unfold f_X12_nose at hyp
  refine am_Ev.mk (by decide +kernel) rfl rfl (Nat.le_refl _) (Nat.le_refl _) ?_
  change am_At _ _ _ 0 [_, _, _, _, _, _, _, _] [] _ _
  refine am_aload_n dX12_nose_0 rfl ?_
  refine am_iconst 0 (v := 0) dX12_nose_1 (by decide) ?_
  refine am_putI 12 0 dX12_nose_2 (Or.inl fp_X12_103) (sh_54 g) (by decide) rfl rfl rfl ?_
  refine am_aload_n dX12_nose_5 rfl ?_
  refine am_iload_n dX12_nose_6 rfl ?_
  refine am_iconst 0 (v := 0) dX12_nose_7 (by decide) ?_
  refine am_iconst 1 (v := 1) dX12_nose_8 (by decide) ?_
  refine am_callS (c := 0) (k := 0) (n := 0) (w := 0) [_, _, _] dX12_nose_9 ml_X12_137 sm_X12_in rfl (fun _ => Nat.le_of_ble_eq_true rfl) (by omega) rfl (ef_X12_in (d := d + 2) (h := am_hM h (am_u3 M 54 0 0 (0 : Int32))) (x0 := x1) (x1 := (0 : Int32)) (x2 := (1 : Int32))  rfl) rfl ?_
  change am_At _ _ _ 12 [_, _, _, _, _, _, _, _] [_, _] _ _
  refine am_if_ne (7) 19 dX12_nose_12 rfl ?_ ?_
  · intro hc1n
    have hc1n : ¬ ((f_X12_in x1 (0 : Int32) (1 : Int32)) = 0) := hc1n
    replace hyp := it_neg hc1n hyp
    refine am_iconst 0 (v := 0) dX12_nose_19 (by decide) ?_
    refine am_iconst 1 (v := 1) dX12_nose_20 (by decide) ?_
    refine am_iconst 1 (v := 1) dX12_nose_21 (by decide) ?_
    obtain ⟨⟨v2, M2⟩, hk2, hyp⟩ := bd_some hyp
    try dsimp only at hyp
    refine am_callV [_, _, _] dX12_nose_22 ml_X12_179 vm_X12_bad (sh_54 g) rfl (fun _ => Nat.le_of_ble_eq_true rfl) (by omega) rfl (ef_X12_bad (d := d + 2) (h := h) g hk2) rfl ?_
    change am_At _ _ _ 25 [_, _, _, _, _, _, _, _] [_] _ _
    refine am_if_eq (5) 30 dX12_nose_25 rfl ?_ ?_
    · intro hc3
      have hc3 : v2 = 0 := hc3
      replace hyp := it_pos hc3 hyp
      refine am_iconst 0 (v := 0) dX12_nose_30 (by decide) ?_
      refine am_istore_n dX12_nose_31 (am_lb rfl) ?_
      change am_At _ _ _ 32 [_, _, _, _, _, _, _, _] [] _ _
      obtain ⟨M9, hw9, hyp⟩ := bd_some hyp
      try dsimp only at hyp
      refine eL_X12_nose_32 (d := d) (h := h) g  FU ((0 : Int32), M2) M9 hw9 ?_
      change am_At _ _ _ 67 [_, _, _, _, _, _, _, _] [] _ _
      refine am_iconst 0 (v := 0) dX12_nose_67 (by decide) ?_
      refine am_istore_n dX12_nose_68 (am_lb rfl) ?_
      change am_At _ _ _ 69 [_, _, _, _, _, _, _, _] [] _ _
      obtain ⟨M18, hw18, hyp⟩ := bd_some hyp
      try dsimp only at hyp
      refine eL_X12_nose_69 (d := d) (h := h) g  FU ((0 : Int32), M9) M18 hw18 ?_
      change am_At _ _ _ 133 [_, _, _, _, _, _, _, _] [] _ _
      refine am_iconst (-1) (v := (-1)) dX12_nose_133 (by decide) ?_
      refine am_istore_n dX12_nose_134 (am_lb rfl) ?_
      change am_At _ _ _ 135 [_, _, _, _, _, _, _, _] [] _ _
      refine am_iconst (-1) (v := (-1)) dX12_nose_135 (by decide) ?_
      refine am_istore_n dX12_nose_136 (am_lb rfl) ?_
      change am_At _ _ _ 137 [_, _, _, _, _, _, _, _] [] _ _
      refine am_iconst 0 (v := 0) dX12_nose_137 (by decide) ?_
      refine am_istore dX12_nose_138 (am_lb rfl) ?_
      change am_At _ _ _ 140 [_, _, _, _, _, _, _, _] [] _ _
      obtain ⟨⟨x2_32, x3_32⟩, hw32, hyp⟩ := bd_some hyp
      try dsimp only at hyp
      refine eL_X12_nose_140 (d := d) (h := h) g (M := M18) FU ((-1 : Int32), (-1 : Int32), (0 : Int32)) (x2_32, x3_32) hw32 ?_
      change am_At _ _ _ 265 [_, _, _, _, _, _, _, _] [] _ _
      refine am_iload_n dX12_nose_265 rfl ?_
      refine am_if_ne (7) 273 dX12_nose_266 rfl ?_ ?_
      · intro hc33n
        have hc33n : ¬ (x1 = 0) := hc33n
        replace hyp := it_neg hc33n hyp
        refine am_iload_n dX12_nose_273 rfl ?_
        cases hyp
        exact am_iret dX12_nose_274 rfl
      · intro hc33
        have hc33 : x1 = 0 := hc33
        replace hyp := it_pos hc33 hyp
        refine am_iload_n dX12_nose_269 rfl ?_
        refine am_goto (4) 274 dX12_nose_270 rfl ?_
        cases hyp
        exact am_iret dX12_nose_274 rfl
    · intro hc3n
      have hc3n : ¬ (v2 = 0) := hc3n
      replace hyp := it_neg hc3n hyp
      refine am_iconst 0 (v := 0) dX12_nose_28 (by decide) ?_
      cases hyp
      exact am_iret dX12_nose_29 rfl
  · intro hc1
    have hc1 : (f_X12_in x1 (0 : Int32) (1 : Int32)) = 0 := hc1
    replace hyp := it_pos hc1 hyp
    refine am_iconst 1 (v := 1) dX12_nose_15 (by decide) ?_
    refine am_goto (4) 20 dX12_nose_16 rfl ?_
    refine am_iconst 1 (v := 1) dX12_nose_20 (by decide) ?_
    refine am_iconst 1 (v := 1) dX12_nose_21 (by decide) ?_
    obtain ⟨⟨v34, M34⟩, hk34, hyp⟩ := bd_some hyp
    try dsimp only at hyp
    refine am_callV [_, _, _] dX12_nose_22 ml_X12_179 vm_X12_bad (sh_54 g) rfl (fun _ => Nat.le_of_ble_eq_true rfl) (by omega) rfl (ef_X12_bad (d := d + 2) (h := h) g hk34) rfl ?_
    change am_At _ _ _ 25 [_, _, _, _, _, _, _, _] [_] _ _
    refine am_if_eq (5) 30 dX12_nose_25 rfl ?_ ?_
    · intro hc35
      have hc35 : v34 = 0 := hc35
      replace hyp := it_pos hc35 hyp
      refine am_iconst 0 (v := 0) dX12_nose_30 (by decide) ?_
      refine am_istore_n dX12_nose_31 (am_lb rfl) ?_
      change am_At _ _ _ 32 [_, _, _, _, _, _, _, _] [] _ _
      obtain ⟨M36, hw36, hyp⟩ := bd_some hyp
      try dsimp only at hyp
      refine eL_X12_nose_32 (d := d) (h := h) g  FU ((0 : Int32), M34) M36 hw36 ?_
      change am_At _ _ _ 67 [_, _, _, _, _, _, _, _] [] _ _
      refine am_iconst 0 (v := 0) dX12_nose_67 (by decide) ?_
      refine am_istore_n dX12_nose_68 (am_lb rfl) ?_
      change am_At _ _ _ 69 [_, _, _, _, _, _, _, _] [] _ _
      obtain ⟨M37, hw37, hyp⟩ := bd_some hyp
      try dsimp only at hyp
      refine eL_X12_nose_69 (d := d) (h := h) g  FU ((0 : Int32), M36) M37 hw37 ?_
      change am_At _ _ _ 133 [_, _, _, _, _, _, _, _] [] _ _
      refine am_iconst (-1) (v := (-1)) dX12_nose_133 (by decide) ?_
      refine am_istore_n dX12_nose_134 (am_lb rfl) ?_
      change am_At _ _ _ 135 [_, _, _, _, _, _, _, _] [] _ _
      refine am_iconst (-1) (v := (-1)) dX12_nose_135 (by decide) ?_
      refine am_istore_n dX12_nose_136 (am_lb rfl) ?_
      change am_At _ _ _ 137 [_, _, _, _, _, _, _, _] [] _ _
      refine am_iconst 0 (v := 0) dX12_nose_137 (by decide) ?_
      refine am_istore dX12_nose_138 (am_lb rfl) ?_
      change am_At _ _ _ 140 [_, _, _, _, _, _, _, _] [] _ _
      obtain ⟨⟨x2_38, x3_38⟩, hw38, hyp⟩ := bd_some hyp
      try dsimp only at hyp
      refine eL_X12_nose_140 (d := d) (h := h) g (M := M37) FU ((-1 : Int32), (-1 : Int32), (0 : Int32)) (x2_38, x3_38) hw38 ?_
      change am_At _ _ _ 265 [_, _, _, _, _, _, _, _] [] _ _
      refine am_iload_n dX12_nose_265 rfl ?_
      refine am_if_ne (7) 273 dX12_nose_266 rfl ?_ ?_
      · intro hc39n
        have hc39n : ¬ (x1 = 0) := hc39n
        replace hyp := it_neg hc39n hyp
        refine am_iload_n dX12_nose_273 rfl ?_
        cases hyp
        exact am_iret dX12_nose_274 rfl
      · intro hc39
        have hc39 : x1 = 0 := hc39
        replace hyp := it_pos hc39 hyp
        refine am_iload_n dX12_nose_269 rfl ?_
        refine am_goto (4) 274 dX12_nose_270 rfl ?_
        cases hyp
        exact am_iret dX12_nose_274 rfl
    · intro hc35n
      have hc35n : ¬ (v34 = 0) := hc35n
      replace hyp := it_neg hc35n hyp
      refine am_iconst 0 (v := 0) dX12_nose_28 (by decide) ?_
      cases hyp
      exact am_iret dX12_nose_29 rfl
