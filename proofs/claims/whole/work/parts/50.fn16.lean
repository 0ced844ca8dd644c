theorem eL_X12_hourEnds_15_72 {d : Nat} {h : am_H} (g : lay h) {x2 : Int32} {r : am_R} (n : Nat) : ∀ (s : Int32 × Mem) (e : Mem), wh (L_X12_hourEnds_15 72 x2) n s = some e → ((fun (M : Mem) => am_At am_X0 (d + 7) mX12_hourEnds 42 [some (.inr (54, 0)), some (.inr (72, 0)), some (am_I (x2)), none] [] (am_hM h M) r) e) → (match s with | (x3, M) => am_At am_X0 (d + 7) mX12_hourEnds 15 [some (.inr (54, 0)), some (.inr (72, 0)), some (am_I (x2)), some (am_I (x3))] [] (am_hM h M) r) := by
  refine am_wh (At := fun (s : Int32 × Mem) => match s with | (x3, M) => am_At am_X0 (d + 7) mX12_hourEnds 15 [some (.inr (54, 0)), some (.inr (72, 0)), some (am_I (x2)), some (am_I (x3))] [] (am_hM h M) r) (Ex := fun (e : Mem) => (fun (M : Mem) => am_At am_X0 (d + 7) mX12_hourEnds 42 [some (.inr (54, 0)), some (.inr (72, 0)), some (am_I (x2)), none] [] (am_hM h M) r) e) ?_ n
  rintro ⟨x3, M⟩ y hyp hx
  unfold L_X12_hourEnds_15 at hyp
  try dsimp only at hyp
  change am_At _ _ _ 15 [_, _, _, _] [] _ _
  refine am_iload_n dX12_hourEnds_15 rfl ?_
  refine am_aload_n dX12_hourEnds_16 rfl ?_
  refine am_getR 12 12 58 dX12_hourEnds_17 fg_X12_23 (sh_54 g) (by decide) rfl (rf_54_12 g) ?_
  refine am_iconst 0 (v := 0) dX12_hourEnds_20 (by decide) ?_
  refine am_iald dX12_hourEnds_21 (am_ia.one (sh_58 g)) (am_lit rfl) ?_
  refine am_icmp_ge (20) 42 dX12_hourEnds_22 rfl ?_ ?_
  · intro hc2
    have hc2 : (M 58 0 0) ≤ x3 := hc2
    replace hyp := it_pos hc2 hyp
    cases hyp
    refine am_At.drop 3 ?_
    exact hx
  · intro hc2n
    have hc2n : ¬ ((M 58 0 0) ≤ x3) := hc2n
    replace hyp := it_neg hc2n hyp
    refine am_aload_n dX12_hourEnds_25 rfl ?_
    refine am_getR 12 31 74 dX12_hourEnds_26 fg_X12_73 (sh_54 g) (by decide) rfl (rf_54_31 g) ?_
    refine am_iload_n dX12_hourEnds_29 rfl ?_
    refine am_iload_n dX12_hourEnds_30 rfl ?_
    refine am_iload_n dX12_hourEnds_31 rfl ?_
    refine am_ishr dX12_hourEnds_32 ?_
    refine am_iconst 1 (v := 1) dX12_hourEnds_33 (by decide) ?_
    refine am_iand dX12_hourEnds_34 ?_
    obtain ⟨hg3, hyp⟩ := gd_some hyp
    refine am_iast dX12_hourEnds_35 (am_ia.one (sh_74 g)) (am_lit hg3) ?_
    refine am_iinc dX12_hourEnds_36 rfl (am_ix _) ?_
    change am_At _ _ _ 39 [_, _, _, _] [] _ _
    refine am_goto (-24) 15 dX12_hourEnds_39 rfl ?_
    cases hyp
    exact hx
theorem eL_X12_hourEnds_44_72 {d : Nat} {h : am_H} (g : lay h) {r : am_R} (n : Nat) : ∀ (s : Int32 × Mem) (e : Mem), wh (L_X12_hourEnds_44 72) n s = some e → ((fun (M : Mem) => am_At am_X0 (d + 7) mX12_hourEnds 119 [some (.inr (54, 0)), some (.inr (72, 0)), none, none] [] (am_hM h M) r) e) → (match s with | (x3, M) => am_At am_X0 (d + 7) mX12_hourEnds 44 [some (.inr (54, 0)), some (.inr (72, 0)), none, some (am_I (x3))] [] (am_hM h M) r) := by
  refine am_wh (At := fun (s : Int32 × Mem) => match s with | (x3, M) => am_At am_X0 (d + 7) mX12_hourEnds 44 [some (.inr (54, 0)), some (.inr (72, 0)), none, some (am_I (x3))] [] (am_hM h M) r) (Ex := fun (e : Mem) => (fun (M : Mem) => am_At am_X0 (d + 7) mX12_hourEnds 119 [some (.inr (54, 0)), some (.inr (72, 0)), none, none] [] (am_hM h M) r) e) ?_ n
  rintro ⟨x3, M⟩ y hyp hx
  unfold L_X12_hourEnds_44 at hyp
  try dsimp only at hyp
  change am_At _ _ _ 44 [_, _, _, _] [] _ _
  refine am_iload_n dX12_hourEnds_44 rfl ?_
  refine am_aload_n dX12_hourEnds_45 rfl ?_
  refine am_getR 12 12 58 dX12_hourEnds_46 fg_X12_23 (sh_54 g) (by decide) rfl (rf_54_12 g) ?_
  refine am_iconst 0 (v := 0) dX12_hourEnds_49 (by decide) ?_
  refine am_iald dX12_hourEnds_50 (am_ia.one (sh_58 g)) (am_lit rfl) ?_
  refine am_icmp_ge (68) 119 dX12_hourEnds_51 rfl ?_ ?_
  · intro hc5
    have hc5 : (M 58 0 0) ≤ x3 := hc5
    replace hyp := it_pos hc5 hyp
    cases hyp
    refine am_At.drop 3 ?_
    exact hx
  · intro hc5n
    have hc5n : ¬ ((M 58 0 0) ≤ x3) := hc5n
    replace hyp := it_neg hc5n hyp
    refine am_aload_n dX12_hourEnds_54 rfl ?_
    refine am_getI 12 39 dX12_hourEnds_55 fg_X12_280 (sh_54 g) (by decide) rfl ?_
    refine am_iload_n dX12_hourEnds_58 rfl ?_
    refine am_callS (c := 0) (k := 0) (n := 0) (w := 0) [_, _] dX12_hourEnds_59 ml_X12_258 sm_X12_has rfl (fun _ => Nat.le_of_ble_eq_true rfl) (by omega) rfl (ef_X12_has (d := d + 6) (h := am_hM h M) (x0 := (M 54 0 39)) (x1 := x3)  rfl) rfl ?_
    change am_At _ _ _ 62 [_, _, _, _] [_] _ _
    refine am_if_ne (51) 113 dX12_hourEnds_62 rfl ?_ ?_
    · intro hc6n
      have hc6n : ¬ ((f_X12_has (M 54 0 39) x3) = 0) := hc6n
      replace hyp := it_neg hc6n hyp
      refine am_iinc dX12_hourEnds_113 rfl (am_ix _) ?_
      change am_At _ _ _ 116 [_, _, _, _] [] _ _
      refine am_goto (-72) 44 dX12_hourEnds_116 rfl ?_
      cases hyp
      exact hx
    · intro hc6
      have hc6 : (f_X12_has (M 54 0 39) x3) = 0 := hc6
      replace hyp := it_pos hc6 hyp
      refine am_aload_n dX12_hourEnds_65 rfl ?_
      refine am_iconst 0 (v := 0) dX12_hourEnds_66 (by decide) ?_
      refine am_iload_n dX12_hourEnds_67 rfl ?_
      refine am_iadd dX12_hourEnds_68 ?_
      obtain ⟨hg7, hyp⟩ := gd_some hyp
      refine am_iald dX12_hourEnds_69 (am_ia.one (sh_72 g)) (am_lit hg7) ?_
      refine am_if_ne (6) 76 dX12_hourEnds_70 rfl ?_ ?_
      · intro hc8n
        have hc8n : ¬ ((M 72 0 (((0 : Int32) + x3).toNatClampNeg)) = 0) := hc8n
        replace hyp := it_neg hc8n hyp
        refine am_aload_n dX12_hourEnds_76 rfl ?_
        refine am_bipush 16 (v := 16) dX12_hourEnds_77 (by decide) ?_
        refine am_iload_n dX12_hourEnds_79 rfl ?_
        refine am_iadd dX12_hourEnds_80 ?_
        refine am_dup2 dX12_hourEnds_81 (fun _ => rfl) (fun _ => rfl) ?_
        obtain ⟨hg9, hyp⟩ := gd_some hyp
        refine am_iald dX12_hourEnds_82 (am_ia.one (sh_72 g)) (am_lit hg9) ?_
        refine am_aload_n dX12_hourEnds_83 rfl ?_
        refine am_aload_n dX12_hourEnds_84 rfl ?_
        refine am_iload_n dX12_hourEnds_85 rfl ?_
        obtain ⟨⟨v10, M10⟩, hk10, hyp⟩ := bd_some hyp
        try dsimp only at hyp
        refine am_callV [_, _] dX12_hourEnds_86 ml_X12_269 vm_X12_isLawfulNow (sh_54 g) rfl (fun _ => Nat.le_of_ble_eq_true rfl) (by omega) rfl (ef_X12_isLawfulNow_72 (d := d + 2) (h := h) g hk10) rfl ?_
        change am_At _ _ _ 89 [_, _, _, _] [_, _, _, _] _ _
        refine am_aload_n dX12_hourEnds_89 rfl ?_
        refine am_iconst 0 (v := 0) dX12_hourEnds_90 (by decide) ?_
        refine am_iload_n dX12_hourEnds_91 rfl ?_
        refine am_iadd dX12_hourEnds_92 ?_
        refine am_iald dX12_hourEnds_93 (am_ia.one (sh_72 g)) (am_lit hg7) ?_
        refine am_iconst 1 (v := 1) dX12_hourEnds_94 (by decide) ?_
        refine am_icmp_ne (7) 102 dX12_hourEnds_95 rfl ?_ ?_
        · intro hc11n
          have hc11n : ¬ ((M10 72 0 (((0 : Int32) + x3).toNatClampNeg)) = (1 : Int32)) := hc11n
          replace hyp := it_neg hc11n hyp
          refine am_iconst 0 (v := 0) dX12_hourEnds_102 (by decide) ?_
          refine am_icmp_eq (7) 110 dX12_hourEnds_103 rfl ?_ ?_
          · intro hc12
            have hc12 : v10 = (0 : Int32) := hc12
            replace hyp := it_pos hc12 hyp
            refine am_iconst 0 (v := 0) dX12_hourEnds_110 (by decide) ?_
            refine am_iadd dX12_hourEnds_111 ?_
            refine am_iast dX12_hourEnds_112 (am_ia.one (sh_72 g)) (am_lit hg9) ?_
            refine am_iinc dX12_hourEnds_113 rfl (am_ix _) ?_
            change am_At _ _ _ 116 [_, _, _, _] [] _ _
            refine am_goto (-72) 44 dX12_hourEnds_116 rfl ?_
            cases hyp
            exact hx
          · intro hc12n
            have hc12n : ¬ (v10 = (0 : Int32)) := hc12n
            replace hyp := it_neg hc12n hyp
            refine am_iconst 1 (v := 1) dX12_hourEnds_106 (by decide) ?_
            refine am_goto (4) 111 dX12_hourEnds_107 rfl ?_
            refine am_iadd dX12_hourEnds_111 ?_
            refine am_iast dX12_hourEnds_112 (am_ia.one (sh_72 g)) (am_lit hg9) ?_
            refine am_iinc dX12_hourEnds_113 rfl (am_ix _) ?_
            change am_At _ _ _ 116 [_, _, _, _] [] _ _
            refine am_goto (-72) 44 dX12_hourEnds_116 rfl ?_
            cases hyp
            exact hx
        · intro hc11
          have hc11 : (M10 72 0 (((0 : Int32) + x3).toNatClampNeg)) = (1 : Int32) := hc11
          replace hyp := it_pos hc11 hyp
          refine am_iconst 1 (v := 1) dX12_hourEnds_98 (by decide) ?_
          refine am_goto (4) 103 dX12_hourEnds_99 rfl ?_
          refine am_icmp_eq (7) 110 dX12_hourEnds_103 rfl ?_ ?_
          · intro hc13
            have hc13 : v10 = (1 : Int32) := hc13
            replace hyp := it_pos hc13 hyp
            refine am_iconst 0 (v := 0) dX12_hourEnds_110 (by decide) ?_
            refine am_iadd dX12_hourEnds_111 ?_
            refine am_iast dX12_hourEnds_112 (am_ia.one (sh_72 g)) (am_lit hg9) ?_
            refine am_iinc dX12_hourEnds_113 rfl (am_ix _) ?_
            change am_At _ _ _ 116 [_, _, _, _] [] _ _
            refine am_goto (-72) 44 dX12_hourEnds_116 rfl ?_
            cases hyp
            exact hx
          · intro hc13n
            have hc13n : ¬ (v10 = (1 : Int32)) := hc13n
            replace hyp := it_neg hc13n hyp
            refine am_iconst 1 (v := 1) dX12_hourEnds_106 (by decide) ?_
            refine am_goto (4) 111 dX12_hourEnds_107 rfl ?_
            refine am_iadd dX12_hourEnds_111 ?_
            refine am_iast dX12_hourEnds_112 (am_ia.one (sh_72 g)) (am_lit hg9) ?_
            refine am_iinc dX12_hourEnds_113 rfl (am_ix _) ?_
            change am_At _ _ _ 116 [_, _, _, _] [] _ _
            refine am_goto (-72) 44 dX12_hourEnds_116 rfl ?_
            cases hyp
            exact hx
      · intro hc8
        have hc8 : (M 72 0 (((0 : Int32) + x3).toNatClampNeg)) = 0 := hc8
        replace hyp := it_pos hc8 hyp
        refine am_goto (40) 113 dX12_hourEnds_73 rfl ?_
        refine am_iinc dX12_hourEnds_113 rfl (am_ix _) ?_
        change am_At _ _ _ 116 [_, _, _, _] [] _ _
        refine am_goto (-72) 44 dX12_hourEnds_116 rfl ?_
        cases hyp
        exact hx
theorem eL_X12_hourEnds_121_72 {d : Nat} {h : am_H} (g : lay h) {r : am_R} (n : Nat) : ∀ (s : Int32 × Mem) (e : Mem), wh (L_X12_hourEnds_121 72) n s = some e → ((fun (M : Mem) => am_At am_X0 (d + 7) mX12_hourEnds 147 [some (.inr (54, 0)), some (.inr (72, 0)), none, none] [] (am_hM h M) r) e) → (match s with | (x3, M) => am_At am_X0 (d + 7) mX12_hourEnds 121 [some (.inr (54, 0)), some (.inr (72, 0)), none, some (am_I (x3))] [] (am_hM h M) r) := by
  refine am_wh (At := fun (s : Int32 × Mem) => match s with | (x3, M) => am_At am_X0 (d + 7) mX12_hourEnds 121 [some (.inr (54, 0)), some (.inr (72, 0)), none, some (am_I (x3))] [] (am_hM h M) r) (Ex := fun (e : Mem) => (fun (M : Mem) => am_At am_X0 (d + 7) mX12_hourEnds 147 [some (.inr (54, 0)), some (.inr (72, 0)), none, none] [] (am_hM h M) r) e) ?_ n
  rintro ⟨x3, M⟩ y hyp hx
  unfold L_X12_hourEnds_121 at hyp
  try dsimp only at hyp
  change am_At _ _ _ 121 [_, _, _, _] [] _ _
  refine am_iload_n dX12_hourEnds_121 rfl ?_
  refine am_iconst 4 (v := 4) dX12_hourEnds_122 (by decide) ?_
  refine am_icmp_gt (24) 147 dX12_hourEnds_123 rfl ?_ ?_
  · intro hc15
    have hc15 : (4 : Int32) < x3 := hc15
    replace hyp := it_pos hc15 hyp
    cases hyp
    refine am_At.drop 3 ?_
    exact hx
  · intro hc15n
    have hc15n : ¬ ((4 : Int32) < x3) := hc15n
    replace hyp := it_neg hc15n hyp
    refine am_aload_n dX12_hourEnds_126 rfl ?_
    refine am_aload_n dX12_hourEnds_127 rfl ?_
    refine am_iload_n dX12_hourEnds_128 rfl ?_
    refine am_callV [_, _] dX12_hourEnds_129 ml_X12_283 vm_X12_isBarge (sh_54 g) rfl (fun _ => Nat.le_of_ble_eq_true rfl) (by omega) rfl (ef_X12_isBarge_72 (d := d + 6) (h := h) g (x2 := x3) (M := M) rfl) rfl ?_
    change am_At _ _ _ 132 [_, _, _, _] [_] _ _
    refine am_if_eq (9) 141 dX12_hourEnds_132 rfl ?_ ?_
    · intro hc16
      have hc16 : (f_X12_isBarge 72 x3 M) = 0 := hc16
      replace hyp := it_pos hc16 hyp
      refine am_iinc dX12_hourEnds_141 rfl (am_ix _) ?_
      change am_At _ _ _ 144 [_, _, _, _] [] _ _
      refine am_goto (-23) 121 dX12_hourEnds_144 rfl ?_
      cases hyp
      exact hx
    · intro hc16n
      have hc16n : ¬ ((f_X12_isBarge 72 x3 M) = 0) := hc16n
      replace hyp := it_neg hc16n hyp
      refine am_aload_n dX12_hourEnds_135 rfl ?_
      refine am_aload_n dX12_hourEnds_136 rfl ?_
      refine am_iload_n dX12_hourEnds_137 rfl ?_
      obtain ⟨M17, hk17, hyp⟩ := bd_some hyp
      try dsimp only at hyp
      refine am_callV [_, _] dX12_hourEnds_138 ml_X12_286 vm_X12_goesOn (sh_54 g) rfl (fun _ => Nat.le_of_ble_eq_true rfl) (by omega) rfl (ef_X12_goesOn_72 (d := d + 5) (h := h) g hk17) rfl ?_
      change am_At _ _ _ 141 [_, _, _, _] [] _ _
      refine am_iinc dX12_hourEnds_141 rfl (am_ix _) ?_
      change am_At _ _ _ 144 [_, _, _, _] [] _ _
      refine am_goto (-23) 121 dX12_hourEnds_144 rfl ?_
      cases hyp
      exact hx
theorem ef_X12_hourEnds_72 {d : Nat} {h : am_H} (g : lay h) {M : Mem} {M' : Mem} (hyp : f_X12_hourEnds 72 M = some M') : am_Ev (d + 7) mX12_hourEnds [.inr (54, 0), .inr (72, 0)] (am_hM h M) (.inl (none, am_hM h M')) := by
  unfold f_X12_hourEnds at hyp
  refine am_Ev.mk (by decide +kernel) rfl rfl (Nat.le_refl _) (Nat.le_refl _) ?_
  change am_At _ _ _ 0 [_, _, _, _] [] _ _
  refine am_aload_n dX12_hourEnds_0 rfl ?_
  refine am_aload_n dX12_hourEnds_1 rfl ?_
  obtain ⟨⟨v1, M1⟩, hk1, hyp⟩ := bd_some hyp
  try dsimp only at hyp
  refine am_callV [_] dX12_hourEnds_2 ml_X12_276 vm_X12_openBits (sh_54 g) rfl (fun _ => Nat.le_of_ble_eq_true rfl) (by omega) rfl (ef_X12_openBits_72 (d := d + 0) (h := h) g hk1) rfl ?_
  change am_At _ _ _ 5 [_, _, _, _] [_] _ _
  refine am_aload_n dX12_hourEnds_5 rfl ?_
  refine am_getI 12 39 dX12_hourEnds_6 fg_X12_280 (sh_54 g) (by decide) rfl ?_
  refine am_iconst (-1) (v := (-1)) dX12_hourEnds_9 (by decide) ?_
  refine am_ixor dX12_hourEnds_10 ?_
  refine am_iand dX12_hourEnds_11 ?_
  refine am_istore_n dX12_hourEnds_12 (am_lb rfl) ?_
  change am_At _ _ _ 13 [_, _, _, _] [] _ _
  refine am_iconst 0 (v := 0) dX12_hourEnds_13 (by decide) ?_
  refine am_istore_n dX12_hourEnds_14 (am_lb rfl) ?_
  change am_At _ _ _ 15 [_, _, _, _] [] _ _
  obtain ⟨M4, hw4, hyp⟩ := bd_some hyp
  try dsimp only at hyp
  refine eL_X12_hourEnds_15_72 (d := d) (h := h) g  FU ((0 : Int32), M1) M4 hw4 ?_
  change am_At _ _ _ 42 [_, _, _, _] [] _ _
  refine am_iconst 0 (v := 0) dX12_hourEnds_42 (by decide) ?_
  refine am_istore_n dX12_hourEnds_43 (am_lb rfl) ?_
  change am_At _ _ _ 44 [_, _, _, _] [] _ _
  obtain ⟨M14, hw14, hyp⟩ := bd_some hyp
  refine am_At.drop 2 ?_
  try dsimp only at hyp
  refine eL_X12_hourEnds_44_72 (d := d) (h := h) g  FU ((0 : Int32), M4) M14 hw14 ?_
  change am_At _ _ _ 119 [_, _, _, _] [] _ _
  refine am_iconst 0 (v := 0) dX12_hourEnds_119 (by decide) ?_
  refine am_istore_n dX12_hourEnds_120 (am_lb rfl) ?_
  change am_At _ _ _ 121 [_, _, _, _] [] _ _
  obtain ⟨M18, hw18, hyp⟩ := bd_some hyp
  try dsimp only at hyp
  refine eL_X12_hourEnds_121_72 (d := d) (h := h) g  FU ((0 : Int32), M14) M18 hw18 ?_
  change am_At _ _ _ 147 [_, _, _, _] [] _ _
  refine am_aload_n dX12_hourEnds_147 rfl ?_
  refine am_bipush 63 (v := 63) dX12_hourEnds_148 (by decide) ?_
  refine am_dup2 dX12_hourEnds_150 (fun _ => rfl) (fun _ => rfl) ?_
  refine am_iald dX12_hourEnds_151 (am_ia.one (sh_72 g)) (am_lit rfl) ?_
  refine am_iconst 1 (v := 1) dX12_hourEnds_152 (by decide) ?_
  refine am_iadd dX12_hourEnds_153 ?_
  refine am_iast dX12_hourEnds_154 (am_ia.one (sh_72 g)) (am_lit rfl) ?_
  cases hyp
  exact am_vret dX12_hourEnds_155 rfl
theorem eL_X12_hourEnds_15_73 {d : Nat} {h : am_H} (g : lay h) {x2 : Int32} {r : am_R} (n : Nat) : ∀ (s : Int32 × Mem) (e : Mem), wh (L_X12_hourEnds_15 73 x2) n s = some e → ((fun (M : Mem) => am_At am_X0 (d + 7) mX12_hourEnds 42 [some (.inr (54, 0)), some (.inr (73, 0)), some (am_I (x2)), none] [] (am_hM h M) r) e) → (match s with | (x3, M) => am_At am_X0 (d + 7) mX12_hourEnds 15 [some (.inr (54, 0)), some (.inr (73, 0)), some (am_I (x2)), some (am_I (x3))] [] (am_hM h M) r) := by
  refine am_wh (At := fun (s : Int32 × Mem) => match s with | (x3, M) => am_At am_X0 (d + 7) mX12_hourEnds 15 [some (.inr (54, 0)), some (.inr (73, 0)), some (am_I (x2)), some (am_I (x3))] [] (am_hM h M) r) (Ex := fun (e : Mem) => (fun (M : Mem) => am_At am_X0 (d + 7) mX12_hourEnds 42 [some (.inr (54, 0)), some (.inr (73, 0)), some (am_I (x2)), none] [] (am_hM h M) r) e) ?_ n
  rintro ⟨x3, M⟩ y hyp hx
  unfold L_X12_hourEnds_15 at hyp
  try dsimp only at hyp
  change am_At _ _ _ 15 [_, _, _, _] [] _ _
  refine am_iload_n dX12_hourEnds_15 rfl ?_
  refine am_aload_n dX12_hourEnds_16 rfl ?_
  refine am_getR 12 12 58 dX12_hourEnds_17 fg_X12_23 (sh_54 g) (by decide) rfl (rf_54_12 g) ?_
  refine am_iconst 0 (v := 0) dX12_hourEnds_20 (by decide) ?_
  refine am_iald dX12_hourEnds_21 (am_ia.one (sh_58 g)) (am_lit rfl) ?_
  refine am_icmp_ge (20) 42 dX12_hourEnds_22 rfl ?_ ?_
  · intro hc2
    have hc2 : (M 58 0 0) ≤ x3 := hc2
    replace hyp := it_pos hc2 hyp
    cases hyp
    refine am_At.drop 3 ?_
    exact hx
  · intro hc2n
    have hc2n : ¬ ((M 58 0 0) ≤ x3) := hc2n
    replace hyp := it_neg hc2n hyp
    refine am_aload_n dX12_hourEnds_25 rfl ?_
    refine am_getR 12 31 74 dX12_hourEnds_26 fg_X12_73 (sh_54 g) (by decide) rfl (rf_54_31 g) ?_
    refine am_iload_n dX12_hourEnds_29 rfl ?_
    refine am_iload_n dX12_hourEnds_30 rfl ?_
    refine am_iload_n dX12_hourEnds_31 rfl ?_
    refine am_ishr dX12_hourEnds_32 ?_
    refine am_iconst 1 (v := 1) dX12_hourEnds_33 (by decide) ?_
    refine am_iand dX12_hourEnds_34 ?_
    obtain ⟨hg3, hyp⟩ := gd_some hyp
    refine am_iast dX12_hourEnds_35 (am_ia.one (sh_74 g)) (am_lit hg3) ?_
    refine am_iinc dX12_hourEnds_36 rfl (am_ix _) ?_
    change am_At _ _ _ 39 [_, _, _, _] [] _ _
    refine am_goto (-24) 15 dX12_hourEnds_39 rfl ?_
    cases hyp
    exact hx
theorem eL_X12_hourEnds_44_73 {d : Nat} {h : am_H} (g : lay h) {r : am_R} (n : Nat) : ∀ (s : Int32 × Mem) (e : Mem), wh (L_X12_hourEnds_44 73) n s = some e → ((fun (M : Mem) => am_At am_X0 (d + 7) mX12_hourEnds 119 [some (.inr (54, 0)), some (.inr (73, 0)), none, none] [] (am_hM h M) r) e) → (match s with | (x3, M) => am_At am_X0 (d + 7) mX12_hourEnds 44 [some (.inr (54, 0)), some (.inr (73, 0)), none, some (am_I (x3))] [] (am_hM h M) r) := by
  refine am_wh (At := fun (s : Int32 × Mem) => match s with | (x3, M) => am_At am_X0 (d + 7) mX12_hourEnds 44 [some (.inr (54, 0)), some (.inr (73, 0)), none, some (am_I (x3))] [] (am_hM h M) r) (Ex := fun (e : Mem) => (fun (M : Mem) => am_At am_X0 (d + 7) mX12_hourEnds 119 [some (.inr (54, 0)), some (.inr (73, 0)), none, none] [] (am_hM h M) r) e) ?_ n
  rintro ⟨x3, M⟩ y hyp hx
  unfold L_X12_hourEnds_44 at hyp
  try dsimp only at hyp
  change am_At _ _ _ 44 [_, _, _, _] [] _ _
  refine am_iload_n dX12_hourEnds_44 rfl ?_
  refine am_aload_n dX12_hourEnds_45 rfl ?_
  refine am_getR 12 12 58 dX12_hourEnds_46 fg_X12_23 (sh_54 g) (by decide) rfl (rf_54_12 g) ?_
  refine am_iconst 0 (v := 0) dX12_hourEnds_49 (by decide) ?_
  refine am_iald dX12_hourEnds_50 (am_ia.one (sh_58 g)) (am_lit rfl) ?_
  refine am_icmp_ge (68) 119 dX12_hourEnds_51 rfl ?_ ?_
  · intro hc5
    have hc5 : (M 58 0 0) ≤ x3 := hc5
    replace hyp := it_pos hc5 hyp
    cases hyp
    refine am_At.drop 3 ?_
    exact hx
  · intro hc5n
    have hc5n : ¬ ((M 58 0 0) ≤ x3) := hc5n
    replace hyp := it_neg hc5n hyp
    refine am_aload_n dX12_hourEnds_54 rfl ?_
    refine am_getI 12 39 dX12_hourEnds_55 fg_X12_280 (sh_54 g) (by decide) rfl ?_
    refine am_iload_n dX12_hourEnds_58 rfl ?_
    refine am_callS (c := 0) (k := 0) (n := 0) (w := 0) [_, _] dX12_hourEnds_59 ml_X12_258 sm_X12_has rfl (fun _ => Nat.le_of_ble_eq_true rfl) (by omega) rfl (ef_X12_has (d := d + 6) (h := am_hM h M) (x0 := (M 54 0 39)) (x1 := x3)  rfl) rfl ?_
    change am_At _ _ _ 62 [_, _, _, _] [_] _ _
    refine am_if_ne (51) 113 dX12_hourEnds_62 rfl ?_ ?_
    · intro hc6n
      have hc6n : ¬ ((f_X12_has (M 54 0 39) x3) = 0) := hc6n
      replace hyp := it_neg hc6n hyp
      refine am_iinc dX12_hourEnds_113 rfl (am_ix _) ?_
      change am_At _ _ _ 116 [_, _, _, _] [] _ _
      refine am_goto (-72) 44 dX12_hourEnds_116 rfl ?_
      cases hyp
      exact hx
    · intro hc6
      have hc6 : (f_X12_has (M 54 0 39) x3) = 0 := hc6
      replace hyp := it_pos hc6 hyp
      refine am_aload_n dX12_hourEnds_65 rfl ?_
      refine am_iconst 0 (v := 0) dX12_hourEnds_66 (by decide) ?_
      refine am_iload_n dX12_hourEnds_67 rfl ?_
      refine am_iadd dX12_hourEnds_68 ?_
      obtain ⟨hg7, hyp⟩ := gd_some hyp
      refine am_iald dX12_hourEnds_69 (am_ia.one (sh_73 g)) (am_lit hg7) ?_
      refine am_if_ne (6) 76 dX12_hourEnds_70 rfl ?_ ?_
      · intro hc8n
        have hc8n : ¬ ((M 73 0 (((0 : Int32) + x3).toNatClampNeg)) = 0) := hc8n
        replace hyp := it_neg hc8n hyp
        refine am_aload_n dX12_hourEnds_76 rfl ?_
        refine am_bipush 16 (v := 16) dX12_hourEnds_77 (by decide) ?_
        refine am_iload_n dX12_hourEnds_79 rfl ?_
        refine am_iadd dX12_hourEnds_80 ?_
        refine am_dup2 dX12_hourEnds_81 (fun _ => rfl) (fun _ => rfl) ?_
        obtain ⟨hg9, hyp⟩ := gd_some hyp
        refine am_iald dX12_hourEnds_82 (am_ia.one (sh_73 g)) (am_lit hg9) ?_
        refine am_aload_n dX12_hourEnds_83 rfl ?_
        refine am_aload_n dX12_hourEnds_84 rfl ?_
        refine am_iload_n dX12_hourEnds_85 rfl ?_
        obtain ⟨⟨v10, M10⟩, hk10, hyp⟩ := bd_some hyp
        try dsimp only at hyp
        refine am_callV [_, _] dX12_hourEnds_86 ml_X12_269 vm_X12_isLawfulNow (sh_54 g) rfl (fun _ => Nat.le_of_ble_eq_true rfl) (by omega) rfl (ef_X12_isLawfulNow_73 (d := d + 2) (h := h) g hk10) rfl ?_
        change am_At _ _ _ 89 [_, _, _, _] [_, _, _, _] _ _
        refine am_aload_n dX12_hourEnds_89 rfl ?_
        refine am_iconst 0 (v := 0) dX12_hourEnds_90 (by decide) ?_
        refine am_iload_n dX12_hourEnds_91 rfl ?_
        refine am_iadd dX12_hourEnds_92 ?_
        refine am_iald dX12_hourEnds_93 (am_ia.one (sh_73 g)) (am_lit hg7) ?_
        refine am_iconst 1 (v := 1) dX12_hourEnds_94 (by decide) ?_
        refine am_icmp_ne (7) 102 dX12_hourEnds_95 rfl ?_ ?_
        · intro hc11n
          have hc11n : ¬ ((M10 73 0 (((0 : Int32) + x3).toNatClampNeg)) = (1 : Int32)) := hc11n
          replace hyp := it_neg hc11n hyp
          refine am_iconst 0 (v := 0) dX12_hourEnds_102 (by decide) ?_
          refine am_icmp_eq (7) 110 dX12_hourEnds_103 rfl ?_ ?_
          · intro hc12
            have hc12 : v10 = (0 : Int32) := hc12
            replace hyp := it_pos hc12 hyp
            refine am_iconst 0 (v := 0) dX12_hourEnds_110 (by decide) ?_
            refine am_iadd dX12_hourEnds_111 ?_
            refine am_iast dX12_hourEnds_112 (am_ia.one (sh_73 g)) (am_lit hg9) ?_
            refine am_iinc dX12_hourEnds_113 rfl (am_ix _) ?_
            change am_At _ _ _ 116 [_, _, _, _] [] _ _
            refine am_goto (-72) 44 dX12_hourEnds_116 rfl ?_
            cases hyp
            exact hx
          · intro hc12n
            have hc12n : ¬ (v10 = (0 : Int32)) := hc12n
            replace hyp := it_neg hc12n hyp
            refine am_iconst 1 (v := 1) dX12_hourEnds_106 (by decide) ?_
            refine am_goto (4) 111 dX12_hourEnds_107 rfl ?_
            refine am_iadd dX12_hourEnds_111 ?_
            refine am_iast dX12_hourEnds_112 (am_ia.one (sh_73 g)) (am_lit hg9) ?_
            refine am_iinc dX12_hourEnds_113 rfl (am_ix _) ?_
            change am_At _ _ _ 116 [_, _, _, _] [] _ _
            refine am_goto (-72) 44 dX12_hourEnds_116 rfl ?_
            cases hyp
            exact hx
        · intro hc11
          have hc11 : (M10 73 0 (((0 : Int32) + x3).toNatClampNeg)) = (1 : Int32) := hc11
          replace hyp := it_pos hc11 hyp
          refine am_iconst 1 (v := 1) dX12_hourEnds_98 (by decide) ?_
          refine am_goto (4) 103 dX12_hourEnds_99 rfl ?_
          refine am_icmp_eq (7) 110 dX12_hourEnds_103 rfl ?_ ?_
          · intro hc13
            have hc13 : v10 = (1 : Int32) := hc13
            replace hyp := it_pos hc13 hyp
            refine am_iconst 0 (v := 0) dX12_hourEnds_110 (by decide) ?_
            refine am_iadd dX12_hourEnds_111 ?_
            refine am_iast dX12_hourEnds_112 (am_ia.one (sh_73 g)) (am_lit hg9) ?_
            refine am_iinc dX12_hourEnds_113 rfl (am_ix _) ?_
            change am_At _ _ _ 116 [_, _, _, _] [] _ _
            refine am_goto (-72) 44 dX12_hourEnds_116 rfl ?_
            cases hyp
            exact hx
          · intro hc13n
            have hc13n : ¬ (v10 = (1 : Int32)) := hc13n
            replace hyp := it_neg hc13n hyp
            refine am_iconst 1 (v := 1) dX12_hourEnds_106 (by decide) ?_
            refine am_goto (4) 111 dX12_hourEnds_107 rfl ?_
            refine am_iadd dX12_hourEnds_111 ?_
            refine am_iast dX12_hourEnds_112 (am_ia.one (sh_73 g)) (am_lit hg9) ?_
            refine am_iinc dX12_hourEnds_113 rfl (am_ix _) ?_
            change am_At _ _ _ 116 [_, _, _, _] [] _ _
            refine am_goto (-72) 44 dX12_hourEnds_116 rfl ?_
            cases hyp
            exact hx
      · intro hc8
        have hc8 : (M 73 0 (((0 : Int32) + x3).toNatClampNeg)) = 0 := hc8
        replace hyp := it_pos hc8 hyp
        refine am_goto (40) 113 dX12_hourEnds_73 rfl ?_
        refine am_iinc dX12_hourEnds_113 rfl (am_ix _) ?_
        change am_At _ _ _ 116 [_, _, _, _] [] _ _
        refine am_goto (-72) 44 dX12_hourEnds_116 rfl ?_
        cases hyp
        exact hx
theorem eL_X12_hourEnds_121_73 {d : Nat} {h : am_H} (g : lay h) {r : am_R} (n : Nat) : ∀ (s : Int32 × Mem) (e : Mem), wh (L_X12_hourEnds_121 73) n s = some e → ((fun (M : Mem) => am_At am_X0 (d + 7) mX12_hourEnds 147 [some (.inr (54, 0)), some (.inr (73, 0)), none, none] [] (am_hM h M) r) e) → (match s with | (x3, M) => am_At am_X0 (d + 7) mX12_hourEnds 121 [some (.inr (54, 0)), some (.inr (73, 0)), none, some (am_I (x3))] [] (am_hM h M) r) := by
  refine am_wh (At := fun (s : Int32 × Mem) => match s with | (x3, M) => am_At am_X0 (d + 7) mX12_hourEnds 121 [some (.inr (54, 0)), some (.inr (73, 0)), none, some (am_I (x3))] [] (am_hM h M) r) (Ex := fun (e : Mem) => (fun (M : Mem) => am_At am_X0 (d + 7) mX12_hourEnds 147 [some (.inr (54, 0)), some (.inr (73, 0)), none, none] [] (am_hM h M) r) e) ?_ n
  rintro ⟨x3, M⟩ y hyp hx
  unfold L_X12_hourEnds_121 at hyp
  try dsimp only at hyp
  change am_At _ _ _ 121 [_, _, _, _] [] _ _
  refine am_iload_n dX12_hourEnds_121 rfl ?_
  refine am_iconst 4 (v := 4) dX12_hourEnds_122 (by decide) ?_
  refine am_icmp_gt (24) 147 dX12_hourEnds_123 rfl ?_ ?_
  · intro hc15
    have hc15 : (4 : Int32) < x3 := hc15
    replace hyp := it_pos hc15 hyp
    cases hyp
    refine am_At.drop 3 ?_
    exact hx
  · intro hc15n
    have hc15n : ¬ ((4 : Int32) < x3) := hc15n
    replace hyp := it_neg hc15n hyp
    refine am_aload_n dX12_hourEnds_126 rfl ?_
    refine am_aload_n dX12_hourEnds_127 rfl ?_
    refine am_iload_n dX12_hourEnds_128 rfl ?_
    refine am_callV [_, _] dX12_hourEnds_129 ml_X12_283 vm_X12_isBarge (sh_54 g) rfl (fun _ => Nat.le_of_ble_eq_true rfl) (by omega) rfl (ef_X12_isBarge_73 (d := d + 6) (h := h) g (x2 := x3) (M := M) rfl) rfl ?_
    change am_At _ _ _ 132 [_, _, _, _] [_] _ _
    refine am_if_eq (9) 141 dX12_hourEnds_132 rfl ?_ ?_
    · intro hc16
      have hc16 : (f_X12_isBarge 73 x3 M) = 0 := hc16
      replace hyp := it_pos hc16 hyp
      refine am_iinc dX12_hourEnds_141 rfl (am_ix _) ?_
      change am_At _ _ _ 144 [_, _, _, _] [] _ _
      refine am_goto (-23) 121 dX12_hourEnds_144 rfl ?_
      cases hyp
      exact hx
    · intro hc16n
      have hc16n : ¬ ((f_X12_isBarge 73 x3 M) = 0) := hc16n
      replace hyp := it_neg hc16n hyp
      refine am_aload_n dX12_hourEnds_135 rfl ?_
      refine am_aload_n dX12_hourEnds_136 rfl ?_
      refine am_iload_n dX12_hourEnds_137 rfl ?_
      obtain ⟨M17, hk17, hyp⟩ := bd_some hyp
      try dsimp only at hyp
      refine am_callV [_, _] dX12_hourEnds_138 ml_X12_286 vm_X12_goesOn (sh_54 g) rfl (fun _ => Nat.le_of_ble_eq_true rfl) (by omega) rfl (ef_X12_goesOn_73 (d := d + 5) (h := h) g hk17) rfl ?_
      change am_At _ _ _ 141 [_, _, _, _] [] _ _
      refine am_iinc dX12_hourEnds_141 rfl (am_ix _) ?_
      change am_At _ _ _ 144 [_, _, _, _] [] _ _
      refine am_goto (-23) 121 dX12_hourEnds_144 rfl ?_
      cases hyp
      exact hx
theorem ef_X12_hourEnds_73 {d : Nat} {h : am_H} (g : lay h) {M : Mem} {M' : Mem} (hyp : f_X12_hourEnds 73 M = some M') : am_Ev (d + 7) mX12_hourEnds [.inr (54, 0), .inr (73, 0)] (am_hM h M) (.inl (none, am_hM h M')) := by
  unfold f_X12_hourEnds at hyp
  refine am_Ev.mk (by decide +kernel) rfl rfl (Nat.le_refl _) (Nat.le_refl _) ?_
  change am_At _ _ _ 0 [_, _, _, _] [] _ _
  refine am_aload_n dX12_hourEnds_0 rfl ?_
  refine am_aload_n dX12_hourEnds_1 rfl ?_
  obtain ⟨⟨v1, M1⟩, hk1, hyp⟩ := bd_some hyp
  try dsimp only at hyp
  refine am_callV [_] dX12_hourEnds_2 ml_X12_276 vm_X12_openBits (sh_54 g) rfl (fun _ => Nat.le_of_ble_eq_true rfl) (by omega) rfl (ef_X12_openBits_73 (d := d + 0) (h := h) g hk1) rfl ?_
  change am_At _ _ _ 5 [_, _, _, _] [_] _ _
  refine am_aload_n dX12_hourEnds_5 rfl ?_
  refine am_getI 12 39 dX12_hourEnds_6 fg_X12_280 (sh_54 g) (by decide) rfl ?_
  refine am_iconst (-1) (v := (-1)) dX12_hourEnds_9 (by decide) ?_
  refine am_ixor dX12_hourEnds_10 ?_
  refine am_iand dX12_hourEnds_11 ?_
  refine am_istore_n dX12_hourEnds_12 (am_lb rfl) ?_
  change am_At _ _ _ 13 [_, _, _, _] [] _ _
  refine am_iconst 0 (v := 0) dX12_hourEnds_13 (by decide) ?_
  refine am_istore_n dX12_hourEnds_14 (am_lb rfl) ?_
  change am_At _ _ _ 15 [_, _, _, _] [] _ _
  obtain ⟨M4, hw4, hyp⟩ := bd_some hyp
  try dsimp only at hyp
  refine eL_X12_hourEnds_15_73 (d := d) (h := h) g  FU ((0 : Int32), M1) M4 hw4 ?_
  change am_At _ _ _ 42 [_, _, _, _] [] _ _
  refine am_iconst 0 (v := 0) dX12_hourEnds_42 (by decide) ?_
  refine am_istore_n dX12_hourEnds_43 (am_lb rfl) ?_
  change am_At _ _ _ 44 [_, _, _, _] [] _ _
  obtain ⟨M14, hw14, hyp⟩ := bd_some hyp
  refine am_At.drop 2 ?_
  try dsimp only at hyp
  refine eL_X12_hourEnds_44_73 (d := d) (h := h) g  FU ((0 : Int32), M4) M14 hw14 ?_
  change am_At _ _ _ 119 [_, _, _, _] [] _ _
  refine am_iconst 0 (v := 0) dX12_hourEnds_119 (by decide) ?_
  refine am_istore_n dX12_hourEnds_120 (am_lb rfl) ?_
  change am_At _ _ _ 121 [_, _, _, _] [] _ _
  obtain ⟨M18, hw18, hyp⟩ := bd_some hyp
  try dsimp only at hyp
  refine eL_X12_hourEnds_121_73 (d := d) (h := h) g  FU ((0 : Int32), M14) M18 hw18 ?_
  change am_At _ _ _ 147 [_, _, _, _] [] _ _
  refine am_aload_n dX12_hourEnds_147 rfl ?_
  refine am_bipush 63 (v := 63) dX12_hourEnds_148 (by decide) ?_
  refine am_dup2 dX12_hourEnds_150 (fun _ => rfl) (fun _ => rfl) ?_
  refine am_iald dX12_hourEnds_151 (am_ia.one (sh_73 g)) (am_lit rfl) ?_
  refine am_iconst 1 (v := 1) dX12_hourEnds_152 (by decide) ?_
  refine am_iadd dX12_hourEnds_153 ?_
  refine am_iast dX12_hourEnds_154 (am_ia.one (sh_73 g)) (am_lit rfl) ?_
  cases hyp
  exact am_vret dX12_hourEnds_155 rfl
theorem ef_X12_does {d : Nat} {h : am_H} (g : lay h) {r2 : Nat} (hr2 : 0 < r2 ∧ r2 ≤ 80) {M : Mem} {v : Int32} {M' : Mem} (hyp : f_X12_does r2 M = some (v, M')) : am_Ev (d + 8) mX12_does [.inr (54, 0), .inr (72, 0), .inr (71, r2)] (am_hM h M) (.inl (some (am_I v), am_hM h M')) := by
  unfold f_X12_does at hyp
  refine am_Ev.mk (by decide +kernel) rfl rfl (Nat.le_refl _) (Nat.le_refl _) ?_
  change am_At _ _ _ 0 [_, _, _, _] [] _ _
  refine am_aload_n dX12_does_0 rfl ?_
  refine am_iconst 0 (v := 0) dX12_does_1 (by decide) ?_
  refine am_iald dX12_does_2 (am_ia.row (sh_71 g) (by omega) (by omega)) (am_lit rfl) ?_
  refine am_iconst 3 (v := 3) dX12_does_3 (by decide) ?_
  refine am_icmp_ne (22) 26 dX12_does_4 rfl ?_ ?_
  · intro hc1n
    have hc1n : ¬ ((M 71 r2 0) = (3 : Int32)) := hc1n
    replace hyp := it_neg hc1n hyp
    refine am_aload_n dX12_does_26 rfl ?_
    refine am_iconst 0 (v := 0) dX12_does_27 (by decide) ?_
    refine am_iald dX12_does_28 (am_ia.row (sh_71 g) (by omega) (by omega)) (am_lit rfl) ?_
    refine am_iconst 2 (v := 2) dX12_does_29 (by decide) ?_
    refine am_icmp_ne (7) 37 dX12_does_30 rfl ?_ ?_
    · intro hc2n
      have hc2n : ¬ ((M 71 r2 0) = (2 : Int32)) := hc2n
      replace hyp := it_neg hc2n hyp
      refine am_aload_n dX12_does_37 rfl ?_
      refine am_iconst 0 (v := 0) dX12_does_38 (by decide) ?_
      refine am_iald dX12_does_39 (am_ia.row (sh_71 g) (by omega) (by omega)) (am_lit rfl) ?_
      refine am_iconst 1 (v := 1) dX12_does_40 (by decide) ?_
      refine am_iadd dX12_does_41 ?_
      refine am_istore_n dX12_does_42 (am_lb rfl) ?_
      change am_At _ _ _ 43 [_, _, _, _] [] _ _
      refine am_aload_n dX12_does_43 rfl ?_
      refine am_iconst 0 (v := 0) dX12_does_44 (by decide) ?_
      refine am_aload_n dX12_does_45 rfl ?_
      refine am_iconst 1 (v := 1) dX12_does_46 (by decide) ?_
      refine am_iald dX12_does_47 (am_ia.row (sh_71 g) (by omega) (by omega)) (am_lit rfl) ?_
      refine am_iadd dX12_does_48 ?_
      obtain ⟨hg3, hyp⟩ := gd_some hyp
      refine am_iald dX12_does_49 (am_ia.one (sh_72 g)) (am_lit hg3) ?_
      refine am_iload_n dX12_does_50 rfl ?_
      refine am_icmp_ne (5) 56 dX12_does_51 rfl ?_ ?_
      · intro hc4n
        have hc4n : ¬ ((M 72 0 (((0 : Int32) + (M 71 r2 1)).toNatClampNeg)) = ((M 71 r2 0) + (1 : Int32))) := hc4n
        replace hyp := it_neg hc4n hyp
        refine am_aload_n dX12_does_56 rfl ?_
        refine am_iconst 0 (v := 0) dX12_does_57 (by decide) ?_
        refine am_aload_n dX12_does_58 rfl ?_
        refine am_iconst 1 (v := 1) dX12_does_59 (by decide) ?_
        refine am_iald dX12_does_60 (am_ia.row (sh_71 g) (by omega) (by omega)) (am_lit rfl) ?_
        refine am_iadd dX12_does_61 ?_
        refine am_iload_n dX12_does_62 rfl ?_
        refine am_iast dX12_does_63 (am_ia.one (sh_72 g)) (am_lit hg3) ?_
        refine am_iconst 1 (v := 1) dX12_does_64 (by decide) ?_
        cases hyp
        exact am_zret dX12_does_65 rfl rfl
      · intro hc4
        have hc4 : (M 72 0 (((0 : Int32) + (M 71 r2 1)).toNatClampNeg)) = ((M 71 r2 0) + (1 : Int32)) := hc4
        replace hyp := it_pos hc4 hyp
        refine am_iconst 0 (v := 0) dX12_does_54 (by decide) ?_
        cases hyp
        exact am_zret dX12_does_55 rfl rfl
    · intro hc2
      have hc2 : (M 71 r2 0) = (2 : Int32) := hc2
      replace hyp := it_pos hc2 hyp
      refine am_iconst 0 (v := 0) dX12_does_33 (by decide) ?_
      refine am_goto (8) 42 dX12_does_34 rfl ?_
      refine am_istore_n dX12_does_42 (am_lb rfl) ?_
      change am_At _ _ _ 43 [_, _, _, _] [] _ _
      refine am_aload_n dX12_does_43 rfl ?_
      refine am_iconst 0 (v := 0) dX12_does_44 (by decide) ?_
      refine am_aload_n dX12_does_45 rfl ?_
      refine am_iconst 1 (v := 1) dX12_does_46 (by decide) ?_
      refine am_iald dX12_does_47 (am_ia.row (sh_71 g) (by omega) (by omega)) (am_lit rfl) ?_
      refine am_iadd dX12_does_48 ?_
      obtain ⟨hg5, hyp⟩ := gd_some hyp
      refine am_iald dX12_does_49 (am_ia.one (sh_72 g)) (am_lit hg5) ?_
      refine am_iload_n dX12_does_50 rfl ?_
      refine am_icmp_ne (5) 56 dX12_does_51 rfl ?_ ?_
      · intro hc6n
        have hc6n : ¬ ((M 72 0 (((0 : Int32) + (M 71 r2 1)).toNatClampNeg)) = (0 : Int32)) := hc6n
        replace hyp := it_neg hc6n hyp
        refine am_aload_n dX12_does_56 rfl ?_
        refine am_iconst 0 (v := 0) dX12_does_57 (by decide) ?_
        refine am_aload_n dX12_does_58 rfl ?_
        refine am_iconst 1 (v := 1) dX12_does_59 (by decide) ?_
        refine am_iald dX12_does_60 (am_ia.row (sh_71 g) (by omega) (by omega)) (am_lit rfl) ?_
        refine am_iadd dX12_does_61 ?_
        refine am_iload_n dX12_does_62 rfl ?_
        refine am_iast dX12_does_63 (am_ia.one (sh_72 g)) (am_lit hg5) ?_
        refine am_iconst 1 (v := 1) dX12_does_64 (by decide) ?_
        cases hyp
        exact am_zret dX12_does_65 rfl rfl
      · intro hc6
        have hc6 : (M 72 0 (((0 : Int32) + (M 71 r2 1)).toNatClampNeg)) = (0 : Int32) := hc6
        replace hyp := it_pos hc6 hyp
        refine am_iconst 0 (v := 0) dX12_does_54 (by decide) ?_
        cases hyp
        exact am_zret dX12_does_55 rfl rfl
  · intro hc1
    have hc1 : (M 71 r2 0) = (3 : Int32) := hc1
    replace hyp := it_pos hc1 hyp
    refine am_aload_n dX12_does_7 rfl ?_
    refine am_bipush 63 (v := 63) dX12_does_8 (by decide) ?_
    refine am_iald dX12_does_10 (am_ia.one (sh_72 g)) (am_lit rfl) ?_
    refine am_sipush 960 (v := 960) dX12_does_11 (by decide) ?_
    refine am_icmp_lt (5) 19 dX12_does_14 rfl ?_ ?_
    · intro hc7
      have hc7 : (M 72 0 63) < (960 : Int32) := hc7
      replace hyp := it_pos hc7 hyp
      refine am_aload_n dX12_does_19 rfl ?_
      refine am_aload_n dX12_does_20 rfl ?_
      obtain ⟨M8, hk8, hyp⟩ := bd_some hyp
      try dsimp only at hyp
      refine am_callV [_] dX12_does_21 ml_X12_297 vm_X12_hourEnds (sh_54 g) rfl (fun _ => Nat.le_of_ble_eq_true rfl) (by omega) rfl (ef_X12_hourEnds_72 (d := d + 0) (h := h) g hk8) rfl ?_
      change am_At _ _ _ 24 [_, _, _, _] [] _ _
      refine am_iconst 1 (v := 1) dX12_does_24 (by decide) ?_
      cases hyp
      exact am_zret dX12_does_25 rfl rfl
    · intro hc7n
      have hc7n : ¬ ((M 72 0 63) < (960 : Int32)) := hc7n
      replace hyp := it_neg hc7n hyp
      refine am_iconst 0 (v := 0) dX12_does_17 (by decide) ?_
      cases hyp
      exact am_zret dX12_does_18 rfl rfl
theorem eL_RX12_goes_42 {d : Nat} {h : am_H} (g : lay h) {x2 x3 : Int32} {r_X12_goes : Int32 → Int32 → Mem → Option (Mem)} (er_X12_goes : ∀ {x1 x2 : Int32} {M M' : Mem} , r_X12_goes x1 x2 M = some M' → am_Ev (d + 8) mX12_goes [.inr (54, 0), am_I x1, am_I x2] (am_hM h M) (.inl (none, am_hM h M'))) {r : am_R} (n : Nat) : ∀ (s : Int32 × Mem) (e : Mem), wh (L_RX12_goes_42 r_X12_goes x3) n s = some e → ((fun (M : Mem) => am_At am_X0 (d + 9) mX12_goes 86 [some (.inr (54, 0)), none, some (am_I (x2)), some (am_I (x3)), none] [] (am_hM h M) r) e) → (match s with | (x4, M) => am_At am_X0 (d + 9) mX12_goes 42 [some (.inr (54, 0)), none, some (am_I (x2)), some (am_I (x3)), some (am_I (x4))] [] (am_hM h M) r) := by
  refine am_wh (At := fun (s : Int32 × Mem) => match s with | (x4, M) => am_At am_X0 (d + 9) mX12_goes 42 [some (.inr (54, 0)), none, some (am_I (x2)), some (am_I (x3)), some (am_I (x4))] [] (am_hM h M) r) (Ex := fun (e : Mem) => (fun (M : Mem) => am_At am_X0 (d + 9) mX12_goes 86 [some (.inr (54, 0)), none, some (am_I (x2)), some (am_I (x3)), none] [] (am_hM h M) r) e) ?_ n
  rintro ⟨x4, M⟩ y hyp hx
  unfold L_RX12_goes_42 at hyp
  try dsimp only at hyp
  change am_At _ _ _ 42 [_, _, _, _, _] [] _ _
  refine am_iload dX12_goes_42 rfl ?_
  refine am_aload_n dX12_goes_44 rfl ?_
  refine am_getR 12 27 71 dX12_goes_45 fg_X12_64 (sh_54 g) (by decide) rfl (rf_54_27 g) ?_
  refine am_iload_n dX12_goes_48 rfl ?_
  obtain ⟨hg7, hyp⟩ := gd_some hyp
  refine am_aald dX12_goes_49 (sh_71 g) (am_lit hg7) ?_
  refine am_iconst 1 (v := 1) dX12_goes_50 (by decide) ?_
  refine am_iald dX12_goes_51 (am_ia.row (sh_71 g) (by omega) (am_vlt (am_lit hg7))) (am_lit rfl) ?_
  refine am_icmp_ge (34) 86 dX12_goes_52 rfl ?_ ?_
  · intro hc8
    have hc8 : (M 71 (x3.toNatClampNeg + 1) 1) ≤ x4 := hc8
    replace hyp := it_pos hc8 hyp
    cases hyp
    refine am_At.drop 4 ?_
    exact hx
  · intro hc8n
    have hc8n : ¬ ((M 71 (x3.toNatClampNeg + 1) 1) ≤ x4) := hc8n
    replace hyp := it_neg hc8n hyp
    refine am_aload_n dX12_goes_55 rfl ?_
    refine am_getI 12 40 dX12_goes_56 fg_X12_301 (sh_54 g) (by decide) rfl ?_
    refine am_sipush 240 (v := 240) dX12_goes_59 (by decide) ?_
    refine am_icmp_ge (24) 86 dX12_goes_62 rfl ?_ ?_
    · intro hc9
      have hc9 : (240 : Int32) ≤ (M 54 0 40) := hc9
      replace hyp := it_pos hc9 hyp
      cases hyp
      refine am_At.drop 4 ?_
      exact hx
    · intro hc9n
      have hc9n : ¬ ((240 : Int32) ≤ (M 54 0 40)) := hc9n
      replace hyp := it_neg hc9n hyp
      refine am_aload_n dX12_goes_65 rfl ?_
      refine am_iload_n dX12_goes_66 rfl ?_
      refine am_iconst 1 (v := 1) dX12_goes_67 (by decide) ?_
      refine am_iadd dX12_goes_68 ?_
      refine am_aload_n dX12_goes_69 rfl ?_
      refine am_getR 12 27 71 dX12_goes_70 fg_X12_64 (sh_54 g) (by decide) rfl (rf_54_27 g) ?_
      refine am_iload_n dX12_goes_73 rfl ?_
      refine am_aald dX12_goes_74 (sh_71 g) (am_lit hg7) ?_
      refine am_iconst 2 (v := 2) dX12_goes_75 (by decide) ?_
      refine am_iald dX12_goes_76 (am_ia.row (sh_71 g) (by omega) (am_vlt (am_lit hg7))) (am_lit rfl) ?_
      obtain ⟨M10, hk10, hyp⟩ := bd_some hyp
      try dsimp only at hyp
      refine am_callV [_, _] dX12_goes_77 ml_X12_304 vm_X12_goes (sh_54 g) rfl (fun _ => Nat.le_of_ble_eq_true rfl) (by omega) rfl (er_X12_goes hk10) rfl ?_
      change am_At _ _ _ 80 [_, _, _, _, _] [] _ _
      refine am_iinc dX12_goes_80 rfl (am_ix _) ?_
      change am_At _ _ _ 83 [_, _, _, _, _] [] _ _
      refine am_goto (-41) 42 dX12_goes_83 rfl ?_
      cases hyp
      exact hx
theorem eL_RX12_goes_2 {d : Nat} {h : am_H} (g : lay h) {x2 : Int32} {r_X12_goes : Int32 → Int32 → Mem → Option (Mem)} (er_X12_goes : ∀ {x1 x2 : Int32} {M M' : Mem} , r_X12_goes x1 x2 M = some M' → am_Ev (d + 8) mX12_goes [.inr (54, 0), am_I x1, am_I x2] (am_hM h M) (.inl (none, am_hM h M'))) {r : am_R} (n : Nat) : ∀ (s : Int32 × Mem) (e : Mem), wh (L_RX12_goes_2 r_X12_goes x2) n s = some e → ((fun (M : Mem) => am_At am_X0 (d + 9) mX12_goes 155 [some (.inr (54, 0)), none, some (am_I (x2)), none, none] [] (am_hM h M) r) e) → (match s with | (x3, M) => am_At am_X0 (d + 9) mX12_goes 2 [some (.inr (54, 0)), none, some (am_I (x2)), some (am_I (x3)), none] [] (am_hM h M) r) := by
  refine am_wh (At := fun (s : Int32 × Mem) => match s with | (x3, M) => am_At am_X0 (d + 9) mX12_goes 2 [some (.inr (54, 0)), none, some (am_I (x2)), some (am_I (x3)), none] [] (am_hM h M) r) (Ex := fun (e : Mem) => (fun (M : Mem) => am_At am_X0 (d + 9) mX12_goes 155 [some (.inr (54, 0)), none, some (am_I (x2)), none, none] [] (am_hM h M) r) e) ?_ n
  rintro ⟨x3, M⟩ y hyp hx
  unfold L_RX12_goes_2 at hyp
  try dsimp only at hyp
  change am_At _ _ _ 2 [_, _, _, _, _] [] _ _
  refine am_iload_n dX12_goes_2 rfl ?_
  refine am_iload_n dX12_goes_3 rfl ?_
  refine am_icmp_ge (151) 155 dX12_goes_4 rfl ?_ ?_
  · intro hc1
    have hc1 : x2 ≤ x3 := hc1
    replace hyp := it_pos hc1 hyp
    cases hyp
    refine am_At.drop 3 ?_
    exact hx
  · intro hc1n
    have hc1n : ¬ (x2 ≤ x3) := hc1n
    replace hyp := it_neg hc1n hyp
    refine am_aload_n dX12_goes_7 rfl ?_
    refine am_getI 12 40 dX12_goes_8 fg_X12_301 (sh_54 g) (by decide) rfl ?_
    refine am_sipush 240 (v := 240) dX12_goes_11 (by decide) ?_
    refine am_icmp_ge (141) 155 dX12_goes_14 rfl ?_ ?_
    · intro hc2
      have hc2 : (240 : Int32) ≤ (M 54 0 40) := hc2
      replace hyp := it_pos hc2 hyp
      cases hyp
      refine am_At.drop 3 ?_
      exact hx
    · intro hc2n
      have hc2n : ¬ ((240 : Int32) ≤ (M 54 0 40)) := hc2n
      replace hyp := it_neg hc2n hyp
      refine am_aload_n dX12_goes_17 rfl ?_
      refine am_dup dX12_goes_18 (fun _ => rfl) ?_
      refine am_getI 12 40 dX12_goes_19 fg_X12_301 (sh_54 g) (by decide) rfl ?_
      refine am_iconst 1 (v := 1) dX12_goes_22 (by decide) ?_
      refine am_iadd dX12_goes_23 ?_
      refine am_putI 12 40 dX12_goes_24 (Or.inl fp_X12_301) (sh_54 g) (by decide) rfl rfl rfl ?_
      refine am_aload_n dX12_goes_27 rfl ?_
      refine am_getR 12 27 71 dX12_goes_28 fg_X12_64 (sh_54 g) (by decide) rfl (rf_54_27 g) ?_
      refine am_iload_n dX12_goes_31 rfl ?_
      obtain ⟨hg3, hyp⟩ := gd_some hyp
      refine am_aald dX12_goes_32 (sh_71 g) (am_lit hg3) ?_
      refine am_iconst 0 (v := 0) dX12_goes_33 (by decide) ?_
      refine am_iald dX12_goes_34 (am_ia.row (sh_71 g) (by omega) (am_vlt (am_lit hg3))) (am_lit rfl) ?_
      refine am_iconst 4 (v := 4) dX12_goes_35 (by decide) ?_
      refine am_icmp_ne (53) 89 dX12_goes_36 rfl ?_ ?_
      · intro hc4n
        have hc4n : ¬ ((M 71 (x3.toNatClampNeg + 1) 0) = (4 : Int32)) := hc4n
        replace hyp := it_neg hc4n hyp
        refine am_aload_n dX12_goes_89 rfl ?_
        refine am_aload_n dX12_goes_90 rfl ?_
        refine am_getR 12 29 72 dX12_goes_91 fg_X12_67 (sh_54 g) (by decide) rfl (rf_54_29 g) ?_
        refine am_aload_n dX12_goes_94 rfl ?_
        refine am_getR 12 27 71 dX12_goes_95 fg_X12_64 (sh_54 g) (by decide) rfl (rf_54_27 g) ?_
        refine am_iload_n dX12_goes_98 rfl ?_
        refine am_aald dX12_goes_99 (sh_71 g) (am_lit hg3) ?_
        obtain ⟨⟨v5, M5⟩, hk5, hyp⟩ := bd_some hyp
        try dsimp only at hyp
        refine am_callV [_, _] dX12_goes_100 ml_X12_307 vm_X12_does (sh_54 g) rfl (fun _ => Nat.le_of_ble_eq_true rfl) (by omega) rfl (ef_X12_does (d := d + 0) (h := h) g ⟨Nat.succ_pos _, am_vlt (am_lit hg3)⟩ hk5) rfl ?_
        change am_At _ _ _ 103 [_, _, _, _, _] [_] _ _
        refine am_istore dX12_goes_103 (am_lb rfl) ?_
        change am_At _ _ _ 105 [_, _, _, _, _] [] _ _
        refine am_aload_n dX12_goes_105 rfl ?_
        refine am_dup dX12_goes_106 (fun _ => rfl) ?_
        refine am_getI 12 41 dX12_goes_107 fg_X12_311 (sh_54 g) (by decide) rfl ?_
        refine am_iload dX12_goes_110 rfl ?_
        refine am_if_eq (7) 119 dX12_goes_112 rfl ?_ ?_
        · intro hc6
          have hc6 : v5 = 0 := hc6
          replace hyp := it_pos hc6 hyp
          refine am_iconst 0 (v := 0) dX12_goes_119 (by decide) ?_
          refine am_iadd dX12_goes_120 ?_
          refine am_putI 12 41 dX12_goes_121 (Or.inl fp_X12_311) (sh_54 g) (by decide) rfl rfl rfl ?_
          refine am_aload_n dX12_goes_124 rfl ?_
          refine am_dup dX12_goes_125 (fun _ => rfl) ?_
          refine am_getI 12 36 dX12_goes_126 fg_X12_205 (sh_54 g) (by decide) rfl ?_
          refine am_iload dX12_goes_129 rfl ?_
          refine am_if_eqT (7) 138 dX12_goes_131 rfl hc6 ?_
          refine am_iconst 1 (v := 1) dX12_goes_138 (by decide) ?_
          refine am_iadd dX12_goes_139 ?_
          refine am_putI 12 36 dX12_goes_140 (Or.inl fp_X12_205) (sh_54 g) (by decide) rfl rfl rfl ?_
          refine am_aload_n dX12_goes_143 rfl ?_
          refine am_getR 12 27 71 dX12_goes_144 fg_X12_64 (sh_54 g) (by decide) rfl (rf_54_27 g) ?_
          refine am_iload_n dX12_goes_147 rfl ?_
          refine am_aald dX12_goes_148 (sh_71 g) (am_lit hg3) ?_
          refine am_iconst 2 (v := 2) dX12_goes_149 (by decide) ?_
          refine am_iald dX12_goes_150 (am_ia.row (sh_71 g) (by omega) (am_vlt (am_lit hg3))) (am_lit rfl) ?_
          refine am_istore_n dX12_goes_151 (am_lb rfl) ?_
          change am_At _ _ _ 152 [_, _, _, _, _] [] _ _
          refine am_goto (-150) 2 dX12_goes_152 rfl ?_
          cases hyp
          refine am_At.drop 4 ?_
          exact hx
        · intro hc6n
          have hc6n : ¬ (v5 = 0) := hc6n
          replace hyp := it_neg hc6n hyp
          refine am_iconst 1 (v := 1) dX12_goes_115 (by decide) ?_
          refine am_goto (4) 120 dX12_goes_116 rfl ?_
          refine am_iadd dX12_goes_120 ?_
          refine am_putI 12 41 dX12_goes_121 (Or.inl fp_X12_311) (sh_54 g) (by decide) rfl rfl rfl ?_
          refine am_aload_n dX12_goes_124 rfl ?_
          refine am_dup dX12_goes_125 (fun _ => rfl) ?_
          refine am_getI 12 36 dX12_goes_126 fg_X12_205 (sh_54 g) (by decide) rfl ?_
          refine am_iload dX12_goes_129 rfl ?_
          refine am_if_eqF (7) 138 dX12_goes_131 rfl hc6n ?_
          refine am_iconst 0 (v := 0) dX12_goes_134 (by decide) ?_
          refine am_goto (4) 139 dX12_goes_135 rfl ?_
          refine am_iadd dX12_goes_139 ?_
          refine am_putI 12 36 dX12_goes_140 (Or.inl fp_X12_205) (sh_54 g) (by decide) rfl rfl rfl ?_
          refine am_aload_n dX12_goes_143 rfl ?_
          refine am_getR 12 27 71 dX12_goes_144 fg_X12_64 (sh_54 g) (by decide) rfl (rf_54_27 g) ?_
          refine am_iload_n dX12_goes_147 rfl ?_
          refine am_aald dX12_goes_148 (sh_71 g) (am_lit hg3) ?_
          refine am_iconst 2 (v := 2) dX12_goes_149 (by decide) ?_
          refine am_iald dX12_goes_150 (am_ia.row (sh_71 g) (by omega) (am_vlt (am_lit hg3))) (am_lit rfl) ?_
          refine am_istore_n dX12_goes_151 (am_lb rfl) ?_
          change am_At _ _ _ 152 [_, _, _, _, _] [] _ _
          refine am_goto (-150) 2 dX12_goes_152 rfl ?_
          cases hyp
          refine am_At.drop 4 ?_
          exact hx
      · intro hc4
        have hc4 : (M 71 (x3.toNatClampNeg + 1) 0) = (4 : Int32) := hc4
        replace hyp := it_pos hc4 hyp
        refine am_iconst 0 (v := 0) dX12_goes_39 (by decide) ?_
        refine am_istore dX12_goes_40 (am_lb rfl) ?_
        change am_At _ _ _ 42 [_, _, _, _, _] [] _ _
        obtain ⟨M11, hw11, hyp⟩ := bd_some hyp
        try dsimp only at hyp
        refine eL_RX12_goes_42 (d := d) (h := h) g er_X12_goes  FU ((0 : Int32), (am_u3 M 54 0 40 ((M 54 0 40) + (1 : Int32)))) M11 hw11 ?_
        change am_At _ _ _ 86 [_, _, _, _, _] [] _ _
        refine am_goto (57) 143 dX12_goes_86 rfl ?_
        refine am_aload_n dX12_goes_143 rfl ?_
        refine am_getR 12 27 71 dX12_goes_144 fg_X12_64 (sh_54 g) (by decide) rfl (rf_54_27 g) ?_
        refine am_iload_n dX12_goes_147 rfl ?_
        refine am_aald dX12_goes_148 (sh_71 g) (am_lit hg3) ?_
        refine am_iconst 2 (v := 2) dX12_goes_149 (by decide) ?_
        refine am_iald dX12_goes_150 (am_ia.row (sh_71 g) (by omega) (am_vlt (am_lit hg3))) (am_lit rfl) ?_
        refine am_istore_n dX12_goes_151 (am_lb rfl) ?_
        change am_At _ _ _ 152 [_, _, _, _, _] [] _ _
        refine am_goto (-150) 2 dX12_goes_152 rfl ?_
        cases hyp
        exact hx
theorem ef_RX12_goes {d : Nat} {h : am_H} (g : lay h) {x1 x2 : Int32} {r_X12_goes : Int32 → Int32 → Mem → Option (Mem)} (er_X12_goes : ∀ {x1 x2 : Int32} {M M' : Mem} , r_X12_goes x1 x2 M = some M' → am_Ev (d + 8) mX12_goes [.inr (54, 0), am_I x1, am_I x2] (am_hM h M) (.inl (none, am_hM h M'))) {M : Mem} {M' : Mem} (hyp : f_RX12_goes r_X12_goes x1 x2 M = some M') : am_Ev (d + 9) mX12_goes [.inr (54, 0), am_I x1, am_I x2] (am_hM h M) (.inl (none, am_hM h M')) := by
  unfold f_RX12_goes at hyp
  refine am_Ev.mk (by decide +kernel) rfl rfl (Nat.le_refl _) (Nat.le_refl _) ?_
  change am_At _ _ _ 0 [_, _, _, _, _] [] _ _
  refine am_iload_n dX12_goes_0 rfl ?_
  refine am_istore_n dX12_goes_1 (am_lb rfl) ?_
  change am_At _ _ _ 2 [_, _, _, _, _] [] _ _
  obtain ⟨M12, hw12, hyp⟩ := bd_some hyp
  refine am_At.drop 1 ?_
  try dsimp only at hyp
  refine eL_RX12_goes_2 (d := d) (h := h) g er_X12_goes  FU (x1, M) M12 hw12 ?_
  change am_At _ _ _ 155 [_, _, _, _, _] [] _ _
  cases hyp
  exact am_vret dX12_goes_155 rfl
theorem erec_goes {d : Nat} {h : am_H} (g : lay h) : ∀ (n : Nat), (∀ {x1 x2 : Int32} {M M' : Mem} , (rec_goes n) x1 x2 M = some M' → am_Ev (d + n + 8) mX12_goes [.inr (54, 0), am_I x1, am_I x2] (am_hM h M) (.inl (none, am_hM h M')))
  | 0 => (fun hyp => nomatch hyp)
  | n + 1 => (fun hyp => by
      rw [show d + (n + 1) + 8 = d + n + 9 by omega]
      exact ef_RX12_goes (d := d + n) g (erec_goes g n) hyp)
theorem ef_X12_goes {d : Nat} {h : am_H} (g : lay h) : ∀ {x1 x2 : Int32} {M M' : Mem} , f_X12_goes x1 x2 M = some M' → am_Ev (d + 38) mX12_goes [.inr (54, 0), am_I x1, am_I x2] (am_hM h M) (.inl (none, am_hM h M')) := fun hyp => (erec_goes (d := d) g 30) hyp
theorem eL_RX12_readsStep_114 {d : Nat} {h : am_H} (g : lay h) {r_X12_readsStep : Mem → Option (Mem)} (er_X12_readsStep : ∀ {M M' : Mem} , r_X12_readsStep M = some M' → am_Ev (d + 4) mX12_readsStep [.inr (54, 0)] (am_hM h M) (.inl (none, am_hM h M'))) {w2 : Nat} {r : am_R} (n : Nat) : ∀ (s : Mem) (e : Mem), wh (L_RX12_readsStep_114 r_X12_readsStep) n s = some e → ((fun (M : Mem) => am_At am_X0 (d + 5) mX12_readsStep 145 [some (.inr (54, 0)), none, some (.inr (71, w2))] [] (am_hM h M) r) e) → ((fun (M : Mem) => am_At am_X0 (d + 5) mX12_readsStep 114 [some (.inr (54, 0)), none, some (.inr (71, w2))] [] (am_hM h M) r) s) := by
  refine am_wh (At := fun (s : Mem) => (fun (M : Mem) => am_At am_X0 (d + 5) mX12_readsStep 114 [some (.inr (54, 0)), none, some (.inr (71, w2))] [] (am_hM h M) r) s) (Ex := fun (e : Mem) => (fun (M : Mem) => am_At am_X0 (d + 5) mX12_readsStep 145 [some (.inr (54, 0)), none, some (.inr (71, w2))] [] (am_hM h M) r) e) ?_ n
  rintro M y hyp hx
  unfold L_RX12_readsStep_114 at hyp
  try dsimp only at hyp
  change am_At _ _ _ 114 [_, _, _] [] _ _
  refine am_aload_n dX12_readsStep_114 rfl ?_
  refine am_getI 12 5 dX12_readsStep_115 fg_X12_119 (sh_54 g) (by decide) rfl ?_
  refine am_if_ne (27) 145 dX12_readsStep_118 rfl ?_ ?_
  · intro hc19n
    have hc19n : ¬ ((M 54 0 5) = 0) := hc19n
    replace hyp := it_neg hc19n hyp
    cases hyp
    exact hx
  · intro hc19
    have hc19 : (M 54 0 5) = 0 := hc19
    replace hyp := it_pos hc19 hyp
    refine am_aload_n dX12_readsStep_121 rfl ?_
    refine am_aload_n dX12_readsStep_122 rfl ?_
    refine am_getI 12 4 dX12_readsStep_123 fg_X12_112 (sh_54 g) (by decide) rfl ?_
    obtain ⟨v20, hk20, hyp⟩ := bd_some hyp
    try dsimp only at hyp
    refine am_callV [_] dX12_readsStep_126 ml_X12_115 vm_X12_byteAt (sh_54 g) rfl (fun _ => Nat.le_of_ble_eq_true rfl) (by omega) rfl (ef_X12_byteAt (d := d + 4) (h := h) g hk20) rfl ?_
    change am_At _ _ _ 129 [_, _, _] [_] _ _
    refine am_bipush 93 (v := 93) dX12_readsStep_129 (by decide) ?_
    refine am_icmp_eq (14) 145 dX12_readsStep_131 rfl ?_ ?_
    · intro hc21
      have hc21 : v20 = (93 : Int32) := hc21
      replace hyp := it_pos hc21 hyp
      cases hyp
      exact hx
    · intro hc21n
      have hc21n : ¬ (v20 = (93 : Int32)) := hc21n
      replace hyp := it_neg hc21n hyp
      refine am_aload_n dX12_readsStep_134 rfl ?_
      obtain ⟨M22, hk22, hyp⟩ := bd_some hyp
      try dsimp only at hyp
      refine am_callV [] dX12_readsStep_135 ml_X12_255 vm_X12_readsStep (sh_54 g) rfl (fun _ => Nat.le_of_ble_eq_true rfl) (by omega) rfl (er_X12_readsStep hk22) rfl ?_
      change am_At _ _ _ 138 [_, _, _] [] _ _
      refine am_aload_n dX12_readsStep_138 rfl ?_
      obtain ⟨M23, hk23, hyp⟩ := bd_some hyp
      try dsimp only at hyp
      refine am_callV [] dX12_readsStep_139 ml_X12_125 vm_X12_blanks (sh_54 g) rfl (fun _ => Nat.le_of_ble_eq_true rfl) (by omega) rfl (ef_X12_blanks (d := d + 3) (h := h) g hk23) rfl ?_
      change am_At _ _ _ 142 [_, _, _] [] _ _
      refine am_goto (-28) 114 dX12_readsStep_142 rfl ?_
      cases hyp
      exact hx
theorem ef_RX12_readsStep {d : Nat} {h : am_H} (g : lay h) {r_X12_readsStep : Mem → Option (Mem)} (er_X12_readsStep : ∀ {M M' : Mem} , r_X12_readsStep M = some M' → am_Ev (d + 4) mX12_readsStep [.inr (54, 0)] (am_hM h M) (.inl (none, am_hM h M'))) {M : Mem} {M' : Mem} (hyp : f_RX12_readsStep r_X12_readsStep M = some M') : am_Ev (d + 5) mX12_readsStep [.inr (54, 0)] (am_hM h M) (.inl (none, am_hM h M')) := by
  unfold f_RX12_readsStep at hyp
  refine am_Ev.mk (by decide +kernel) rfl rfl (Nat.le_refl _) (Nat.le_refl _) ?_
  change am_At _ _ _ 0 [_, _, _] [] _ _
  refine am_aload_n dX12_readsStep_0 rfl ?_
  obtain ⟨⟨v1, M1⟩, hk1, hyp⟩ := bd_some hyp
  try dsimp only at hyp
  refine am_callV [] dX12_readsStep_1 ml_X12_249 vm_X12_stepHere (sh_54 g) rfl (fun _ => Nat.le_of_ble_eq_true rfl) (by omega) rfl (ef_X12_stepHere (d := d + 0) (h := h) g hk1) rfl ?_
  change am_At _ _ _ 4 [_, _, _] [_] _ _
  refine am_istore_n dX12_readsStep_4 (am_lb rfl) ?_
  change am_At _ _ _ 5 [_, _, _] [] _ _
  refine am_iload_n dX12_readsStep_5 rfl ?_
  refine am_iconst (-1) (v := (-1)) dX12_readsStep_6 (by decide) ?_
  refine am_icmp_ne (12) 19 dX12_readsStep_7 rfl ?_ ?_
  · intro hc2n
    have hc2n : ¬ (v1 = (-1 : Int32)) := hc2n
    replace hyp := it_neg hc2n hyp
    refine am_iload_n dX12_readsStep_19 rfl ?_
    refine am_iconst 4 (v := 4) dX12_readsStep_20 (by decide) ?_
    refine am_icmp_ne (11) 32 dX12_readsStep_21 rfl ?_ ?_
    · intro hc3n
      have hc3n : ¬ (v1 = (4 : Int32)) := hc3n
      replace hyp := it_neg hc3n hyp
      refine am_aload_n dX12_readsStep_32 rfl ?_
      refine am_getI 12 5 dX12_readsStep_33 fg_X12_119 (sh_54 g) (by decide) rfl ?_
      refine am_if_eq (4) 40 dX12_readsStep_36 rfl ?_ ?_
      · intro hc4
        have hc4 : (M1 54 0 5) = 0 := hc4
        replace hyp := it_pos hc4 hyp
        refine am_aload_n dX12_readsStep_40 rfl ?_
        obtain ⟨M5, hk5, hyp⟩ := bd_some hyp
        try dsimp only at hyp
        refine am_callV [] dX12_readsStep_41 ml_X12_156 vm_X12_skipWord (sh_54 g) rfl (fun _ => Nat.le_of_ble_eq_true rfl) (by omega) rfl (ef_X12_skipWord (d := d + 3) (h := h) g hk5) rfl ?_
        change am_At _ _ _ 44 [_, _, _] [] _ _
        refine am_aload_n dX12_readsStep_44 rfl ?_
        refine am_getR 12 27 71 dX12_readsStep_45 fg_X12_64 (sh_54 g) (by decide) rfl (rf_54_27 g) ?_
        refine am_aload_n dX12_readsStep_48 rfl ?_
        refine am_getI 12 28 dX12_readsStep_49 fg_X12_252 (sh_54 g) (by decide) rfl ?_
        obtain ⟨hg6, hyp⟩ := gd_some hyp
        refine am_aald dX12_readsStep_52 (sh_71 g) (am_lit hg6) ?_
        refine am_astore_n dX12_readsStep_53 (am_lb rfl) ?_
        change am_At _ _ _ 54 [_, _, _] [] _ _
        refine am_aload_n dX12_readsStep_54 rfl ?_
        refine am_dup dX12_readsStep_55 (fun _ => rfl) ?_
        refine am_getI 12 28 dX12_readsStep_56 fg_X12_252 (sh_54 g) (by decide) rfl ?_
        refine am_iconst 1 (v := 1) dX12_readsStep_59 (by decide) ?_
        refine am_iadd dX12_readsStep_60 ?_
        refine am_putI 12 28 dX12_readsStep_61 (Or.inl fp_X12_252) (sh_54 g) (by decide) rfl rfl rfl ?_
        refine am_aload_n dX12_readsStep_64 rfl ?_
        refine am_iconst 0 (v := 0) dX12_readsStep_65 (by decide) ?_
        refine am_iload_n dX12_readsStep_66 rfl ?_
        refine am_iast dX12_readsStep_67 (am_ia.row (sh_71 g) (by omega) (am_vlt (am_lit hg6))) (am_lit rfl) ?_
        refine am_iload_n dX12_readsStep_68 rfl ?_
        refine am_iconst 3 (v := 3) dX12_readsStep_69 (by decide) ?_
        refine am_icmp_ge (19) 89 dX12_readsStep_70 rfl ?_ ?_
        · intro hc7
          have hc7 : (3 : Int32) ≤ v1 := hc7
          replace hyp := it_pos hc7 hyp
          refine am_iload_n dX12_readsStep_89 rfl ?_
          refine am_iconst 4 (v := 4) dX12_readsStep_90 (by decide) ?_
          refine am_icmp_neT (70) 161 dX12_readsStep_91 rfl hc3n ?_
          refine am_aload_n dX12_readsStep_161 rfl ?_
          refine am_iconst 2 (v := 2) dX12_readsStep_162 (by decide) ?_
          refine am_aload_n dX12_readsStep_163 rfl ?_
          refine am_getI 12 28 dX12_readsStep_164 fg_X12_252 (sh_54 g) (by decide) rfl ?_
          refine am_iast dX12_readsStep_167 (am_ia.row (sh_71 g) (by omega) (am_vlt (am_lit hg6))) (am_lit rfl) ?_
          refine am_aload_n dX12_readsStep_168 rfl ?_
          refine am_bipush 59 (v := 59) dX12_readsStep_169 (by decide) ?_
          obtain ⟨M8, hk8, hyp⟩ := bd_some hyp
          try dsimp only at hyp
          refine am_callV [_] dX12_readsStep_171 ml_X12_175 vm_X12_sign (sh_54 g) rfl (fun _ => Nat.le_of_ble_eq_true rfl) (by omega) rfl (ef_X12_sign (d := d + 2) (h := h) g hk8) rfl ?_
          change am_At _ _ _ 174 [_, _, _] [] _ _
          cases hyp
          exact am_vret dX12_readsStep_174 rfl
        · intro hc7n
          have hc7n : ¬ ((3 : Int32) ≤ v1) := hc7n
          replace hyp := it_neg hc7n hyp
          refine am_aload_n dX12_readsStep_73 rfl ?_
          refine am_iconst 1 (v := 1) dX12_readsStep_74 (by decide) ?_
          refine am_aload_n dX12_readsStep_75 rfl ?_
          refine am_iconst 0 (v := 0) dX12_readsStep_76 (by decide) ?_
          refine am_aload_n dX12_readsStep_77 rfl ?_
          refine am_getR 12 12 58 dX12_readsStep_78 fg_X12_23 (sh_54 g) (by decide) rfl (rf_54_12 g) ?_
          refine am_iconst 0 (v := 0) dX12_readsStep_81 (by decide) ?_
          refine am_iald dX12_readsStep_82 (am_ia.one (sh_58 g)) (am_lit rfl) ?_
          refine am_iconst 1 (v := 1) dX12_readsStep_83 (by decide) ?_
          refine am_isub dX12_readsStep_84 ?_
          obtain ⟨⟨v9, M9⟩, hk9, hyp⟩ := bd_some hyp
          try dsimp only at hyp
          refine am_callV [_, _] dX12_readsStep_85 ml_X12_171 vm_X12_number (sh_54 g) rfl (fun _ => Nat.le_of_ble_eq_true rfl) (by omega) rfl (ef_X12_number (d := d + 2) (h := h) g hk9) rfl ?_
          change am_At _ _ _ 88 [_, _, _] [_, _, _] _ _
          refine am_iast dX12_readsStep_88 (am_ia.row (sh_71 g) (by omega) (am_vlt (am_lit hg6))) (am_lit rfl) ?_
          refine am_iload_n dX12_readsStep_89 rfl ?_
          refine am_iconst 4 (v := 4) dX12_readsStep_90 (by decide) ?_
          refine am_icmp_neT (70) 161 dX12_readsStep_91 rfl hc3n ?_
          refine am_aload_n dX12_readsStep_161 rfl ?_
          refine am_iconst 2 (v := 2) dX12_readsStep_162 (by decide) ?_
          refine am_aload_n dX12_readsStep_163 rfl ?_
          refine am_getI 12 28 dX12_readsStep_164 fg_X12_252 (sh_54 g) (by decide) rfl ?_
          refine am_iast dX12_readsStep_167 (am_ia.row (sh_71 g) (by omega) (am_vlt (am_lit hg6))) (am_lit rfl) ?_
          refine am_aload_n dX12_readsStep_168 rfl ?_
          refine am_bipush 59 (v := 59) dX12_readsStep_169 (by decide) ?_
          obtain ⟨M10, hk10, hyp⟩ := bd_some hyp
          try dsimp only at hyp
          refine am_callV [_] dX12_readsStep_171 ml_X12_175 vm_X12_sign (sh_54 g) rfl (fun _ => Nat.le_of_ble_eq_true rfl) (by omega) rfl (ef_X12_sign (d := d + 2) (h := h) g hk10) rfl ?_
          change am_At _ _ _ 174 [_, _, _] [] _ _
          cases hyp
          exact am_vret dX12_readsStep_174 rfl
      · intro hc4n
        have hc4n : ¬ ((M1 54 0 5) = 0) := hc4n
        replace hyp := it_neg hc4n hyp
        cases hyp
        exact am_vret dX12_readsStep_39 rfl
    · intro hc3
      have hc3 : v1 = (4 : Int32) := hc3
      replace hyp := it_pos hc3 hyp
      refine am_aload_n dX12_readsStep_24 rfl ?_
      refine am_callV [] dX12_readsStep_25 ml_X12_229 vm_X12_opensOne (sh_54 g) rfl (fun _ => Nat.le_of_ble_eq_true rfl) (by omega) rfl (ef_X12_opensOne (d := d + 3) (h := h) g  (M := M1) rfl) rfl ?_
      change am_At _ _ _ 28 [_, _, _] [_] _ _
      refine am_if_ne (4) 32 dX12_readsStep_28 rfl ?_ ?_
      · intro hc11n
        have hc11n : ¬ (((f_X12_opensOne M1).1) = 0) := hc11n
        replace hyp := it_neg hc11n hyp
        refine am_aload_n dX12_readsStep_32 rfl ?_
        refine am_getI 12 5 dX12_readsStep_33 fg_X12_119 (sh_54 g) (by decide) rfl ?_
        refine am_if_eq (4) 40 dX12_readsStep_36 rfl ?_ ?_
        · intro hc12
          have hc12 : ((f_X12_opensOne M1).2 54 0 5) = 0 := hc12
          replace hyp := it_pos hc12 hyp
          refine am_aload_n dX12_readsStep_40 rfl ?_
          obtain ⟨M13, hk13, hyp⟩ := bd_some hyp
          try dsimp only at hyp
          refine am_callV [] dX12_readsStep_41 ml_X12_156 vm_X12_skipWord (sh_54 g) rfl (fun _ => Nat.le_of_ble_eq_true rfl) (by omega) rfl (ef_X12_skipWord (d := d + 3) (h := h) g hk13) rfl ?_
          change am_At _ _ _ 44 [_, _, _] [] _ _
          refine am_aload_n dX12_readsStep_44 rfl ?_
          refine am_getR 12 27 71 dX12_readsStep_45 fg_X12_64 (sh_54 g) (by decide) rfl (rf_54_27 g) ?_
          refine am_aload_n dX12_readsStep_48 rfl ?_
          refine am_getI 12 28 dX12_readsStep_49 fg_X12_252 (sh_54 g) (by decide) rfl ?_
          obtain ⟨hg14, hyp⟩ := gd_some hyp
          refine am_aald dX12_readsStep_52 (sh_71 g) (am_lit hg14) ?_
          refine am_astore_n dX12_readsStep_53 (am_lb rfl) ?_
          change am_At _ _ _ 54 [_, _, _] [] _ _
          refine am_aload_n dX12_readsStep_54 rfl ?_
          refine am_dup dX12_readsStep_55 (fun _ => rfl) ?_
          refine am_getI 12 28 dX12_readsStep_56 fg_X12_252 (sh_54 g) (by decide) rfl ?_
          refine am_iconst 1 (v := 1) dX12_readsStep_59 (by decide) ?_
          refine am_iadd dX12_readsStep_60 ?_
          refine am_putI 12 28 dX12_readsStep_61 (Or.inl fp_X12_252) (sh_54 g) (by decide) rfl rfl rfl ?_
          refine am_aload_n dX12_readsStep_64 rfl ?_
          refine am_iconst 0 (v := 0) dX12_readsStep_65 (by decide) ?_
          refine am_iload_n dX12_readsStep_66 rfl ?_
          refine am_iast dX12_readsStep_67 (am_ia.row (sh_71 g) (by omega) (am_vlt (am_lit hg14))) (am_lit rfl) ?_
          refine am_iload_n dX12_readsStep_68 rfl ?_
          refine am_iconst 3 (v := 3) dX12_readsStep_69 (by decide) ?_
          refine am_icmp_ge (19) 89 dX12_readsStep_70 rfl ?_ ?_
          · intro hc15
            have hc15 : (3 : Int32) ≤ v1 := hc15
            replace hyp := it_pos hc15 hyp
            refine am_iload_n dX12_readsStep_89 rfl ?_
            refine am_iconst 4 (v := 4) dX12_readsStep_90 (by decide) ?_
            refine am_icmp_neF (70) 161 dX12_readsStep_91 rfl hc3 ?_
            refine am_aload_n dX12_readsStep_94 rfl ?_
            refine am_iconst 1 (v := 1) dX12_readsStep_95 (by decide) ?_
            refine am_aload_n dX12_readsStep_96 rfl ?_
            refine am_iconst 0 (v := 0) dX12_readsStep_97 (by decide) ?_
            refine am_bipush 60 (v := 60) dX12_readsStep_98 (by decide) ?_
            obtain ⟨⟨v16, M16⟩, hk16, hyp⟩ := bd_some hyp
            try dsimp only at hyp
            refine am_callV [_, _] dX12_readsStep_100 ml_X12_171 vm_X12_number (sh_54 g) rfl (fun _ => Nat.le_of_ble_eq_true rfl) (by omega) rfl (ef_X12_number (d := d + 2) (h := h) g hk16) rfl ?_
            change am_At _ _ _ 103 [_, _, _] [_, _, _] _ _
            refine am_iast dX12_readsStep_103 (am_ia.row (sh_71 g) (by omega) (am_vlt (am_lit hg14))) (am_lit rfl) ?_
            refine am_aload_n dX12_readsStep_104 rfl ?_
            refine am_bipush 91 (v := 91) dX12_readsStep_105 (by decide) ?_
            obtain ⟨M17, hk17, hyp⟩ := bd_some hyp
            try dsimp only at hyp
            refine am_callV [_] dX12_readsStep_107 ml_X12_175 vm_X12_sign (sh_54 g) rfl (fun _ => Nat.le_of_ble_eq_true rfl) (by omega) rfl (ef_X12_sign (d := d + 2) (h := h) g hk17) rfl ?_
            change am_At _ _ _ 110 [_, _, _] [] _ _
            refine am_aload_n dX12_readsStep_110 rfl ?_
            obtain ⟨M18, hk18, hyp⟩ := bd_some hyp
            try dsimp only at hyp
            refine am_callV [] dX12_readsStep_111 ml_X12_125 vm_X12_blanks (sh_54 g) rfl (fun _ => Nat.le_of_ble_eq_true rfl) (by omega) rfl (ef_X12_blanks (d := d + 3) (h := h) g hk18) rfl ?_
            change am_At _ _ _ 114 [_, _, _] [] _ _
            obtain ⟨M24, hw24, hyp⟩ := bd_some hyp
            refine am_At.drop 1 ?_
            try dsimp only at hyp
            refine eL_RX12_readsStep_114 (d := d) (h := h) g er_X12_readsStep  FU M18 M24 hw24 ?_
            change am_At _ _ _ 145 [_, _, _] [] _ _
            refine am_aload_n dX12_readsStep_145 rfl ?_
            refine am_bipush 93 (v := 93) dX12_readsStep_146 (by decide) ?_
            obtain ⟨M25, hk25, hyp⟩ := bd_some hyp
            try dsimp only at hyp
            refine am_callV [_] dX12_readsStep_148 ml_X12_175 vm_X12_sign (sh_54 g) rfl (fun _ => Nat.le_of_ble_eq_true rfl) (by omega) rfl (ef_X12_sign (d := d + 2) (h := h) g hk25) rfl ?_
            change am_At _ _ _ 151 [_, _, _] [] _ _
            refine am_aload_n dX12_readsStep_151 rfl ?_
            refine am_dup dX12_readsStep_152 (fun _ => rfl) ?_
            refine am_getI 12 8 dX12_readsStep_153 fg_X12_162 (sh_54 g) (by decide) rfl ?_
            refine am_iconst 1 (v := 1) dX12_readsStep_156 (by decide) ?_
            refine am_isub dX12_readsStep_157 ?_
            refine am_putI 12 8 dX12_readsStep_158 (Or.inl fp_X12_162) (sh_54 g) (by decide) rfl rfl rfl ?_
            refine am_aload_n dX12_readsStep_161 rfl ?_
            refine am_iconst 2 (v := 2) dX12_readsStep_162 (by decide) ?_
            refine am_aload_n dX12_readsStep_163 rfl ?_
            refine am_getI 12 28 dX12_readsStep_164 fg_X12_252 (sh_54 g) (by decide) rfl ?_
            refine am_iast dX12_readsStep_167 (am_ia.row (sh_71 g) (by omega) (am_vlt (am_lit hg14))) (am_lit rfl) ?_
            refine am_aload_n dX12_readsStep_168 rfl ?_
            refine am_bipush 59 (v := 59) dX12_readsStep_169 (by decide) ?_
            obtain ⟨M26, hk26, hyp⟩ := bd_some hyp
            try dsimp only at hyp
            refine am_callV [_] dX12_readsStep_171 ml_X12_175 vm_X12_sign (sh_54 g) rfl (fun _ => Nat.le_of_ble_eq_true rfl) (by omega) rfl (ef_X12_sign (d := d + 2) (h := h) g hk26) rfl ?_
            change am_At _ _ _ 174 [_, _, _] [] _ _
            cases hyp
            exact am_vret dX12_readsStep_174 rfl
          · intro hc15n
            have hc15n : ¬ ((3 : Int32) ≤ v1) := hc15n
            replace hyp := it_neg hc15n hyp
            refine am_aload_n dX12_readsStep_73 rfl ?_
            refine am_iconst 1 (v := 1) dX12_readsStep_74 (by decide) ?_
            refine am_aload_n dX12_readsStep_75 rfl ?_
            refine am_iconst 0 (v := 0) dX12_readsStep_76 (by decide) ?_
            refine am_aload_n dX12_readsStep_77 rfl ?_
            refine am_getR 12 12 58 dX12_readsStep_78 fg_X12_23 (sh_54 g) (by decide) rfl (rf_54_12 g) ?_
            refine am_iconst 0 (v := 0) dX12_readsStep_81 (by decide) ?_
            refine am_iald dX12_readsStep_82 (am_ia.one (sh_58 g)) (am_lit rfl) ?_
            refine am_iconst 1 (v := 1) dX12_readsStep_83 (by decide) ?_
            refine am_isub dX12_readsStep_84 ?_
            obtain ⟨⟨v27, M27⟩, hk27, hyp⟩ := bd_some hyp
            try dsimp only at hyp
            refine am_callV [_, _] dX12_readsStep_85 ml_X12_171 vm_X12_number (sh_54 g) rfl (fun _ => Nat.le_of_ble_eq_true rfl) (by omega) rfl (ef_X12_number (d := d + 2) (h := h) g hk27) rfl ?_
            change am_At _ _ _ 88 [_, _, _] [_, _, _] _ _
            refine am_iast dX12_readsStep_88 (am_ia.row (sh_71 g) (by omega) (am_vlt (am_lit hg14))) (am_lit rfl) ?_
            refine am_iload_n dX12_readsStep_89 rfl ?_
            refine am_iconst 4 (v := 4) dX12_readsStep_90 (by decide) ?_
            refine am_icmp_neF (70) 161 dX12_readsStep_91 rfl hc3 ?_
            refine am_aload_n dX12_readsStep_94 rfl ?_
            refine am_iconst 1 (v := 1) dX12_readsStep_95 (by decide) ?_
            refine am_aload_n dX12_readsStep_96 rfl ?_
            refine am_iconst 0 (v := 0) dX12_readsStep_97 (by decide) ?_
            refine am_bipush 60 (v := 60) dX12_readsStep_98 (by decide) ?_
            obtain ⟨⟨v28, M28⟩, hk28, hyp⟩ := bd_some hyp
            try dsimp only at hyp
            refine am_callV [_, _] dX12_readsStep_100 ml_X12_171 vm_X12_number (sh_54 g) rfl (fun _ => Nat.le_of_ble_eq_true rfl) (by omega) rfl (ef_X12_number (d := d + 2) (h := h) g hk28) rfl ?_
            change am_At _ _ _ 103 [_, _, _] [_, _, _] _ _
            refine am_iast dX12_readsStep_103 (am_ia.row (sh_71 g) (by omega) (am_vlt (am_lit hg14))) (am_lit rfl) ?_
            refine am_aload_n dX12_readsStep_104 rfl ?_
            refine am_bipush 91 (v := 91) dX12_readsStep_105 (by decide) ?_
            obtain ⟨M29, hk29, hyp⟩ := bd_some hyp
            try dsimp only at hyp
            refine am_callV [_] dX12_readsStep_107 ml_X12_175 vm_X12_sign (sh_54 g) rfl (fun _ => Nat.le_of_ble_eq_true rfl) (by omega) rfl (ef_X12_sign (d := d + 2) (h := h) g hk29) rfl ?_
            change am_At _ _ _ 110 [_, _, _] [] _ _
            refine am_aload_n dX12_readsStep_110 rfl ?_
            obtain ⟨M30, hk30, hyp⟩ := bd_some hyp
            try dsimp only at hyp
            refine am_callV [] dX12_readsStep_111 ml_X12_125 vm_X12_blanks (sh_54 g) rfl (fun _ => Nat.le_of_ble_eq_true rfl) (by omega) rfl (ef_X12_blanks (d := d + 3) (h := h) g hk30) rfl ?_
            change am_At _ _ _ 114 [_, _, _] [] _ _
            obtain ⟨M31, hw31, hyp⟩ := bd_some hyp
            refine am_At.drop 1 ?_
            try dsimp only at hyp
            refine eL_RX12_readsStep_114 (d := d) (h := h) g er_X12_readsStep  FU M30 M31 hw31 ?_
            change am_At _ _ _ 145 [_, _, _] [] _ _
            refine am_aload_n dX12_readsStep_145 rfl ?_
            refine am_bipush 93 (v := 93) dX12_readsStep_146 (by decide) ?_
            obtain ⟨M32, hk32, hyp⟩ := bd_some hyp
            try dsimp only at hyp
            refine am_callV [_] dX12_readsStep_148 ml_X12_175 vm_X12_sign (sh_54 g) rfl (fun _ => Nat.le_of_ble_eq_true rfl) (by omega) rfl (ef_X12_sign (d := d + 2) (h := h) g hk32) rfl ?_
            change am_At _ _ _ 151 [_, _, _] [] _ _
            refine am_aload_n dX12_readsStep_151 rfl ?_
            refine am_dup dX12_readsStep_152 (fun _ => rfl) ?_
            refine am_getI 12 8 dX12_readsStep_153 fg_X12_162 (sh_54 g) (by decide) rfl ?_
            refine am_iconst 1 (v := 1) dX12_readsStep_156 (by decide) ?_
            refine am_isub dX12_readsStep_157 ?_
            refine am_putI 12 8 dX12_readsStep_158 (Or.inl fp_X12_162) (sh_54 g) (by decide) rfl rfl rfl ?_
            refine am_aload_n dX12_readsStep_161 rfl ?_
            refine am_iconst 2 (v := 2) dX12_readsStep_162 (by decide) ?_
            refine am_aload_n dX12_readsStep_163 rfl ?_
            refine am_getI 12 28 dX12_readsStep_164 fg_X12_252 (sh_54 g) (by decide) rfl ?_
            refine am_iast dX12_readsStep_167 (am_ia.row (sh_71 g) (by omega) (am_vlt (am_lit hg14))) (am_lit rfl) ?_
            refine am_aload_n dX12_readsStep_168 rfl ?_
            refine am_bipush 59 (v := 59) dX12_readsStep_169 (by decide) ?_
            obtain ⟨M33, hk33, hyp⟩ := bd_some hyp
            try dsimp only at hyp
            refine am_callV [_] dX12_readsStep_171 ml_X12_175 vm_X12_sign (sh_54 g) rfl (fun _ => Nat.le_of_ble_eq_true rfl) (by omega) rfl (ef_X12_sign (d := d + 2) (h := h) g hk33) rfl ?_
            change am_At _ _ _ 174 [_, _, _] [] _ _
            cases hyp
            exact am_vret dX12_readsStep_174 rfl
        · intro hc12n
          have hc12n : ¬ (((f_X12_opensOne M1).2 54 0 5) = 0) := hc12n
          replace hyp := it_neg hc12n hyp
          cases hyp
          exact am_vret dX12_readsStep_39 rfl
      · intro hc11
        have hc11 : ((f_X12_opensOne M1).1) = 0 := hc11
        replace hyp := it_pos hc11 hyp
        cases hyp
        exact am_vret dX12_readsStep_31 rfl
  · intro hc2
    have hc2 : v1 = (-1 : Int32) := hc2
    replace hyp := it_pos hc2 hyp
    refine am_aload_n dX12_readsStep_10 rfl ?_
    refine am_iconst 1 (v := 1) dX12_readsStep_11 (by decide) ?_
    refine am_aload_n dX12_readsStep_12 rfl ?_
    refine am_getI 12 4 dX12_readsStep_13 fg_X12_112 (sh_54 g) (by decide) rfl ?_
    refine am_callV [_, _] dX12_readsStep_16 ml_X12_132 vm_X12_wrong (sh_54 g) rfl (fun _ => Nat.le_of_ble_eq_true rfl) (by omega) rfl (ef_X12_wrong (d := d + 4) (h := h) g (x1 := (1 : Int32)) (x2 := (M1 54 0 4)) (M := M1) rfl) rfl ?_
    change am_At _ _ _ 19 [_, _, _] [] _ _
    refine am_iload_n dX12_readsStep_19 rfl ?_
    refine am_iconst 4 (v := 4) dX12_readsStep_20 (by decide) ?_
    refine am_icmp_ne (11) 32 dX12_readsStep_21 rfl ?_ ?_
    · intro hc34n
      have hc34n : ¬ (v1 = (4 : Int32)) := hc34n
      replace hyp := it_neg hc34n hyp
      refine am_aload_n dX12_readsStep_32 rfl ?_
      refine am_getI 12 5 dX12_readsStep_33 fg_X12_119 (sh_54 g) (by decide) rfl ?_
      refine am_if_eq (4) 40 dX12_readsStep_36 rfl ?_ ?_
      · intro hc35
        have hc35 : ((f_X12_wrong (1 : Int32) (M1 54 0 4) M1) 54 0 5) = 0 := hc35
        replace hyp := it_pos hc35 hyp
        refine am_aload_n dX12_readsStep_40 rfl ?_
        obtain ⟨M36, hk36, hyp⟩ := bd_some hyp
        try dsimp only at hyp
        refine am_callV [] dX12_readsStep_41 ml_X12_156 vm_X12_skipWord (sh_54 g) rfl (fun _ => Nat.le_of_ble_eq_true rfl) (by omega) rfl (ef_X12_skipWord (d := d + 3) (h := h) g hk36) rfl ?_
        change am_At _ _ _ 44 [_, _, _] [] _ _
        refine am_aload_n dX12_readsStep_44 rfl ?_
        refine am_getR 12 27 71 dX12_readsStep_45 fg_X12_64 (sh_54 g) (by decide) rfl (rf_54_27 g) ?_
        refine am_aload_n dX12_readsStep_48 rfl ?_
        refine am_getI 12 28 dX12_readsStep_49 fg_X12_252 (sh_54 g) (by decide) rfl ?_
        obtain ⟨hg37, hyp⟩ := gd_some hyp
        refine am_aald dX12_readsStep_52 (sh_71 g) (am_lit hg37) ?_
        refine am_astore_n dX12_readsStep_53 (am_lb rfl) ?_
        change am_At _ _ _ 54 [_, _, _] [] _ _
        refine am_aload_n dX12_readsStep_54 rfl ?_
        refine am_dup dX12_readsStep_55 (fun _ => rfl) ?_
        refine am_getI 12 28 dX12_readsStep_56 fg_X12_252 (sh_54 g) (by decide) rfl ?_
        refine am_iconst 1 (v := 1) dX12_readsStep_59 (by decide) ?_
        refine am_iadd dX12_readsStep_60 ?_
        refine am_putI 12 28 dX12_readsStep_61 (Or.inl fp_X12_252) (sh_54 g) (by decide) rfl rfl rfl ?_
        refine am_aload_n dX12_readsStep_64 rfl ?_
        refine am_iconst 0 (v := 0) dX12_readsStep_65 (by decide) ?_
        refine am_iload_n dX12_readsStep_66 rfl ?_
        refine am_iast dX12_readsStep_67 (am_ia.row (sh_71 g) (by omega) (am_vlt (am_lit hg37))) (am_lit rfl) ?_
        refine am_iload_n dX12_readsStep_68 rfl ?_
        refine am_iconst 3 (v := 3) dX12_readsStep_69 (by decide) ?_
        refine am_icmp_ge (19) 89 dX12_readsStep_70 rfl ?_ ?_
        · intro hc38
          have hc38 : (3 : Int32) ≤ v1 := hc38
          replace hyp := it_pos hc38 hyp
          refine am_iload_n dX12_readsStep_89 rfl ?_
          refine am_iconst 4 (v := 4) dX12_readsStep_90 (by decide) ?_
          refine am_icmp_neT (70) 161 dX12_readsStep_91 rfl hc34n ?_
          refine am_aload_n dX12_readsStep_161 rfl ?_
          refine am_iconst 2 (v := 2) dX12_readsStep_162 (by decide) ?_
          refine am_aload_n dX12_readsStep_163 rfl ?_
          refine am_getI 12 28 dX12_readsStep_164 fg_X12_252 (sh_54 g) (by decide) rfl ?_
          refine am_iast dX12_readsStep_167 (am_ia.row (sh_71 g) (by omega) (am_vlt (am_lit hg37))) (am_lit rfl) ?_
          refine am_aload_n dX12_readsStep_168 rfl ?_
          refine am_bipush 59 (v := 59) dX12_readsStep_169 (by decide) ?_
          obtain ⟨M39, hk39, hyp⟩ := bd_some hyp
          try dsimp only at hyp
          refine am_callV [_] dX12_readsStep_171 ml_X12_175 vm_X12_sign (sh_54 g) rfl (fun _ => Nat.le_of_ble_eq_true rfl) (by omega) rfl (ef_X12_sign (d := d + 2) (h := h) g hk39) rfl ?_
          change am_At _ _ _ 174 [_, _, _] [] _ _
          cases hyp
          exact am_vret dX12_readsStep_174 rfl
        · intro hc38n
          have hc38n : ¬ ((3 : Int32) ≤ v1) := hc38n
          replace hyp := it_neg hc38n hyp
          refine am_aload_n dX12_readsStep_73 rfl ?_
          refine am_iconst 1 (v := 1) dX12_readsStep_74 (by decide) ?_
          refine am_aload_n dX12_readsStep_75 rfl ?_
          refine am_iconst 0 (v := 0) dX12_readsStep_76 (by decide) ?_
          refine am_aload_n dX12_readsStep_77 rfl ?_
          refine am_getR 12 12 58 dX12_readsStep_78 fg_X12_23 (sh_54 g) (by decide) rfl (rf_54_12 g) ?_
          refine am_iconst 0 (v := 0) dX12_readsStep_81 (by decide) ?_
          refine am_iald dX12_readsStep_82 (am_ia.one (sh_58 g)) (am_lit rfl) ?_
          refine am_iconst 1 (v := 1) dX12_readsStep_83 (by decide) ?_
          refine am_isub dX12_readsStep_84 ?_
          obtain ⟨⟨v40, M40⟩, hk40, hyp⟩ := bd_some hyp
          try dsimp only at hyp
          refine am_callV [_, _] dX12_readsStep_85 ml_X12_171 vm_X12_number (sh_54 g) rfl (fun _ => Nat.le_of_ble_eq_true rfl) (by omega) rfl (ef_X12_number (d := d + 2) (h := h) g hk40) rfl ?_
          change am_At _ _ _ 88 [_, _, _] [_, _, _] _ _
          refine am_iast dX12_readsStep_88 (am_ia.row (sh_71 g) (by omega) (am_vlt (am_lit hg37))) (am_lit rfl) ?_
          refine am_iload_n dX12_readsStep_89 rfl ?_
          refine am_iconst 4 (v := 4) dX12_readsStep_90 (by decide) ?_
          refine am_icmp_neT (70) 161 dX12_readsStep_91 rfl hc34n ?_
          refine am_aload_n dX12_readsStep_161 rfl ?_
          refine am_iconst 2 (v := 2) dX12_readsStep_162 (by decide) ?_
          refine am_aload_n dX12_readsStep_163 rfl ?_
          refine am_getI 12 28 dX12_readsStep_164 fg_X12_252 (sh_54 g) (by decide) rfl ?_
          refine am_iast dX12_readsStep_167 (am_ia.row (sh_71 g) (by omega) (am_vlt (am_lit hg37))) (am_lit rfl) ?_
          refine am_aload_n dX12_readsStep_168 rfl ?_
          refine am_bipush 59 (v := 59) dX12_readsStep_169 (by decide) ?_
          obtain ⟨M41, hk41, hyp⟩ := bd_some hyp
          try dsimp only at hyp
          refine am_callV [_] dX12_readsStep_171 ml_X12_175 vm_X12_sign (sh_54 g) rfl (fun _ => Nat.le_of_ble_eq_true rfl) (by omega) rfl (ef_X12_sign (d := d + 2) (h := h) g hk41) rfl ?_
          change am_At _ _ _ 174 [_, _, _] [] _ _
          cases hyp
          exact am_vret dX12_readsStep_174 rfl
      · intro hc35n
        have hc35n : ¬ (((f_X12_wrong (1 : Int32) (M1 54 0 4) M1) 54 0 5) = 0) := hc35n
        replace hyp := it_neg hc35n hyp
        cases hyp
        exact am_vret dX12_readsStep_39 rfl
    · intro hc34
      have hc34 : v1 = (4 : Int32) := hc34
      replace hyp := it_pos hc34 hyp
      refine am_aload_n dX12_readsStep_24 rfl ?_
      refine am_callV [] dX12_readsStep_25 ml_X12_229 vm_X12_opensOne (sh_54 g) rfl (fun _ => Nat.le_of_ble_eq_true rfl) (by omega) rfl (ef_X12_opensOne (d := d + 3) (h := h) g  (M := (f_X12_wrong (1 : Int32) (M1 54 0 4) M1)) rfl) rfl ?_
      change am_At _ _ _ 28 [_, _, _] [_] _ _
      refine am_if_ne (4) 32 dX12_readsStep_28 rfl ?_ ?_
      · intro hc42n
        have hc42n : ¬ (((f_X12_opensOne (f_X12_wrong (1 : Int32) (M1 54 0 4) M1)).1) = 0) := hc42n
        replace hyp := it_neg hc42n hyp
        refine am_aload_n dX12_readsStep_32 rfl ?_
        refine am_getI 12 5 dX12_readsStep_33 fg_X12_119 (sh_54 g) (by decide) rfl ?_
        refine am_if_eq (4) 40 dX12_readsStep_36 rfl ?_ ?_
        · intro hc43
          have hc43 : ((f_X12_opensOne (f_X12_wrong (1 : Int32) (M1 54 0 4) M1)).2 54 0 5) = 0 := hc43
          replace hyp := it_pos hc43 hyp
          refine am_aload_n dX12_readsStep_40 rfl ?_
          obtain ⟨M44, hk44, hyp⟩ := bd_some hyp
          try dsimp only at hyp
          refine am_callV [] dX12_readsStep_41 ml_X12_156 vm_X12_skipWord (sh_54 g) rfl (fun _ => Nat.le_of_ble_eq_true rfl) (by omega) rfl (ef_X12_skipWord (d := d + 3) (h := h) g hk44) rfl ?_
          change am_At _ _ _ 44 [_, _, _] [] _ _
          refine am_aload_n dX12_readsStep_44 rfl ?_
          refine am_getR 12 27 71 dX12_readsStep_45 fg_X12_64 (sh_54 g) (by decide) rfl (rf_54_27 g) ?_
          refine am_aload_n dX12_readsStep_48 rfl ?_
          refine am_getI 12 28 dX12_readsStep_49 fg_X12_252 (sh_54 g) (by decide) rfl ?_
          obtain ⟨hg45, hyp⟩ := gd_some hyp
          refine am_aald dX12_readsStep_52 (sh_71 g) (am_lit hg45) ?_
          refine am_astore_n dX12_readsStep_53 (am_lb rfl) ?_
          change am_At _ _ _ 54 [_, _, _] [] _ _
          refine am_aload_n dX12_readsStep_54 rfl ?_
          refine am_dup dX12_readsStep_55 (fun _ => rfl) ?_
          refine am_getI 12 28 dX12_readsStep_56 fg_X12_252 (sh_54 g) (by decide) rfl ?_
          refine am_iconst 1 (v := 1) dX12_readsStep_59 (by decide) ?_
          refine am_iadd dX12_readsStep_60 ?_
          refine am_putI 12 28 dX12_readsStep_61 (Or.inl fp_X12_252) (sh_54 g) (by decide) rfl rfl rfl ?_
          refine am_aload_n dX12_readsStep_64 rfl ?_
          refine am_iconst 0 (v := 0) dX12_readsStep_65 (by decide) ?_
          refine am_iload_n dX12_readsStep_66 rfl ?_
          refine am_iast dX12_readsStep_67 (am_ia.row (sh_71 g) (by omega) (am_vlt (am_lit hg45))) (am_lit rfl) ?_
          refine am_iload_n dX12_readsStep_68 rfl ?_
          refine am_iconst 3 (v := 3) dX12_readsStep_69 (by decide) ?_
          refine am_icmp_ge (19) 89 dX12_readsStep_70 rfl ?_ ?_
          · intro hc46
            have hc46 : (3 : Int32) ≤ v1 := hc46
            replace hyp := it_pos hc46 hyp
            refine am_iload_n dX12_readsStep_89 rfl ?_
            refine am_iconst 4 (v := 4) dX12_readsStep_90 (by decide) ?_
            refine am_icmp_neF (70) 161 dX12_readsStep_91 rfl hc34 ?_
            refine am_aload_n dX12_readsStep_94 rfl ?_
            refine am_iconst 1 (v := 1) dX12_readsStep_95 (by decide) ?_
            refine am_aload_n dX12_readsStep_96 rfl ?_
            refine am_iconst 0 (v := 0) dX12_readsStep_97 (by decide) ?_
            refine am_bipush 60 (v := 60) dX12_readsStep_98 (by decide) ?_
            obtain ⟨⟨v47, M47⟩, hk47, hyp⟩ := bd_some hyp
            try dsimp only at hyp
            refine am_callV [_, _] dX12_readsStep_100 ml_X12_171 vm_X12_number (sh_54 g) rfl (fun _ => Nat.le_of_ble_eq_true rfl) (by omega) rfl (ef_X12_number (d := d + 2) (h := h) g hk47) rfl ?_
            change am_At _ _ _ 103 [_, _, _] [_, _, _] _ _
            refine am_iast dX12_readsStep_103 (am_ia.row (sh_71 g) (by omega) (am_vlt (am_lit hg45))) (am_lit rfl) ?_
            refine am_aload_n dX12_readsStep_104 rfl ?_
            refine am_bipush 91 (v := 91) dX12_readsStep_105 (by decide) ?_
            obtain ⟨M48, hk48, hyp⟩ := bd_some hyp
            try dsimp only at hyp
            refine am_callV [_] dX12_readsStep_107 ml_X12_175 vm_X12_sign (sh_54 g) rfl (fun _ => Nat.le_of_ble_eq_true rfl) (by omega) rfl (ef_X12_sign (d := d + 2) (h := h) g hk48) rfl ?_
            change am_At _ _ _ 110 [_, _, _] [] _ _
            refine am_aload_n dX12_readsStep_110 rfl ?_
            obtain ⟨M49, hk49, hyp⟩ := bd_some hyp
            try dsimp only at hyp
            refine am_callV [] dX12_readsStep_111 ml_X12_125 vm_X12_blanks (sh_54 g) rfl (fun _ => Nat.le_of_ble_eq_true rfl) (by omega) rfl (ef_X12_blanks (d := d + 3) (h := h) g hk49) rfl ?_
            change am_At _ _ _ 114 [_, _, _] [] _ _
            obtain ⟨M50, hw50, hyp⟩ := bd_some hyp
            refine am_At.drop 1 ?_
            try dsimp only at hyp
            refine eL_RX12_readsStep_114 (d := d) (h := h) g er_X12_readsStep  FU M49 M50 hw50 ?_
            change am_At _ _ _ 145 [_, _, _] [] _ _
            refine am_aload_n dX12_readsStep_145 rfl ?_
            refine am_bipush 93 (v := 93) dX12_readsStep_146 (by decide) ?_
            obtain ⟨M51, hk51, hyp⟩ := bd_some hyp
            try dsimp only at hyp
            refine am_callV [_] dX12_readsStep_148 ml_X12_175 vm_X12_sign (sh_54 g) rfl (fun _ => Nat.le_of_ble_eq_true rfl) (by omega) rfl (ef_X12_sign (d := d + 2) (h := h) g hk51) rfl ?_
            change am_At _ _ _ 151 [_, _, _] [] _ _
            refine am_aload_n dX12_readsStep_151 rfl ?_
            refine am_dup dX12_readsStep_152 (fun _ => rfl) ?_
            refine am_getI 12 8 dX12_readsStep_153 fg_X12_162 (sh_54 g) (by decide) rfl ?_
            refine am_iconst 1 (v := 1) dX12_readsStep_156 (by decide) ?_
            refine am_isub dX12_readsStep_157 ?_
            refine am_putI 12 8 dX12_readsStep_158 (Or.inl fp_X12_162) (sh_54 g) (by decide) rfl rfl rfl ?_
            refine am_aload_n dX12_readsStep_161 rfl ?_
            refine am_iconst 2 (v := 2) dX12_readsStep_162 (by decide) ?_
            refine am_aload_n dX12_readsStep_163 rfl ?_
            refine am_getI 12 28 dX12_readsStep_164 fg_X12_252 (sh_54 g) (by decide) rfl ?_
            refine am_iast dX12_readsStep_167 (am_ia.row (sh_71 g) (by omega) (am_vlt (am_lit hg45))) (am_lit rfl) ?_
            refine am_aload_n dX12_readsStep_168 rfl ?_
            refine am_bipush 59 (v := 59) dX12_readsStep_169 (by decide) ?_
            obtain ⟨M52, hk52, hyp⟩ := bd_some hyp
            try dsimp only at hyp
            refine am_callV [_] dX12_readsStep_171 ml_X12_175 vm_X12_sign (sh_54 g) rfl (fun _ => Nat.le_of_ble_eq_true rfl) (by omega) rfl (ef_X12_sign (d := d + 2) (h := h) g hk52) rfl ?_
            change am_At _ _ _ 174 [_, _, _] [] _ _
            cases hyp
            exact am_vret dX12_readsStep_174 rfl
          · intro hc46n
            have hc46n : ¬ ((3 : Int32) ≤ v1) := hc46n
            replace hyp := it_neg hc46n hyp
            refine am_aload_n dX12_readsStep_73 rfl ?_
            refine am_iconst 1 (v := 1) dX12_readsStep_74 (by decide) ?_
            refine am_aload_n dX12_readsStep_75 rfl ?_
            refine am_iconst 0 (v := 0) dX12_readsStep_76 (by decide) ?_
            refine am_aload_n dX12_readsStep_77 rfl ?_
            refine am_getR 12 12 58 dX12_readsStep_78 fg_X12_23 (sh_54 g) (by decide) rfl (rf_54_12 g) ?_
            refine am_iconst 0 (v := 0) dX12_readsStep_81 (by decide) ?_
            refine am_iald dX12_readsStep_82 (am_ia.one (sh_58 g)) (am_lit rfl) ?_
            refine am_iconst 1 (v := 1) dX12_readsStep_83 (by decide) ?_
            refine am_isub dX12_readsStep_84 ?_
            obtain ⟨⟨v53, M53⟩, hk53, hyp⟩ := bd_some hyp
            try dsimp only at hyp
            refine am_callV [_, _] dX12_readsStep_85 ml_X12_171 vm_X12_number (sh_54 g) rfl (fun _ => Nat.le_of_ble_eq_true rfl) (by omega) rfl (ef_X12_number (d := d + 2) (h := h) g hk53) rfl ?_
            change am_At _ _ _ 88 [_, _, _] [_, _, _] _ _
            refine am_iast dX12_readsStep_88 (am_ia.row (sh_71 g) (by omega) (am_vlt (am_lit hg45))) (am_lit rfl) ?_
            refine am_iload_n dX12_readsStep_89 rfl ?_
            refine am_iconst 4 (v := 4) dX12_readsStep_90 (by decide) ?_
            refine am_icmp_neF (70) 161 dX12_readsStep_91 rfl hc34 ?_
            refine am_aload_n dX12_readsStep_94 rfl ?_
            refine am_iconst 1 (v := 1) dX12_readsStep_95 (by decide) ?_
            refine am_aload_n dX12_readsStep_96 rfl ?_
            refine am_iconst 0 (v := 0) dX12_readsStep_97 (by decide) ?_
            refine am_bipush 60 (v := 60) dX12_readsStep_98 (by decide) ?_
            obtain ⟨⟨v54, M54⟩, hk54, hyp⟩ := bd_some hyp
            try dsimp only at hyp
            refine am_callV [_, _] dX12_readsStep_100 ml_X12_171 vm_X12_number (sh_54 g) rfl (fun _ => Nat.le_of_ble_eq_true rfl) (by omega) rfl (ef_X12_number (d := d + 2) (h := h) g hk54) rfl ?_
            change am_At _ _ _ 103 [_, _, _] [_, _, _] _ _
            refine am_iast dX12_readsStep_103 (am_ia.row (sh_71 g) (by omega) (am_vlt (am_lit hg45))) (am_lit rfl) ?_
            refine am_aload_n dX12_readsStep_104 rfl ?_
            refine am_bipush 91 (v := 91) dX12_readsStep_105 (by decide) ?_
            obtain ⟨M55, hk55, hyp⟩ := bd_some hyp
            try dsimp only at hyp
            refine am_callV [_] dX12_readsStep_107 ml_X12_175 vm_X12_sign (sh_54 g) rfl (fun _ => Nat.le_of_ble_eq_true rfl) (by omega) rfl (ef_X12_sign (d := d + 2) (h := h) g hk55) rfl ?_
            change am_At _ _ _ 110 [_, _, _] [] _ _
            refine am_aload_n dX12_readsStep_110 rfl ?_
            obtain ⟨M56, hk56, hyp⟩ := bd_some hyp
            try dsimp only at hyp
            refine am_callV [] dX12_readsStep_111 ml_X12_125 vm_X12_blanks (sh_54 g) rfl (fun _ => Nat.le_of_ble_eq_true rfl) (by omega) rfl (ef_X12_blanks (d := d + 3) (h := h) g hk56) rfl ?_
            change am_At _ _ _ 114 [_, _, _] [] _ _
            obtain ⟨M57, hw57, hyp⟩ := bd_some hyp
            refine am_At.drop 1 ?_
            try dsimp only at hyp
            refine eL_RX12_readsStep_114 (d := d) (h := h) g er_X12_readsStep  FU M56 M57 hw57 ?_
            change am_At _ _ _ 145 [_, _, _] [] _ _
            refine am_aload_n dX12_readsStep_145 rfl ?_
            refine am_bipush 93 (v := 93) dX12_readsStep_146 (by decide) ?_
            obtain ⟨M58, hk58, hyp⟩ := bd_some hyp
            try dsimp only at hyp
            refine am_callV [_] dX12_readsStep_148 ml_X12_175 vm_X12_sign (sh_54 g) rfl (fun _ => Nat.le_of_ble_eq_true rfl) (by omega) rfl (ef_X12_sign (d := d + 2) (h := h) g hk58) rfl ?_
            change am_At _ _ _ 151 [_, _, _] [] _ _
            refine am_aload_n dX12_readsStep_151 rfl ?_
            refine am_dup dX12_readsStep_152 (fun _ => rfl) ?_
            refine am_getI 12 8 dX12_readsStep_153 fg_X12_162 (sh_54 g) (by decide) rfl ?_
            refine am_iconst 1 (v := 1) dX12_readsStep_156 (by decide) ?_
            refine am_isub dX12_readsStep_157 ?_
            refine am_putI 12 8 dX12_readsStep_158 (Or.inl fp_X12_162) (sh_54 g) (by decide) rfl rfl rfl ?_
            refine am_aload_n dX12_readsStep_161 rfl ?_
            refine am_iconst 2 (v := 2) dX12_readsStep_162 (by decide) ?_
            refine am_aload_n dX12_readsStep_163 rfl ?_
            refine am_getI 12 28 dX12_readsStep_164 fg_X12_252 (sh_54 g) (by decide) rfl ?_
            refine am_iast dX12_readsStep_167 (am_ia.row (sh_71 g) (by omega) (am_vlt (am_lit hg45))) (am_lit rfl) ?_
            refine am_aload_n dX12_readsStep_168 rfl ?_
            refine am_bipush 59 (v := 59) dX12_readsStep_169 (by decide) ?_
            obtain ⟨M59, hk59, hyp⟩ := bd_some hyp
            try dsimp only at hyp
            refine am_callV [_] dX12_readsStep_171 ml_X12_175 vm_X12_sign (sh_54 g) rfl (fun _ => Nat.le_of_ble_eq_true rfl) (by omega) rfl (ef_X12_sign (d := d + 2) (h := h) g hk59) rfl ?_
            change am_At _ _ _ 174 [_, _, _] [] _ _
            cases hyp
            exact am_vret dX12_readsStep_174 rfl
        · intro hc43n
          have hc43n : ¬ (((f_X12_opensOne (f_X12_wrong (1 : Int32) (M1 54 0 4) M1)).2 54 0 5) = 0) := hc43n
          replace hyp := it_neg hc43n hyp
          cases hyp
          exact am_vret dX12_readsStep_39 rfl
      · intro hc42
        have hc42 : ((f_X12_opensOne (f_X12_wrong (1 : Int32) (M1 54 0 4) M1)).1) = 0 := hc42
        replace hyp := it_pos hc42 hyp
        cases hyp
        exact am_vret dX12_readsStep_31 rfl
theorem erec_readsStep {d : Nat} {h : am_H} (g : lay h) : ∀ (n : Nat), (∀ {M M' : Mem} , (rec_readsStep n) M = some M' → am_Ev (d + n + 4) mX12_readsStep [.inr (54, 0)] (am_hM h M) (.inl (none, am_hM h M')))
  | 0 => (fun hyp => nomatch hyp)
  | n + 1 => (fun hyp => by
      rw [show d + (n + 1) + 4 = d + n + 5 by omega]
      exact ef_RX12_readsStep (d := d + n) g (erec_readsStep g n) hyp)
theorem ef_X12_readsStep {d : Nat} {h : am_H} (g : lay h) : ∀ {M M' : Mem} , f_X12_readsStep M = some M' → am_Ev (d + 34) mX12_readsStep [.inr (54, 0)] (am_hM h M) (.inl (none, am_hM h M')) := fun hyp => (erec_readsStep (d := d) g 30) hyp
theorem ef_X11_board_24 {d : Nat} {h : am_H} (g : lay h) (hW : h.2.2 23 0 = some 24 ∧ h.2.2 23 2 = some 25) {x1 x2 : Int32} {M : Mem} {y : (Int32 ⊕ String) × Mem} (hyp : f_X11_board 24 25 x1 x2 M = some y) : am_Ev (d + 6) mX11_board [.inr (0, 0), am_I x1, am_I x2] (am_hM h M) (am_o1 h y) := by
  unfold f_X11_board at hyp
  refine am_Ev.mk (by decide +kernel) rfl rfl (am_oc1 h y) (am_os1 h y) ?_
  change am_At _ _ _ 0 [_, _, _] [] _ _
  refine am_aload_n dX11_board_0 rfl ?_
  refine am_iload_n dX11_board_1 rfl ?_
  obtain ⟨⟨y1, M1⟩, hk1, hyp⟩ := bd_some hyp
  rcases y1 with v1 | E1
  rotate_left
  · try dsimp only at hyp
    cases hyp
    exact am_callVX [_] dX11_board_2 ml_X11_209 vm_X11_needBoard (sh_0 g) rfl (fun _ => Nat.le_of_ble_eq_true rfl) (by omega) rfl (am_o0t (ef_X11_needBoard (d := d + 4) (h := h) g hk1)) rfl
  try dsimp only at hyp
  refine am_callV [_] dX11_board_2 ml_X11_209 vm_X11_needBoard (sh_0 g) rfl (fun _ => Nat.le_of_ble_eq_true rfl) (by omega) rfl (am_o0v (ef_X11_needBoard (d := d + 4) (h := h) g hk1)) rfl ?_
  change am_At _ _ _ 5 [_, _, _] [] _ _
  refine am_aload_n dX11_board_5 rfl ?_
  refine am_iload_n dX11_board_6 rfl ?_
  refine am_iconst 0 (v := 0) dX11_board_7 (by decide) ?_
  refine am_bipush 7 (v := 7) dX11_board_8 (by decide) ?_
  obtain ⟨⟨y2, M2⟩, hk2, hyp⟩ := bd_some hyp
  rcases y2 with v2 | E2
  rotate_left
  · try dsimp only at hyp
    cases hyp
    exact am_callVX [_, _, _] dX11_board_10 ml_X11_178 vm_X11_needFit (sh_0 g) rfl (fun _ => Nat.le_of_ble_eq_true rfl) (by omega) rfl (am_o0t (ef_X11_needFit (d := d + 5) (h := h) g hk2)) rfl
  try dsimp only at hyp
  refine am_callV [_, _, _] dX11_board_10 ml_X11_178 vm_X11_needFit (sh_0 g) rfl (fun _ => Nat.le_of_ble_eq_true rfl) (by omega) rfl (am_o0v (ef_X11_needFit (d := d + 5) (h := h) g hk2)) rfl ?_
  change am_At _ _ _ 13 [_, _, _] [] _ _
  refine am_iload_n dX11_board_13 rfl ?_
  by_cases hc3 : x2 = (0 : Int32)
  · refine am_tabIn (42) 56 dX11_board_14 (by rw [hc3]; decide) (by rw [hc3]; decide) (by rw [hc3]; rfl) rfl ?_
    replace hyp := it_pos hc3 hyp
    refine am_aload_n dX11_board_56 rfl ?_
    refine am_getR 11 1 3 dX11_board_57 fg_X11_19 (sh_0 g) (by decide) rfl (rf_0_1 g) ?_
    refine am_getR 1 1 4 dX11_board_60 fg_X11_212 (sh_3 g) (by decide) rfl (rf_3_1 g) ?_
    refine am_iload_n dX11_board_63 rfl ?_
    obtain ⟨hg4, hyp⟩ := gd_some hyp
    refine am_iald dX11_board_64 (am_ia.one (sh_4 g)) (am_lit hg4) ?_
    cases hyp
    exact am_iret dX11_board_65 rfl
  · have hc3n := hc3
    replace hyp := it_neg hc3n hyp
    by_cases hc5 : x2 = (1 : Int32)
    · refine am_tabIn (52) 66 dX11_board_14 (by rw [hc5]; decide) (by rw [hc5]; decide) (by rw [hc5]; rfl) rfl ?_
      replace hyp := it_pos hc5 hyp
      refine am_aload_n dX11_board_66 rfl ?_
      refine am_getR 11 1 3 dX11_board_67 fg_X11_19 (sh_0 g) (by decide) rfl (rf_0_1 g) ?_
      refine am_getR 1 2 5 dX11_board_70 fg_X11_215 (sh_3 g) (by decide) rfl (rf_3_2 g) ?_
      refine am_iload_n dX11_board_73 rfl ?_
      obtain ⟨hg6, hyp⟩ := gd_some hyp
      refine am_iald dX11_board_74 (am_ia.one (sh_5 g)) (am_lit hg6) ?_
      cases hyp
      exact am_iret dX11_board_75 rfl
    · have hc5n := hc5
      replace hyp := it_neg hc5n hyp
      by_cases hc7 : x2 = (2 : Int32)
      · refine am_tabIn (62) 76 dX11_board_14 (by rw [hc7]; decide) (by rw [hc7]; decide) (by rw [hc7]; rfl) rfl ?_
        replace hyp := it_pos hc7 hyp
        refine am_aload_n dX11_board_76 rfl ?_
        refine am_getR 11 1 3 dX11_board_77 fg_X11_19 (sh_0 g) (by decide) rfl (rf_0_1 g) ?_
        refine am_getR 1 3 6 dX11_board_80 fg_X11_218 (sh_3 g) (by decide) rfl (rf_3_3 g) ?_
        refine am_iload_n dX11_board_83 rfl ?_
        obtain ⟨hg8, hyp⟩ := gd_some hyp
        refine am_iald dX11_board_84 (am_ia.one (sh_6 g)) (am_lit hg8) ?_
        cases hyp
        exact am_iret dX11_board_85 rfl
      · have hc7n := hc7
        replace hyp := it_neg hc7n hyp
        by_cases hc9 : x2 = (3 : Int32)
        · refine am_tabIn (72) 86 dX11_board_14 (by rw [hc9]; decide) (by rw [hc9]; decide) (by rw [hc9]; rfl) rfl ?_
          replace hyp := it_pos hc9 hyp
          refine am_aload_n dX11_board_86 rfl ?_
          refine am_getR 11 1 3 dX11_board_87 fg_X11_19 (sh_0 g) (by decide) rfl (rf_0_1 g) ?_
          refine am_getR 1 4 7 dX11_board_90 fg_X11_221 (sh_3 g) (by decide) rfl (rf_3_4 g) ?_
          refine am_iload_n dX11_board_93 rfl ?_
          obtain ⟨hg10, hyp⟩ := gd_some hyp
          refine am_iald dX11_board_94 (am_ia.one (sh_7 g)) (am_lit hg10) ?_
          cases hyp
          exact am_iret dX11_board_95 rfl
        · have hc9n := hc9
          replace hyp := it_neg hc9n hyp
          by_cases hc11 : x2 = (4 : Int32)
          · refine am_tabIn (82) 96 dX11_board_14 (by rw [hc11]; decide) (by rw [hc11]; decide) (by rw [hc11]; rfl) rfl ?_
            replace hyp := it_pos hc11 hyp
            refine am_aload_n dX11_board_96 rfl ?_
            refine am_getR 11 5 29 dX11_board_97 fg_X11_45 (sh_0 g) (by decide) rfl (rf_0_5 g) ?_
            refine am_iload_n dX11_board_100 rfl ?_
            refine am_callV [_] dX11_board_101 ml_X11_224 vm_X8_modeOf (sh_29 g) rfl (fun _ => Nat.le_of_ble_eq_true rfl) (by omega) rfl (ef_X8_modeOf_30 (d := d + 4) (h := h) g (x1 := x1) (M := M2) rfl) rfl ?_
            change am_At _ _ _ 104 [_, _, _] [_] _ _
            cases hyp
            exact am_iret dX11_board_104 rfl
          · have hc11n := hc11
            replace hyp := it_neg hc11n hyp
            by_cases hc12 : x2 = (5 : Int32)
            · refine am_tabIn (91) 105 dX11_board_14 (by rw [hc12]; decide) (by rw [hc12]; decide) (by rw [hc12]; rfl) rfl ?_
              replace hyp := it_pos hc12 hyp
              refine am_aload_n dX11_board_105 rfl ?_
              obtain ⟨⟨v13, M13⟩, hk13, hyp⟩ := bd_some hyp
              try dsimp only at hyp
              refine am_callV [] dX11_board_106 ml_X11_191 vm_X11_openNow (sh_0 g) rfl (fun _ => Nat.le_of_ble_eq_true rfl) (by omega) rfl (ef_X11_openNow_24 (d := d + 0) (h := h) g hW hk13) rfl ?_
              change am_At _ _ _ 109 [_, _, _] [_] _ _
              refine am_iload_n dX11_board_109 rfl ?_
              refine am_ishr dX11_board_110 ?_
              refine am_iconst 1 (v := 1) dX11_board_111 (by decide) ?_
              refine am_iand dX11_board_112 ?_
              cases hyp
              exact am_iret dX11_board_113 rfl
            · have hc12n := hc12
              replace hyp := it_neg hc12n hyp
              by_cases hc14 : x2 = (6 : Int32)
              · refine am_tabIn (100) 114 dX11_board_14 (by rw [hc14]; decide) (by rw [hc14]; decide) (by rw [hc14]; rfl) rfl ?_
                replace hyp := it_pos hc14 hyp
                refine am_aload_n dX11_board_114 rfl ?_
                refine am_getR 11 5 29 dX11_board_115 fg_X11_45 (sh_0 g) (by decide) rfl (rf_0_5 g) ?_
                refine am_iload_n dX11_board_118 rfl ?_
                obtain ⟨v15, hk15, hyp⟩ := bd_some hyp
                try dsimp only at hyp
                refine am_callV [_] dX11_board_119 ml_X11_227 vm_X8_finesOf (sh_29 g) rfl (fun _ => Nat.le_of_ble_eq_true rfl) (by omega) rfl (ef_X8_finesOf_30 (d := d + 5) (h := h) g hk15) rfl ?_
                change am_At _ _ _ 122 [_, _, _] [_] _ _
                cases hyp
                exact am_iret dX11_board_122 rfl
              · have hc14n := hc14
                replace hyp := it_neg hc14n hyp
                refine am_tabOut 123 dX11_board_14 (by have q0 := lv_neT (a := 0) hc3n (by decide); have q1 := lv_neT (a := 1) hc5n (by decide); have q2 := lv_neT (a := 2) hc7n (by decide); have q3 := lv_neT (a := 3) hc9n (by decide); have q4 := lv_neT (a := 4) hc11n (by decide); have q5 := lv_neT (a := 5) hc12n (by decide); have q6 := lv_neT (a := 6) hc14n (by decide); omega) rfl ?_
                refine am_aload_n dX11_board_123 rfl ?_
                refine am_getR 11 5 29 dX11_board_124 fg_X11_45 (sh_0 g) (by decide) rfl (rf_0_5 g) ?_
                refine am_iload_n dX11_board_127 rfl ?_
                obtain ⟨v16, hk16, hyp⟩ := bd_some hyp
                try dsimp only at hyp
                refine am_callV [_] dX11_board_128 ml_X11_230 vm_X8_knocksAt (sh_29 g) rfl (fun _ => Nat.le_of_ble_eq_true rfl) (by omega) rfl (ef_X8_knocksAt_30 (d := d + 5) (h := h) g hk16) rfl ?_
                change am_At _ _ _ 131 [_, _, _] [_] _ _
                cases hyp
                exact am_iret dX11_board_131 rfl
theorem ef_X11_board_25 {d : Nat} {h : am_H} (g : lay h) (hW : h.2.2 23 0 = some 25 ∧ h.2.2 23 2 = some 24) {x1 x2 : Int32} {M : Mem} {y : (Int32 ⊕ String) × Mem} (hyp : f_X11_board 25 24 x1 x2 M = some y) : am_Ev (d + 6) mX11_board [.inr (0, 0), am_I x1, am_I x2] (am_hM h M) (am_o1 h y) := by
  unfold f_X11_board at hyp
  refine am_Ev.mk (by decide +kernel) rfl rfl (am_oc1 h y) (am_os1 h y) ?_
  change am_At _ _ _ 0 [_, _, _] [] _ _
  refine am_aload_n dX11_board_0 rfl ?_
  refine am_iload_n dX11_board_1 rfl ?_
  obtain ⟨⟨y1, M1⟩, hk1, hyp⟩ := bd_some hyp
  rcases y1 with v1 | E1
  rotate_left
  · try dsimp only at hyp
    cases hyp
    exact am_callVX [_] dX11_board_2 ml_X11_209 vm_X11_needBoard (sh_0 g) rfl (fun _ => Nat.le_of_ble_eq_true rfl) (by omega) rfl (am_o0t (ef_X11_needBoard (d := d + 4) (h := h) g hk1)) rfl
  try dsimp only at hyp
  refine am_callV [_] dX11_board_2 ml_X11_209 vm_X11_needBoard (sh_0 g) rfl (fun _ => Nat.le_of_ble_eq_true rfl) (by omega) rfl (am_o0v (ef_X11_needBoard (d := d + 4) (h := h) g hk1)) rfl ?_
  change am_At _ _ _ 5 [_, _, _] [] _ _
  refine am_aload_n dX11_board_5 rfl ?_
  refine am_iload_n dX11_board_6 rfl ?_
  refine am_iconst 0 (v := 0) dX11_board_7 (by decide) ?_
  refine am_bipush 7 (v := 7) dX11_board_8 (by decide) ?_
  obtain ⟨⟨y2, M2⟩, hk2, hyp⟩ := bd_some hyp
  rcases y2 with v2 | E2
  rotate_left
  · try dsimp only at hyp
    cases hyp
    exact am_callVX [_, _, _] dX11_board_10 ml_X11_178 vm_X11_needFit (sh_0 g) rfl (fun _ => Nat.le_of_ble_eq_true rfl) (by omega) rfl (am_o0t (ef_X11_needFit (d := d + 5) (h := h) g hk2)) rfl
  try dsimp only at hyp
  refine am_callV [_, _, _] dX11_board_10 ml_X11_178 vm_X11_needFit (sh_0 g) rfl (fun _ => Nat.le_of_ble_eq_true rfl) (by omega) rfl (am_o0v (ef_X11_needFit (d := d + 5) (h := h) g hk2)) rfl ?_
  change am_At _ _ _ 13 [_, _, _] [] _ _
  refine am_iload_n dX11_board_13 rfl ?_
  by_cases hc3 : x2 = (0 : Int32)
  · refine am_tabIn (42) 56 dX11_board_14 (by rw [hc3]; decide) (by rw [hc3]; decide) (by rw [hc3]; rfl) rfl ?_
    replace hyp := it_pos hc3 hyp
    refine am_aload_n dX11_board_56 rfl ?_
    refine am_getR 11 1 3 dX11_board_57 fg_X11_19 (sh_0 g) (by decide) rfl (rf_0_1 g) ?_
    refine am_getR 1 1 4 dX11_board_60 fg_X11_212 (sh_3 g) (by decide) rfl (rf_3_1 g) ?_
    refine am_iload_n dX11_board_63 rfl ?_
    obtain ⟨hg4, hyp⟩ := gd_some hyp
    refine am_iald dX11_board_64 (am_ia.one (sh_4 g)) (am_lit hg4) ?_
    cases hyp
    exact am_iret dX11_board_65 rfl
  · have hc3n := hc3
    replace hyp := it_neg hc3n hyp
    by_cases hc5 : x2 = (1 : Int32)
    · refine am_tabIn (52) 66 dX11_board_14 (by rw [hc5]; decide) (by rw [hc5]; decide) (by rw [hc5]; rfl) rfl ?_
      replace hyp := it_pos hc5 hyp
      refine am_aload_n dX11_board_66 rfl ?_
      refine am_getR 11 1 3 dX11_board_67 fg_X11_19 (sh_0 g) (by decide) rfl (rf_0_1 g) ?_
      refine am_getR 1 2 5 dX11_board_70 fg_X11_215 (sh_3 g) (by decide) rfl (rf_3_2 g) ?_
      refine am_iload_n dX11_board_73 rfl ?_
      obtain ⟨hg6, hyp⟩ := gd_some hyp
      refine am_iald dX11_board_74 (am_ia.one (sh_5 g)) (am_lit hg6) ?_
      cases hyp
      exact am_iret dX11_board_75 rfl
    · have hc5n := hc5
      replace hyp := it_neg hc5n hyp
      by_cases hc7 : x2 = (2 : Int32)
      · refine am_tabIn (62) 76 dX11_board_14 (by rw [hc7]; decide) (by rw [hc7]; decide) (by rw [hc7]; rfl) rfl ?_
        replace hyp := it_pos hc7 hyp
        refine am_aload_n dX11_board_76 rfl ?_
        refine am_getR 11 1 3 dX11_board_77 fg_X11_19 (sh_0 g) (by decide) rfl (rf_0_1 g) ?_
        refine am_getR 1 3 6 dX11_board_80 fg_X11_218 (sh_3 g) (by decide) rfl (rf_3_3 g) ?_
        refine am_iload_n dX11_board_83 rfl ?_
        obtain ⟨hg8, hyp⟩ := gd_some hyp
        refine am_iald dX11_board_84 (am_ia.one (sh_6 g)) (am_lit hg8) ?_
        cases hyp
        exact am_iret dX11_board_85 rfl
      · have hc7n := hc7
        replace hyp := it_neg hc7n hyp
        by_cases hc9 : x2 = (3 : Int32)
        · refine am_tabIn (72) 86 dX11_board_14 (by rw [hc9]; decide) (by rw [hc9]; decide) (by rw [hc9]; rfl) rfl ?_
          replace hyp := it_pos hc9 hyp
          refine am_aload_n dX11_board_86 rfl ?_
          refine am_getR 11 1 3 dX11_board_87 fg_X11_19 (sh_0 g) (by decide) rfl (rf_0_1 g) ?_
          refine am_getR 1 4 7 dX11_board_90 fg_X11_221 (sh_3 g) (by decide) rfl (rf_3_4 g) ?_
          refine am_iload_n dX11_board_93 rfl ?_
          obtain ⟨hg10, hyp⟩ := gd_some hyp
          refine am_iald dX11_board_94 (am_ia.one (sh_7 g)) (am_lit hg10) ?_
          cases hyp
          exact am_iret dX11_board_95 rfl
        · have hc9n := hc9
          replace hyp := it_neg hc9n hyp
          by_cases hc11 : x2 = (4 : Int32)
          · refine am_tabIn (82) 96 dX11_board_14 (by rw [hc11]; decide) (by rw [hc11]; decide) (by rw [hc11]; rfl) rfl ?_
            replace hyp := it_pos hc11 hyp
            refine am_aload_n dX11_board_96 rfl ?_
            refine am_getR 11 5 29 dX11_board_97 fg_X11_45 (sh_0 g) (by decide) rfl (rf_0_5 g) ?_
            refine am_iload_n dX11_board_100 rfl ?_
            refine am_callV [_] dX11_board_101 ml_X11_224 vm_X8_modeOf (sh_29 g) rfl (fun _ => Nat.le_of_ble_eq_true rfl) (by omega) rfl (ef_X8_modeOf_30 (d := d + 4) (h := h) g (x1 := x1) (M := M2) rfl) rfl ?_
            change am_At _ _ _ 104 [_, _, _] [_] _ _
            cases hyp
            exact am_iret dX11_board_104 rfl
          · have hc11n := hc11
            replace hyp := it_neg hc11n hyp
            by_cases hc12 : x2 = (5 : Int32)
            · refine am_tabIn (91) 105 dX11_board_14 (by rw [hc12]; decide) (by rw [hc12]; decide) (by rw [hc12]; rfl) rfl ?_
              replace hyp := it_pos hc12 hyp
              refine am_aload_n dX11_board_105 rfl ?_
              obtain ⟨⟨v13, M13⟩, hk13, hyp⟩ := bd_some hyp
              try dsimp only at hyp
              refine am_callV [] dX11_board_106 ml_X11_191 vm_X11_openNow (sh_0 g) rfl (fun _ => Nat.le_of_ble_eq_true rfl) (by omega) rfl (ef_X11_openNow_25 (d := d + 0) (h := h) g hW hk13) rfl ?_
              change am_At _ _ _ 109 [_, _, _] [_] _ _
              refine am_iload_n dX11_board_109 rfl ?_
              refine am_ishr dX11_board_110 ?_
              refine am_iconst 1 (v := 1) dX11_board_111 (by decide) ?_
              refine am_iand dX11_board_112 ?_
              cases hyp
              exact am_iret dX11_board_113 rfl
            · have hc12n := hc12
              replace hyp := it_neg hc12n hyp
              by_cases hc14 : x2 = (6 : Int32)
              · refine am_tabIn (100) 114 dX11_board_14 (by rw [hc14]; decide) (by rw [hc14]; decide) (by rw [hc14]; rfl) rfl ?_
                replace hyp := it_pos hc14 hyp
                refine am_aload_n dX11_board_114 rfl ?_
                refine am_getR 11 5 29 dX11_board_115 fg_X11_45 (sh_0 g) (by decide) rfl (rf_0_5 g) ?_
                refine am_iload_n dX11_board_118 rfl ?_
                obtain ⟨v15, hk15, hyp⟩ := bd_some hyp
                try dsimp only at hyp
                refine am_callV [_] dX11_board_119 ml_X11_227 vm_X8_finesOf (sh_29 g) rfl (fun _ => Nat.le_of_ble_eq_true rfl) (by omega) rfl (ef_X8_finesOf_30 (d := d + 5) (h := h) g hk15) rfl ?_
                change am_At _ _ _ 122 [_, _, _] [_] _ _
                cases hyp
                exact am_iret dX11_board_122 rfl
              · have hc14n := hc14
                replace hyp := it_neg hc14n hyp
                refine am_tabOut 123 dX11_board_14 (by have q0 := lv_neT (a := 0) hc3n (by decide); have q1 := lv_neT (a := 1) hc5n (by decide); have q2 := lv_neT (a := 2) hc7n (by decide); have q3 := lv_neT (a := 3) hc9n (by decide); have q4 := lv_neT (a := 4) hc11n (by decide); have q5 := lv_neT (a := 5) hc12n (by decide); have q6 := lv_neT (a := 6) hc14n (by decide); omega) rfl ?_
                refine am_aload_n dX11_board_123 rfl ?_
                refine am_getR 11 5 29 dX11_board_124 fg_X11_45 (sh_0 g) (by decide) rfl (rf_0_5 g) ?_
                refine am_iload_n dX11_board_127 rfl ?_
                obtain ⟨v16, hk16, hyp⟩ := bd_some hyp
                try dsimp only at hyp
                refine am_callV [_] dX11_board_128 ml_X11_230 vm_X8_knocksAt (sh_29 g) rfl (fun _ => Nat.le_of_ble_eq_true rfl) (by omega) rfl (ef_X8_knocksAt_30 (d := d + 5) (h := h) g hk16) rfl ?_
                change am_At _ _ _ 131 [_, _, _] [_] _ _
                cases hyp
                exact am_iret dX11_board_131 rfl
