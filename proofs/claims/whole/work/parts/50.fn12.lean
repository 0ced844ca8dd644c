theorem eL_RX9_readRow_3 {d : Nat} {h : am_H} (g : lay h) {x2 x3 : Int32} {r_X9_readRow : Int32 → Int32 → Mem → Option (Mem)} (er_X9_readRow : ∀ {x2 x3 : Int32} {M M' : Mem} , r_X9_readRow x2 x3 M = some M' → am_Ev (d + 5) mX9_readRow [.inr (34, 0), .inr (1, 0), am_I x2, am_I x3] (am_hM h M) (.inl (none, am_hM h M'))) {r_X9_readStep : Int32 → Int32 → Mem → Option (Mem)} (er_X9_readStep : ∀ {x2 x3 : Int32} {M M' : Mem} , r_X9_readStep x2 x3 M = some M' → am_Ev (d + 5) mX9_readStep [.inr (34, 0), .inr (1, 0), am_I x2, am_I x3] (am_hM h M) (.inl (none, am_hM h M'))) {r : am_R} (n : Nat) : ∀ (s : Int32 × Mem) (e : (Mem) ⊕ (Mem)), wh (L_RX9_readRow_3 r_X9_readStep x2 x3) n s = some e → (match e with | (Sum.inl M) => am_At am_X0 (d + 6) mX9_readRow 50 [some (.inr (34, 0)), some (.inr (1, 0)), some (am_I (x2)), some (am_I (x3)), none, none] [] (am_hM h M) r | (Sum.inr M) => am_At am_X0 (d + 6) mX9_readRow 70 [some (.inr (34, 0)), some (.inr (1, 0)), some (am_I (x2)), some (am_I (x3)), none, none] [] (am_hM h M) r) → (match s with | (x4, M) => am_At am_X0 (d + 6) mX9_readRow 3 [some (.inr (34, 0)), some (.inr (1, 0)), some (am_I (x2)), some (am_I (x3)), some (am_I (x4)), none] [] (am_hM h M) r) := by
  refine am_wh (At := fun (s : Int32 × Mem) => match s with | (x4, M) => am_At am_X0 (d + 6) mX9_readRow 3 [some (.inr (34, 0)), some (.inr (1, 0)), some (am_I (x2)), some (am_I (x3)), some (am_I (x4)), none] [] (am_hM h M) r) (Ex := fun (e : (Mem) ⊕ (Mem)) => match e with | (Sum.inl M) => am_At am_X0 (d + 6) mX9_readRow 50 [some (.inr (34, 0)), some (.inr (1, 0)), some (am_I (x2)), some (am_I (x3)), none, none] [] (am_hM h M) r | (Sum.inr M) => am_At am_X0 (d + 6) mX9_readRow 70 [some (.inr (34, 0)), some (.inr (1, 0)), some (am_I (x2)), some (am_I (x3)), none, none] [] (am_hM h M) r) ?_ n
  rintro ⟨x4, M⟩ y hyp hx
  unfold L_RX9_readRow_3 at hyp
  try dsimp only at hyp
  change am_At _ _ _ 3 [_, _, _, _, _, _] [] _ _
  refine am_iload dX9_readRow_3 rfl ?_
  refine am_sipush 150 (v := 150) dX9_readRow_5 (by decide) ?_
  refine am_icmp_ge (62) 70 dX9_readRow_8 rfl ?_ ?_
  · intro hc1
    have hc1 : (150 : Int32) ≤ x4 := hc1
    replace hyp := it_pos hc1 hyp
    cases hyp
    refine am_At.drop 4 ?_
    exact hx
  · intro hc1n
    have hc1n : ¬ ((150 : Int32) ≤ x4) := hc1n
    replace hyp := it_neg hc1n hyp
    refine am_aload_n dX9_readRow_11 rfl ?_
    refine am_callV [] dX9_readRow_12 ml_X9_34 vm_X10_isFaulty (sh_1 g) rfl (fun _ => Nat.le_of_ble_eq_true rfl) (by omega) rfl (ef_X10_isFaulty (d := d + 5) (h := h) g  (M := M) rfl) rfl ?_
    change am_At _ _ _ 15 [_, _, _, _, _, _] [_] _ _
    refine am_if_ne (55) 70 dX9_readRow_15 rfl ?_ ?_
    · intro hc2n
      have hc2n : ¬ ((f_X10_isFaulty M) = 0) := hc2n
      replace hyp := it_neg hc2n hyp
      cases hyp
      refine am_At.drop 4 ?_
      exact hx
    · intro hc2
      have hc2 : (f_X10_isFaulty M) = 0 := hc2
      replace hyp := it_pos hc2 hyp
      refine am_iload_n dX9_readRow_18 rfl ?_
      refine am_if_ne (10) 29 dX9_readRow_19 rfl ?_ ?_
      · intro hc3n
        have hc3n : ¬ (x3 = 0) := hc3n
        replace hyp := it_neg hc3n hyp
        refine am_aload_n dX9_readRow_29 rfl ?_
        obtain ⟨⟨v4, M4⟩, hk4, hyp⟩ := bd_some hyp
        try dsimp only at hyp
        refine am_callV [] dX9_readRow_30 ml_X9_41 vm_X10_next (sh_1 g) rfl (fun _ => Nat.le_of_ble_eq_true rfl) (by omega) rfl (ef_X10_next (d := d + 5) (h := h) g hk4) rfl ?_
        change am_At _ _ _ 33 [_, _, _, _, _, _] [_] _ _
        refine am_bipush 93 (v := 93) dX9_readRow_33 (by decide) ?_
        refine am_icmp_ne (7) 42 dX9_readRow_35 rfl ?_ ?_
        · intro hc5n
          have hc5n : ¬ (v4 = (93 : Int32)) := hc5n
          replace hyp := it_neg hc5n hyp
          refine am_iconst 0 (v := 0) dX9_readRow_42 (by decide) ?_
          refine am_istore dX9_readRow_43 (am_lb rfl) ?_
          change am_At _ _ _ 45 [_, _, _, _, _, _] [] _ _
          refine am_iload dX9_readRow_45 rfl ?_
          refine am_if_eqT (4) 51 dX9_readRow_47 rfl (by decide) ?_
          refine am_aload_n dX9_readRow_51 rfl ?_
          refine am_aload_n dX9_readRow_52 rfl ?_
          refine am_iload_n dX9_readRow_53 rfl ?_
          refine am_iload_n dX9_readRow_54 rfl ?_
          obtain ⟨M6, hk6, hyp⟩ := bd_some hyp
          try dsimp only at hyp
          refine am_callV [_, _, _] dX9_readRow_55 ml_X9_45 vm_X9_readStep (sh_34 g) rfl (fun _ => Nat.le_of_ble_eq_true rfl) (by omega) rfl (er_X9_readStep hk6) rfl ?_
          change am_At _ _ _ 58 [_, _, _, _, _, _] [] _ _
          refine am_aload_n dX9_readRow_58 rfl ?_
          refine am_bipush 59 (v := 59) dX9_readRow_59 (by decide) ?_
          obtain ⟨M7, hk7, hyp⟩ := bd_some hyp
          try dsimp only at hyp
          refine am_callV [_] dX9_readRow_61 ml_X9_48 vm_X10_expect (sh_1 g) rfl (fun _ => Nat.le_of_ble_eq_true rfl) (by omega) rfl (ef_X10_expect (d := d + 4) (h := h) g hk7) rfl ?_
          change am_At _ _ _ 64 [_, _, _, _, _, _] [] _ _
          refine am_iinc dX9_readRow_64 rfl (am_ix _) ?_
          change am_At _ _ _ 67 [_, _, _, _, _, _] [] _ _
          refine am_goto (-64) 3 dX9_readRow_67 rfl ?_
          cases hyp
          refine am_At.drop 5 ?_
          exact hx
        · intro hc5
          have hc5 : v4 = (93 : Int32) := hc5
          replace hyp := it_pos hc5 hyp
          refine am_iconst 1 (v := 1) dX9_readRow_38 (by decide) ?_
          refine am_goto (4) 43 dX9_readRow_39 rfl ?_
          refine am_istore dX9_readRow_43 (am_lb rfl) ?_
          change am_At _ _ _ 45 [_, _, _, _, _, _] [] _ _
          refine am_iload dX9_readRow_45 rfl ?_
          refine am_if_eqF (4) 51 dX9_readRow_47 rfl (by decide) ?_
          cases hyp
          refine am_At.drop 4 ?_
          refine am_At.drop 5 ?_
          exact hx
      · intro hc3
        have hc3 : x3 = 0 := hc3
        replace hyp := it_pos hc3 hyp
        refine am_aload_n dX9_readRow_22 rfl ?_
        obtain ⟨⟨v8, M8⟩, hk8, hyp⟩ := bd_some hyp
        try dsimp only at hyp
        refine am_callV [] dX9_readRow_23 ml_X9_38 vm_X10_isAtEnd (sh_1 g) rfl (fun _ => Nat.le_of_ble_eq_true rfl) (by omega) rfl (ef_X10_isAtEnd (d := d + 4) (h := h) g hk8) rfl ?_
        change am_At _ _ _ 26 [_, _, _, _, _, _] [_] _ _
        refine am_goto (17) 43 dX9_readRow_26 rfl ?_
        refine am_istore dX9_readRow_43 (am_lb rfl) ?_
        change am_At _ _ _ 45 [_, _, _, _, _, _] [] _ _
        refine am_iload dX9_readRow_45 rfl ?_
        refine am_if_eq (4) 51 dX9_readRow_47 rfl ?_ ?_
        · intro hc9
          have hc9 : v8 = 0 := hc9
          replace hyp := it_pos hc9 hyp
          refine am_aload_n dX9_readRow_51 rfl ?_
          refine am_aload_n dX9_readRow_52 rfl ?_
          refine am_iload_n dX9_readRow_53 rfl ?_
          refine am_iload_n dX9_readRow_54 rfl ?_
          obtain ⟨M10, hk10, hyp⟩ := bd_some hyp
          try dsimp only at hyp
          refine am_callV [_, _, _] dX9_readRow_55 ml_X9_45 vm_X9_readStep (sh_34 g) rfl (fun _ => Nat.le_of_ble_eq_true rfl) (by omega) rfl (er_X9_readStep hk10) rfl ?_
          change am_At _ _ _ 58 [_, _, _, _, _, _] [] _ _
          refine am_aload_n dX9_readRow_58 rfl ?_
          refine am_bipush 59 (v := 59) dX9_readRow_59 (by decide) ?_
          obtain ⟨M11, hk11, hyp⟩ := bd_some hyp
          try dsimp only at hyp
          refine am_callV [_] dX9_readRow_61 ml_X9_48 vm_X10_expect (sh_1 g) rfl (fun _ => Nat.le_of_ble_eq_true rfl) (by omega) rfl (ef_X10_expect (d := d + 4) (h := h) g hk11) rfl ?_
          change am_At _ _ _ 64 [_, _, _, _, _, _] [] _ _
          refine am_iinc dX9_readRow_64 rfl (am_ix _) ?_
          change am_At _ _ _ 67 [_, _, _, _, _, _] [] _ _
          refine am_goto (-64) 3 dX9_readRow_67 rfl ?_
          cases hyp
          refine am_At.drop 5 ?_
          exact hx
        · intro hc9n
          have hc9n : ¬ (v8 = 0) := hc9n
          replace hyp := it_neg hc9n hyp
          cases hyp
          refine am_At.drop 4 ?_
          refine am_At.drop 5 ?_
          exact hx
theorem ef_RX9_readRow {d : Nat} {h : am_H} (g : lay h) {x2 x3 : Int32} {r_X9_readRow : Int32 → Int32 → Mem → Option (Mem)} (er_X9_readRow : ∀ {x2 x3 : Int32} {M M' : Mem} , r_X9_readRow x2 x3 M = some M' → am_Ev (d + 5) mX9_readRow [.inr (34, 0), .inr (1, 0), am_I x2, am_I x3] (am_hM h M) (.inl (none, am_hM h M'))) {r_X9_readStep : Int32 → Int32 → Mem → Option (Mem)} (er_X9_readStep : ∀ {x2 x3 : Int32} {M M' : Mem} , r_X9_readStep x2 x3 M = some M' → am_Ev (d + 5) mX9_readStep [.inr (34, 0), .inr (1, 0), am_I x2, am_I x3] (am_hM h M) (.inl (none, am_hM h M'))) {M : Mem} {M' : Mem} (hyp : f_RX9_readRow r_X9_readRow r_X9_readStep x2 x3 M = some M') : am_Ev (d + 6) mX9_readRow [.inr (34, 0), .inr (1, 0), am_I x2, am_I x3] (am_hM h M) (.inl (none, am_hM h M')) := by
  unfold f_RX9_readRow at hyp
  refine am_Ev.mk (by decide +kernel) rfl rfl (Nat.le_refl _) (Nat.le_refl _) ?_
  change am_At _ _ _ 0 [_, _, _, _, _, _] [] _ _
  refine am_iconst 0 (v := 0) dX9_readRow_0 (by decide) ?_
  refine am_istore dX9_readRow_1 (am_lb rfl) ?_
  change am_At _ _ _ 3 [_, _, _, _, _, _] [] _ _
  obtain ⟨e12, hw12, hyp⟩ := bd_some hyp
  rcases e12 with M12 | M12
  · try dsimp only at hyp
    refine eL_RX9_readRow_3 (d := d) (h := h) g er_X9_readRow er_X9_readStep  FU ((0 : Int32), M) (Sum.inl M12) hw12 ?_
    change am_At _ _ _ 50 [_, _, _, _, _, _] [] _ _
    cases hyp
    exact am_vret dX9_readRow_50 rfl
  · try dsimp only at hyp
    refine eL_RX9_readRow_3 (d := d) (h := h) g er_X9_readRow er_X9_readStep  FU ((0 : Int32), M) (Sum.inr M12) hw12 ?_
    change am_At _ _ _ 70 [_, _, _, _, _, _] [] _ _
    cases hyp
    exact am_vret dX9_readRow_70 rfl
theorem ef_RX9_readStep {d : Nat} {h : am_H} (g : lay h) {x2 x3 : Int32} {r_X9_readRow : Int32 → Int32 → Mem → Option (Mem)} (er_X9_readRow : ∀ {x2 x3 : Int32} {M M' : Mem} , r_X9_readRow x2 x3 M = some M' → am_Ev (d + 5) mX9_readRow [.inr (34, 0), .inr (1, 0), am_I x2, am_I x3] (am_hM h M) (.inl (none, am_hM h M'))) {r_X9_readStep : Int32 → Int32 → Mem → Option (Mem)} (er_X9_readStep : ∀ {x2 x3 : Int32} {M M' : Mem} , r_X9_readStep x2 x3 M = some M' → am_Ev (d + 5) mX9_readStep [.inr (34, 0), .inr (1, 0), am_I x2, am_I x3] (am_hM h M) (.inl (none, am_hM h M'))) {M : Mem} {M' : Mem} (hyp : f_RX9_readStep r_X9_readRow r_X9_readStep x2 x3 M = some M') : am_Ev (d + 6) mX9_readStep [.inr (34, 0), .inr (1, 0), am_I x2, am_I x3] (am_hM h M) (.inl (none, am_hM h M')) := by
  unfold f_RX9_readStep at hyp
  refine am_Ev.mk (by decide +kernel) rfl rfl (Nat.le_refl _) (Nat.le_refl _) ?_
  change am_At _ _ _ 0 [_, _, _, _, _, _, _] [] _ _
  refine am_aload_n dX9_readStep_0 rfl ?_
  refine am_ldcS (k9 := 5) (text := "lift shut leave hour again") dX9_readStep_1 (by decide) ?_
  obtain ⟨⟨v1, M1⟩, hk1, hyp⟩ := bd_some hyp
  try dsimp only at hyp
  refine am_callV [_] dX9_readStep_3 ml_X9_54 vm_X10_word (sh_1 g) rfl (fun _ => Nat.le_of_ble_eq_true rfl) (by omega) rfl (ef_X10_word (d := d + 0) (h := h) g (k1 := 5) (by decide)  hk1) rfl ?_
  change am_At _ _ _ 6 [_, _, _, _, _, _, _] [_] _ _
  refine am_istore dX9_readStep_6 (am_lb rfl) ?_
  change am_At _ _ _ 8 [_, _, _, _, _, _, _] [] _ _
  refine am_iload dX9_readStep_8 rfl ?_
  refine am_iconst 4 (v := 4) dX9_readStep_10 (by decide) ?_
  refine am_icmp_ne (14) 25 dX9_readStep_11 rfl ?_ ?_
  · intro hc2n
    have hc2n : ¬ (v1 = (4 : Int32)) := hc2n
    replace hyp := it_neg hc2n hyp
    refine am_iconst 0 (v := 0) dX9_readStep_25 (by decide) ?_
    refine am_istore dX9_readStep_26 (am_lb rfl) ?_
    change am_At _ _ _ 28 [_, _, _, _, _, _, _] [] _ _
    refine am_iload dX9_readStep_28 rfl ?_
    refine am_iconst 4 (v := 4) dX9_readStep_30 (by decide) ?_
    refine am_icmp_neT (15) 46 dX9_readStep_31 rfl hc2n ?_
    refine am_iload dX9_readStep_46 rfl ?_
    refine am_iconst 3 (v := 3) dX9_readStep_48 (by decide) ?_
    refine am_icmp_eq (13) 62 dX9_readStep_49 rfl ?_ ?_
    · intro hc3
      have hc3 : v1 = (3 : Int32) := hc3
      replace hyp := it_pos hc3 hyp
      refine am_aload_n dX9_readStep_62 rfl ?_
      refine am_callV [] dX9_readStep_63 ml_X9_34 vm_X10_isFaulty (sh_1 g) rfl (fun _ => Nat.le_of_ble_eq_true rfl) (by omega) rfl (ef_X10_isFaulty (d := d + 5) (h := h) g  (M := M1) rfl) rfl ?_
      change am_At _ _ _ 66 [_, _, _, _, _, _, _] [_] _ _
      refine am_if_ne (15) 81 dX9_readStep_66 rfl ?_ ?_
      · intro hc4n
        have hc4n : ¬ ((f_X10_isFaulty M1) = 0) := hc4n
        replace hyp := it_neg hc4n hyp
        cases hyp
        exact am_vret dX9_readStep_81 rfl
      · intro hc4
        have hc4 : (f_X10_isFaulty M1) = 0 := hc4
        replace hyp := it_pos hc4 hyp
        refine am_aload_n dX9_readStep_69 rfl ?_
        refine am_getI 9 3 dX9_readStep_70 fg_X9_21 (sh_34 g) (by decide) rfl ?_
        refine am_aload_n dX9_readStep_73 rfl ?_
        refine am_getR 9 0 35 dX9_readStep_74 fg_X9_9 (sh_34 g) (by decide) rfl (rf_34_0 g) ?_
        refine am_alen dX9_readStep_77 (am_ia.one (sh_35 g)) rfl ?_
        refine am_icmp_lt (4) 82 dX9_readStep_78 rfl ?_ ?_
        · intro hc5
          have hc5 : (M1 34 0 3) < (150 : Int32) := hc5
          replace hyp := it_pos hc5 hyp
          refine am_aload_n dX9_readStep_82 rfl ?_
          refine am_getI 9 3 dX9_readStep_83 fg_X9_21 (sh_34 g) (by decide) rfl ?_
          refine am_istore dX9_readStep_86 (am_lb rfl) ?_
          change am_At _ _ _ 88 [_, _, _, _, _, _, _] [] _ _
          refine am_aload_n dX9_readStep_88 rfl ?_
          refine am_dup dX9_readStep_89 (fun _ => rfl) ?_
          refine am_getI 9 3 dX9_readStep_90 fg_X9_21 (sh_34 g) (by decide) rfl ?_
          refine am_iconst 1 (v := 1) dX9_readStep_93 (by decide) ?_
          refine am_iadd dX9_readStep_94 ?_
          refine am_putI 9 3 dX9_readStep_95 (Or.inl fp_X9_21) (sh_34 g) (by decide) rfl rfl rfl ?_
          refine am_aload_n dX9_readStep_98 rfl ?_
          refine am_getR 9 0 35 dX9_readStep_99 fg_X9_9 (sh_34 g) (by decide) rfl (rf_34_0 g) ?_
          refine am_iload dX9_readStep_102 rfl ?_
          refine am_iload dX9_readStep_104 rfl ?_
          obtain ⟨hg6, hyp⟩ := gd_some hyp
          refine am_iast dX9_readStep_106 (am_ia.one (sh_35 g)) (am_lit hg6) ?_
          refine am_aload_n dX9_readStep_107 rfl ?_
          refine am_getR 9 1 36 dX9_readStep_108 fg_X9_15 (sh_34 g) (by decide) rfl (rf_34_1 g) ?_
          refine am_iload dX9_readStep_111 rfl ?_
          refine am_iload dX9_readStep_113 rfl ?_
          refine am_iast dX9_readStep_115 (am_ia.one (sh_36 g)) (am_lit hg6) ?_
          refine am_iload dX9_readStep_116 rfl ?_
          refine am_iconst 4 (v := 4) dX9_readStep_118 (by decide) ?_
          refine am_icmp_neT (24) 143 dX9_readStep_119 rfl hc2n ?_
          refine am_aload_n dX9_readStep_143 rfl ?_
          refine am_getR 9 2 37 dX9_readStep_144 fg_X9_18 (sh_34 g) (by decide) rfl (rf_34_2 g) ?_
          refine am_iload dX9_readStep_147 rfl ?_
          refine am_aload_n dX9_readStep_149 rfl ?_
          refine am_getI 9 3 dX9_readStep_150 fg_X9_21 (sh_34 g) (by decide) rfl ?_
          refine am_iast dX9_readStep_153 (am_ia.one (sh_37 g)) (am_lit hg6) ?_
          cases hyp
          exact am_vret dX9_readStep_154 rfl
        · intro hc5n
          have hc5n : ¬ ((M1 34 0 3) < (150 : Int32)) := hc5n
          replace hyp := it_neg hc5n hyp
          cases hyp
          exact am_vret dX9_readStep_81 rfl
    · intro hc3n
      have hc3n : ¬ (v1 = (3 : Int32)) := hc3n
      replace hyp := it_neg hc3n hyp
      refine am_aload_n dX9_readStep_52 rfl ?_
      refine am_iconst 0 (v := 0) dX9_readStep_53 (by decide) ?_
      refine am_iload_n dX9_readStep_54 rfl ?_
      refine am_iconst 1 (v := 1) dX9_readStep_55 (by decide) ?_
      refine am_isub dX9_readStep_56 ?_
      obtain ⟨⟨v7, M7⟩, hk7, hyp⟩ := bd_some hyp
      try dsimp only at hyp
      refine am_callV [_, _] dX9_readStep_57 ml_X9_62 vm_X10_number (sh_1 g) rfl (fun _ => Nat.le_of_ble_eq_true rfl) (by omega) rfl (ef_X10_number (d := d + 4) (h := h) g hk7) rfl ?_
      change am_At _ _ _ 60 [_, _, _, _, _, _, _] [_] _ _
      refine am_istore dX9_readStep_60 (am_lb rfl) ?_
      change am_At _ _ _ 62 [_, _, _, _, _, _, _] [] _ _
      refine am_aload_n dX9_readStep_62 rfl ?_
      refine am_callV [] dX9_readStep_63 ml_X9_34 vm_X10_isFaulty (sh_1 g) rfl (fun _ => Nat.le_of_ble_eq_true rfl) (by omega) rfl (ef_X10_isFaulty (d := d + 5) (h := h) g  (M := M7) rfl) rfl ?_
      change am_At _ _ _ 66 [_, _, _, _, _, _, _] [_] _ _
      refine am_if_ne (15) 81 dX9_readStep_66 rfl ?_ ?_
      · intro hc8n
        have hc8n : ¬ ((f_X10_isFaulty M7) = 0) := hc8n
        replace hyp := it_neg hc8n hyp
        cases hyp
        exact am_vret dX9_readStep_81 rfl
      · intro hc8
        have hc8 : (f_X10_isFaulty M7) = 0 := hc8
        replace hyp := it_pos hc8 hyp
        refine am_aload_n dX9_readStep_69 rfl ?_
        refine am_getI 9 3 dX9_readStep_70 fg_X9_21 (sh_34 g) (by decide) rfl ?_
        refine am_aload_n dX9_readStep_73 rfl ?_
        refine am_getR 9 0 35 dX9_readStep_74 fg_X9_9 (sh_34 g) (by decide) rfl (rf_34_0 g) ?_
        refine am_alen dX9_readStep_77 (am_ia.one (sh_35 g)) rfl ?_
        refine am_icmp_lt (4) 82 dX9_readStep_78 rfl ?_ ?_
        · intro hc9
          have hc9 : (M7 34 0 3) < (150 : Int32) := hc9
          replace hyp := it_pos hc9 hyp
          refine am_aload_n dX9_readStep_82 rfl ?_
          refine am_getI 9 3 dX9_readStep_83 fg_X9_21 (sh_34 g) (by decide) rfl ?_
          refine am_istore dX9_readStep_86 (am_lb rfl) ?_
          change am_At _ _ _ 88 [_, _, _, _, _, _, _] [] _ _
          refine am_aload_n dX9_readStep_88 rfl ?_
          refine am_dup dX9_readStep_89 (fun _ => rfl) ?_
          refine am_getI 9 3 dX9_readStep_90 fg_X9_21 (sh_34 g) (by decide) rfl ?_
          refine am_iconst 1 (v := 1) dX9_readStep_93 (by decide) ?_
          refine am_iadd dX9_readStep_94 ?_
          refine am_putI 9 3 dX9_readStep_95 (Or.inl fp_X9_21) (sh_34 g) (by decide) rfl rfl rfl ?_
          refine am_aload_n dX9_readStep_98 rfl ?_
          refine am_getR 9 0 35 dX9_readStep_99 fg_X9_9 (sh_34 g) (by decide) rfl (rf_34_0 g) ?_
          refine am_iload dX9_readStep_102 rfl ?_
          refine am_iload dX9_readStep_104 rfl ?_
          obtain ⟨hg10, hyp⟩ := gd_some hyp
          refine am_iast dX9_readStep_106 (am_ia.one (sh_35 g)) (am_lit hg10) ?_
          refine am_aload_n dX9_readStep_107 rfl ?_
          refine am_getR 9 1 36 dX9_readStep_108 fg_X9_15 (sh_34 g) (by decide) rfl (rf_34_1 g) ?_
          refine am_iload dX9_readStep_111 rfl ?_
          refine am_iload dX9_readStep_113 rfl ?_
          refine am_iast dX9_readStep_115 (am_ia.one (sh_36 g)) (am_lit hg10) ?_
          refine am_iload dX9_readStep_116 rfl ?_
          refine am_iconst 4 (v := 4) dX9_readStep_118 (by decide) ?_
          refine am_icmp_neT (24) 143 dX9_readStep_119 rfl hc2n ?_
          refine am_aload_n dX9_readStep_143 rfl ?_
          refine am_getR 9 2 37 dX9_readStep_144 fg_X9_18 (sh_34 g) (by decide) rfl (rf_34_2 g) ?_
          refine am_iload dX9_readStep_147 rfl ?_
          refine am_aload_n dX9_readStep_149 rfl ?_
          refine am_getI 9 3 dX9_readStep_150 fg_X9_21 (sh_34 g) (by decide) rfl ?_
          refine am_iast dX9_readStep_153 (am_ia.one (sh_37 g)) (am_lit hg10) ?_
          cases hyp
          exact am_vret dX9_readStep_154 rfl
        · intro hc9n
          have hc9n : ¬ ((M7 34 0 3) < (150 : Int32)) := hc9n
          replace hyp := it_neg hc9n hyp
          cases hyp
          exact am_vret dX9_readStep_81 rfl
  · intro hc2
    have hc2 : v1 = (4 : Int32) := hc2
    replace hyp := it_pos hc2 hyp
    refine am_iload_n dX9_readStep_14 rfl ?_
    refine am_bipush 6 (v := 6) dX9_readStep_15 (by decide) ?_
    refine am_icmp_ne (8) 25 dX9_readStep_17 rfl ?_ ?_
    · intro hc11n
      have hc11n : ¬ (x3 = (6 : Int32)) := hc11n
      replace hyp := it_neg hc11n hyp
      refine am_iconst 0 (v := 0) dX9_readStep_25 (by decide) ?_
      refine am_istore dX9_readStep_26 (am_lb rfl) ?_
      change am_At _ _ _ 28 [_, _, _, _, _, _, _] [] _ _
      refine am_iload dX9_readStep_28 rfl ?_
      refine am_iconst 4 (v := 4) dX9_readStep_30 (by decide) ?_
      refine am_icmp_neF (15) 46 dX9_readStep_31 rfl hc2 ?_
      refine am_aload_n dX9_readStep_34 rfl ?_
      refine am_iconst 0 (v := 0) dX9_readStep_35 (by decide) ?_
      refine am_bipush 60 (v := 60) dX9_readStep_36 (by decide) ?_
      obtain ⟨⟨v12, M12⟩, hk12, hyp⟩ := bd_some hyp
      try dsimp only at hyp
      refine am_callV [_, _] dX9_readStep_38 ml_X9_62 vm_X10_number (sh_1 g) rfl (fun _ => Nat.le_of_ble_eq_true rfl) (by omega) rfl (ef_X10_number (d := d + 4) (h := h) g hk12) rfl ?_
      change am_At _ _ _ 41 [_, _, _, _, _, _, _] [_] _ _
      refine am_istore dX9_readStep_41 (am_lb rfl) ?_
      change am_At _ _ _ 43 [_, _, _, _, _, _, _] [] _ _
      refine am_goto (19) 62 dX9_readStep_43 rfl ?_
      refine am_aload_n dX9_readStep_62 rfl ?_
      refine am_callV [] dX9_readStep_63 ml_X9_34 vm_X10_isFaulty (sh_1 g) rfl (fun _ => Nat.le_of_ble_eq_true rfl) (by omega) rfl (ef_X10_isFaulty (d := d + 5) (h := h) g  (M := M12) rfl) rfl ?_
      change am_At _ _ _ 66 [_, _, _, _, _, _, _] [_] _ _
      refine am_if_ne (15) 81 dX9_readStep_66 rfl ?_ ?_
      · intro hc13n
        have hc13n : ¬ ((f_X10_isFaulty M12) = 0) := hc13n
        replace hyp := it_neg hc13n hyp
        cases hyp
        exact am_vret dX9_readStep_81 rfl
      · intro hc13
        have hc13 : (f_X10_isFaulty M12) = 0 := hc13
        replace hyp := it_pos hc13 hyp
        refine am_aload_n dX9_readStep_69 rfl ?_
        refine am_getI 9 3 dX9_readStep_70 fg_X9_21 (sh_34 g) (by decide) rfl ?_
        refine am_aload_n dX9_readStep_73 rfl ?_
        refine am_getR 9 0 35 dX9_readStep_74 fg_X9_9 (sh_34 g) (by decide) rfl (rf_34_0 g) ?_
        refine am_alen dX9_readStep_77 (am_ia.one (sh_35 g)) rfl ?_
        refine am_icmp_lt (4) 82 dX9_readStep_78 rfl ?_ ?_
        · intro hc14
          have hc14 : (M12 34 0 3) < (150 : Int32) := hc14
          replace hyp := it_pos hc14 hyp
          refine am_aload_n dX9_readStep_82 rfl ?_
          refine am_getI 9 3 dX9_readStep_83 fg_X9_21 (sh_34 g) (by decide) rfl ?_
          refine am_istore dX9_readStep_86 (am_lb rfl) ?_
          change am_At _ _ _ 88 [_, _, _, _, _, _, _] [] _ _
          refine am_aload_n dX9_readStep_88 rfl ?_
          refine am_dup dX9_readStep_89 (fun _ => rfl) ?_
          refine am_getI 9 3 dX9_readStep_90 fg_X9_21 (sh_34 g) (by decide) rfl ?_
          refine am_iconst 1 (v := 1) dX9_readStep_93 (by decide) ?_
          refine am_iadd dX9_readStep_94 ?_
          refine am_putI 9 3 dX9_readStep_95 (Or.inl fp_X9_21) (sh_34 g) (by decide) rfl rfl rfl ?_
          refine am_aload_n dX9_readStep_98 rfl ?_
          refine am_getR 9 0 35 dX9_readStep_99 fg_X9_9 (sh_34 g) (by decide) rfl (rf_34_0 g) ?_
          refine am_iload dX9_readStep_102 rfl ?_
          refine am_iload dX9_readStep_104 rfl ?_
          obtain ⟨hg15, hyp⟩ := gd_some hyp
          refine am_iast dX9_readStep_106 (am_ia.one (sh_35 g)) (am_lit hg15) ?_
          refine am_aload_n dX9_readStep_107 rfl ?_
          refine am_getR 9 1 36 dX9_readStep_108 fg_X9_15 (sh_34 g) (by decide) rfl (rf_34_1 g) ?_
          refine am_iload dX9_readStep_111 rfl ?_
          refine am_iload dX9_readStep_113 rfl ?_
          refine am_iast dX9_readStep_115 (am_ia.one (sh_36 g)) (am_lit hg15) ?_
          refine am_iload dX9_readStep_116 rfl ?_
          refine am_iconst 4 (v := 4) dX9_readStep_118 (by decide) ?_
          refine am_icmp_neF (24) 143 dX9_readStep_119 rfl hc2 ?_
          refine am_aload_n dX9_readStep_122 rfl ?_
          refine am_bipush 91 (v := 91) dX9_readStep_123 (by decide) ?_
          obtain ⟨M16, hk16, hyp⟩ := bd_some hyp
          try dsimp only at hyp
          refine am_callV [_] dX9_readStep_125 ml_X9_48 vm_X10_expect (sh_1 g) rfl (fun _ => Nat.le_of_ble_eq_true rfl) (by omega) rfl (ef_X10_expect (d := d + 4) (h := h) g hk16) rfl ?_
          change am_At _ _ _ 128 [_, _, _, _, _, _, _] [] _ _
          refine am_aload_n dX9_readStep_128 rfl ?_
          refine am_aload_n dX9_readStep_129 rfl ?_
          refine am_iload_n dX9_readStep_130 rfl ?_
          refine am_iload_n dX9_readStep_131 rfl ?_
          refine am_iconst 1 (v := 1) dX9_readStep_132 (by decide) ?_
          refine am_iadd dX9_readStep_133 ?_
          obtain ⟨M17, hk17, hyp⟩ := bd_some hyp
          try dsimp only at hyp
          refine am_callV [_, _, _] dX9_readStep_134 ml_X9_25 vm_X9_readRow (sh_34 g) rfl (fun _ => Nat.le_of_ble_eq_true rfl) (by omega) rfl (er_X9_readRow hk17) rfl ?_
          change am_At _ _ _ 137 [_, _, _, _, _, _, _] [] _ _
          refine am_aload_n dX9_readStep_137 rfl ?_
          refine am_bipush 93 (v := 93) dX9_readStep_138 (by decide) ?_
          obtain ⟨M18, hk18, hyp⟩ := bd_some hyp
          try dsimp only at hyp
          refine am_callV [_] dX9_readStep_140 ml_X9_48 vm_X10_expect (sh_1 g) rfl (fun _ => Nat.le_of_ble_eq_true rfl) (by omega) rfl (ef_X10_expect (d := d + 4) (h := h) g hk18) rfl ?_
          change am_At _ _ _ 143 [_, _, _, _, _, _, _] [] _ _
          refine am_aload_n dX9_readStep_143 rfl ?_
          refine am_getR 9 2 37 dX9_readStep_144 fg_X9_18 (sh_34 g) (by decide) rfl (rf_34_2 g) ?_
          refine am_iload dX9_readStep_147 rfl ?_
          refine am_aload_n dX9_readStep_149 rfl ?_
          refine am_getI 9 3 dX9_readStep_150 fg_X9_21 (sh_34 g) (by decide) rfl ?_
          refine am_iast dX9_readStep_153 (am_ia.one (sh_37 g)) (am_lit hg15) ?_
          cases hyp
          exact am_vret dX9_readStep_154 rfl
        · intro hc14n
          have hc14n : ¬ ((M12 34 0 3) < (150 : Int32)) := hc14n
          replace hyp := it_neg hc14n hyp
          cases hyp
          exact am_vret dX9_readStep_81 rfl
    · intro hc11
      have hc11 : x3 = (6 : Int32) := hc11
      replace hyp := it_pos hc11 hyp
      refine am_aload_n dX9_readStep_20 rfl ?_
      refine am_iconst 3 (v := 3) dX9_readStep_21 (by decide) ?_
      refine am_callV [_] dX9_readStep_22 ml_X9_58 vm_X10_blameToken (sh_1 g) rfl (fun _ => Nat.le_of_ble_eq_true rfl) (by omega) rfl (ef_X10_blameToken (d := d + 4) (h := h) g (x1 := (3 : Int32)) (M := M1) rfl) rfl ?_
      change am_At _ _ _ 25 [_, _, _, _, _, _, _] [] _ _
      refine am_iconst 0 (v := 0) dX9_readStep_25 (by decide) ?_
      refine am_istore dX9_readStep_26 (am_lb rfl) ?_
      change am_At _ _ _ 28 [_, _, _, _, _, _, _] [] _ _
      refine am_iload dX9_readStep_28 rfl ?_
      refine am_iconst 4 (v := 4) dX9_readStep_30 (by decide) ?_
      refine am_icmp_neF (15) 46 dX9_readStep_31 rfl hc2 ?_
      refine am_aload_n dX9_readStep_34 rfl ?_
      refine am_iconst 0 (v := 0) dX9_readStep_35 (by decide) ?_
      refine am_bipush 60 (v := 60) dX9_readStep_36 (by decide) ?_
      obtain ⟨⟨v19, M19⟩, hk19, hyp⟩ := bd_some hyp
      try dsimp only at hyp
      refine am_callV [_, _] dX9_readStep_38 ml_X9_62 vm_X10_number (sh_1 g) rfl (fun _ => Nat.le_of_ble_eq_true rfl) (by omega) rfl (ef_X10_number (d := d + 4) (h := h) g hk19) rfl ?_
      change am_At _ _ _ 41 [_, _, _, _, _, _, _] [_] _ _
      refine am_istore dX9_readStep_41 (am_lb rfl) ?_
      change am_At _ _ _ 43 [_, _, _, _, _, _, _] [] _ _
      refine am_goto (19) 62 dX9_readStep_43 rfl ?_
      refine am_aload_n dX9_readStep_62 rfl ?_
      refine am_callV [] dX9_readStep_63 ml_X9_34 vm_X10_isFaulty (sh_1 g) rfl (fun _ => Nat.le_of_ble_eq_true rfl) (by omega) rfl (ef_X10_isFaulty (d := d + 5) (h := h) g  (M := M19) rfl) rfl ?_
      change am_At _ _ _ 66 [_, _, _, _, _, _, _] [_] _ _
      refine am_if_ne (15) 81 dX9_readStep_66 rfl ?_ ?_
      · intro hc20n
        have hc20n : ¬ ((f_X10_isFaulty M19) = 0) := hc20n
        replace hyp := it_neg hc20n hyp
        cases hyp
        exact am_vret dX9_readStep_81 rfl
      · intro hc20
        have hc20 : (f_X10_isFaulty M19) = 0 := hc20
        replace hyp := it_pos hc20 hyp
        refine am_aload_n dX9_readStep_69 rfl ?_
        refine am_getI 9 3 dX9_readStep_70 fg_X9_21 (sh_34 g) (by decide) rfl ?_
        refine am_aload_n dX9_readStep_73 rfl ?_
        refine am_getR 9 0 35 dX9_readStep_74 fg_X9_9 (sh_34 g) (by decide) rfl (rf_34_0 g) ?_
        refine am_alen dX9_readStep_77 (am_ia.one (sh_35 g)) rfl ?_
        refine am_icmp_lt (4) 82 dX9_readStep_78 rfl ?_ ?_
        · intro hc21
          have hc21 : (M19 34 0 3) < (150 : Int32) := hc21
          replace hyp := it_pos hc21 hyp
          refine am_aload_n dX9_readStep_82 rfl ?_
          refine am_getI 9 3 dX9_readStep_83 fg_X9_21 (sh_34 g) (by decide) rfl ?_
          refine am_istore dX9_readStep_86 (am_lb rfl) ?_
          change am_At _ _ _ 88 [_, _, _, _, _, _, _] [] _ _
          refine am_aload_n dX9_readStep_88 rfl ?_
          refine am_dup dX9_readStep_89 (fun _ => rfl) ?_
          refine am_getI 9 3 dX9_readStep_90 fg_X9_21 (sh_34 g) (by decide) rfl ?_
          refine am_iconst 1 (v := 1) dX9_readStep_93 (by decide) ?_
          refine am_iadd dX9_readStep_94 ?_
          refine am_putI 9 3 dX9_readStep_95 (Or.inl fp_X9_21) (sh_34 g) (by decide) rfl rfl rfl ?_
          refine am_aload_n dX9_readStep_98 rfl ?_
          refine am_getR 9 0 35 dX9_readStep_99 fg_X9_9 (sh_34 g) (by decide) rfl (rf_34_0 g) ?_
          refine am_iload dX9_readStep_102 rfl ?_
          refine am_iload dX9_readStep_104 rfl ?_
          obtain ⟨hg22, hyp⟩ := gd_some hyp
          refine am_iast dX9_readStep_106 (am_ia.one (sh_35 g)) (am_lit hg22) ?_
          refine am_aload_n dX9_readStep_107 rfl ?_
          refine am_getR 9 1 36 dX9_readStep_108 fg_X9_15 (sh_34 g) (by decide) rfl (rf_34_1 g) ?_
          refine am_iload dX9_readStep_111 rfl ?_
          refine am_iload dX9_readStep_113 rfl ?_
          refine am_iast dX9_readStep_115 (am_ia.one (sh_36 g)) (am_lit hg22) ?_
          refine am_iload dX9_readStep_116 rfl ?_
          refine am_iconst 4 (v := 4) dX9_readStep_118 (by decide) ?_
          refine am_icmp_neF (24) 143 dX9_readStep_119 rfl hc2 ?_
          refine am_aload_n dX9_readStep_122 rfl ?_
          refine am_bipush 91 (v := 91) dX9_readStep_123 (by decide) ?_
          obtain ⟨M23, hk23, hyp⟩ := bd_some hyp
          try dsimp only at hyp
          refine am_callV [_] dX9_readStep_125 ml_X9_48 vm_X10_expect (sh_1 g) rfl (fun _ => Nat.le_of_ble_eq_true rfl) (by omega) rfl (ef_X10_expect (d := d + 4) (h := h) g hk23) rfl ?_
          change am_At _ _ _ 128 [_, _, _, _, _, _, _] [] _ _
          refine am_aload_n dX9_readStep_128 rfl ?_
          refine am_aload_n dX9_readStep_129 rfl ?_
          refine am_iload_n dX9_readStep_130 rfl ?_
          refine am_iload_n dX9_readStep_131 rfl ?_
          refine am_iconst 1 (v := 1) dX9_readStep_132 (by decide) ?_
          refine am_iadd dX9_readStep_133 ?_
          obtain ⟨M24, hk24, hyp⟩ := bd_some hyp
          try dsimp only at hyp
          refine am_callV [_, _, _] dX9_readStep_134 ml_X9_25 vm_X9_readRow (sh_34 g) rfl (fun _ => Nat.le_of_ble_eq_true rfl) (by omega) rfl (er_X9_readRow hk24) rfl ?_
          change am_At _ _ _ 137 [_, _, _, _, _, _, _] [] _ _
          refine am_aload_n dX9_readStep_137 rfl ?_
          refine am_bipush 93 (v := 93) dX9_readStep_138 (by decide) ?_
          obtain ⟨M25, hk25, hyp⟩ := bd_some hyp
          try dsimp only at hyp
          refine am_callV [_] dX9_readStep_140 ml_X9_48 vm_X10_expect (sh_1 g) rfl (fun _ => Nat.le_of_ble_eq_true rfl) (by omega) rfl (ef_X10_expect (d := d + 4) (h := h) g hk25) rfl ?_
          change am_At _ _ _ 143 [_, _, _, _, _, _, _] [] _ _
          refine am_aload_n dX9_readStep_143 rfl ?_
          refine am_getR 9 2 37 dX9_readStep_144 fg_X9_18 (sh_34 g) (by decide) rfl (rf_34_2 g) ?_
          refine am_iload dX9_readStep_147 rfl ?_
          refine am_aload_n dX9_readStep_149 rfl ?_
          refine am_getI 9 3 dX9_readStep_150 fg_X9_21 (sh_34 g) (by decide) rfl ?_
          refine am_iast dX9_readStep_153 (am_ia.one (sh_37 g)) (am_lit hg22) ?_
          cases hyp
          exact am_vret dX9_readStep_154 rfl
        · intro hc21n
          have hc21n : ¬ ((M19 34 0 3) < (150 : Int32)) := hc21n
          replace hyp := it_neg hc21n hyp
          cases hyp
          exact am_vret dX9_readStep_81 rfl
theorem erec_readRow {d : Nat} {h : am_H} (g : lay h) : ∀ (n : Nat), (∀ {x2 x3 : Int32} {M M' : Mem} , (rec_readRow n).1 x2 x3 M = some M' → am_Ev (d + n + 5) mX9_readRow [.inr (34, 0), .inr (1, 0), am_I x2, am_I x3] (am_hM h M) (.inl (none, am_hM h M'))) ∧ (∀ {x2 x3 : Int32} {M M' : Mem} , (rec_readRow n).2 x2 x3 M = some M' → am_Ev (d + n + 5) mX9_readStep [.inr (34, 0), .inr (1, 0), am_I x2, am_I x3] (am_hM h M) (.inl (none, am_hM h M')))
  | 0 => ⟨(fun hyp => nomatch hyp), (fun hyp => nomatch hyp)⟩
  | n + 1 => ⟨(fun hyp => by
      rw [show d + (n + 1) + 5 = d + n + 6 by omega]
      exact ef_RX9_readRow (d := d + n) g (erec_readRow g n).1 (erec_readRow g n).2 hyp),
    (fun hyp => by
      rw [show d + (n + 1) + 5 = d + n + 6 by omega]
      exact ef_RX9_readStep (d := d + n) g (erec_readRow g n).1 (erec_readRow g n).2 hyp)⟩
theorem ef_X9_readRow {d : Nat} {h : am_H} (g : lay h) : ∀ {x2 x3 : Int32} {M M' : Mem} , f_X9_readRow x2 x3 M = some M' → am_Ev (d + 35) mX9_readRow [.inr (34, 0), .inr (1, 0), am_I x2, am_I x3] (am_hM h M) (.inl (none, am_hM h M')) := fun hyp => (erec_readRow (d := d) g 30).1 hyp
theorem ef_X9_readStep {d : Nat} {h : am_H} (g : lay h) : ∀ {x2 x3 : Int32} {M M' : Mem} , f_X9_readStep x2 x3 M = some M' → am_Ev (d + 35) mX9_readStep [.inr (34, 0), .inr (1, 0), am_I x2, am_I x3] (am_hM h M) (.inl (none, am_hM h M')) := fun hyp => (erec_readRow (d := d) g 30).2 hyp
theorem ef_X10_expectEnd {d : Nat} {h : am_H} (g : lay h) {M : Mem} {M' : Mem} (hyp : f_X10_expectEnd M = some M') : am_Ev (d + 2) mX10_expectEnd [.inr (1, 0)] (am_hM h M) (.inl (none, am_hM h M')) := by
  unfold f_X10_expectEnd at hyp
  refine am_Ev.mk (by decide +kernel) rfl rfl (Nat.le_refl _) (Nat.le_refl _) ?_
  change am_At _ _ _ 0 [_] [] _ _
  refine am_aload_n dX10_expectEnd_0 rfl ?_
  obtain ⟨⟨v1, M1⟩, hk1, hyp⟩ := bd_some hyp
  try dsimp only at hyp
  refine am_callV [] dX10_expectEnd_1 ml_X10_48 vm_X10_isAtEnd (sh_1 g) rfl (fun _ => Nat.le_of_ble_eq_true rfl) (by omega) rfl (ef_X10_isAtEnd (d := d + 0) (h := h) g hk1) rfl ?_
  change am_At _ _ _ 4 [_] [_] _ _
  refine am_if_ne (12) 16 dX10_expectEnd_4 rfl ?_ ?_
  · intro hc2n
    have hc2n : ¬ (v1 = 0) := hc2n
    replace hyp := it_neg hc2n hyp
    cases hyp
    exact am_vret dX10_expectEnd_16 rfl
  · intro hc2
    have hc2 : v1 = 0 := hc2
    replace hyp := it_pos hc2 hyp
    refine am_aload_n dX10_expectEnd_7 rfl ?_
    refine am_iconst 1 (v := 1) dX10_expectEnd_8 (by decide) ?_
    refine am_aload_n dX10_expectEnd_9 rfl ?_
    refine am_getI 10 3 dX10_expectEnd_10 fg_X10_31 (sh_1 g) (by decide) rfl ?_
    refine am_callV [_, _] dX10_expectEnd_13 ml_X10_40 vm_X10_blame (sh_1 g) rfl (fun _ => Nat.le_of_ble_eq_true rfl) (by omega) rfl (ef_X10_blame (d := d + 1) (h := h) g (x1 := (1 : Int32)) (x2 := (M1 1 0 3)) (M := M1) rfl) rfl ?_
    change am_At _ _ _ 16 [_] [] _ _
    cases hyp
    exact am_vret dX10_expectEnd_16 rfl
theorem ef_X11_ahead_24 {d : Nat} {h : am_H} (g : lay h) (hW : h.2.2 23 0 = some 24 ∧ h.2.2 23 2 = some 25) {x1 x2 : Int32} {M : Mem} {y : (Int32 ⊕ String) × Mem} (hyp : f_X11_ahead 24 25 x1 x2 M = some y) : am_Ev (d + 7) mX11_ahead [.inr (0, 0), am_I x1, am_I x2] (am_hM h M) (am_o1 h y) := by
  unfold f_X11_ahead at hyp
  refine am_Ev.mk (by decide +kernel) rfl rfl (am_oc1 h y) (am_os1 h y) ?_
  change am_At _ _ _ 0 [_, _, _] [] _ _
  refine am_aload_n dX11_ahead_0 rfl ?_
  refine am_iload_n dX11_ahead_1 rfl ?_
  refine am_iconst 0 (v := 0) dX11_ahead_2 (by decide) ?_
  refine am_sipush 240 (v := 240) dX11_ahead_3 (by decide) ?_
  obtain ⟨⟨y1, M1⟩, hk1, hyp⟩ := bd_some hyp
  rcases y1 with v1 | E1
  rotate_left
  · try dsimp only at hyp
    cases hyp
    exact am_callVX [_, _, _] dX11_ahead_6 ml_X11_178 vm_X11_needFit (sh_0 g) rfl (fun _ => Nat.le_of_ble_eq_true rfl) (by omega) rfl (am_o0t (ef_X11_needFit (d := d + 6) (h := h) g hk1)) rfl
  try dsimp only at hyp
  refine am_callV [_, _, _] dX11_ahead_6 ml_X11_178 vm_X11_needFit (sh_0 g) rfl (fun _ => Nat.le_of_ble_eq_true rfl) (by omega) rfl (am_o0v (ef_X11_needFit (d := d + 6) (h := h) g hk1)) rfl ?_
  change am_At _ _ _ 9 [_, _, _] [] _ _
  refine am_aload_n dX11_ahead_9 rfl ?_
  refine am_iload_n dX11_ahead_10 rfl ?_
  refine am_iconst 0 (v := 0) dX11_ahead_11 (by decide) ?_
  refine am_iconst 2 (v := 2) dX11_ahead_12 (by decide) ?_
  obtain ⟨⟨y2, M2⟩, hk2, hyp⟩ := bd_some hyp
  rcases y2 with v2 | E2
  rotate_left
  · try dsimp only at hyp
    cases hyp
    exact am_callVX [_, _, _] dX11_ahead_13 ml_X11_178 vm_X11_needFit (sh_0 g) rfl (fun _ => Nat.le_of_ble_eq_true rfl) (by omega) rfl (am_o0t (ef_X11_needFit (d := d + 6) (h := h) g hk2)) rfl
  try dsimp only at hyp
  refine am_callV [_, _, _] dX11_ahead_13 ml_X11_178 vm_X11_needFit (sh_0 g) rfl (fun _ => Nat.le_of_ble_eq_true rfl) (by omega) rfl (am_o0v (ef_X11_needFit (d := d + 6) (h := h) g hk2)) rfl ?_
  change am_At _ _ _ 16 [_, _, _] [] _ _
  refine am_aload_n dX11_ahead_16 rfl ?_
  refine am_getR 11 8 38 dX11_ahead_17 fg_X11_68 (sh_0 g) (by decide) rfl (rf_0_8 g) ?_
  refine am_iload_n dX11_ahead_20 rfl ?_
  obtain ⟨M3, hk3, hyp⟩ := bd_some hyp
  try dsimp only at hyp
  refine am_callV [_] dX11_ahead_21 ml_X11_305 vm_X6_letPass (sh_38 g) rfl (fun _ => Nat.le_of_ble_eq_true rfl) (by omega) rfl (ef_X6_letPass_24 (d := d + 0) (h := h) g hW hk3) rfl ?_
  change am_At _ _ _ 24 [_, _, _] [] _ _
  refine am_iload_n dX11_ahead_24 rfl ?_
  refine am_if_ne (14) 39 dX11_ahead_25 rfl ?_ ?_
  · intro hc4n
    have hc4n : ¬ (x2 = 0) := hc4n
    replace hyp := it_neg hc4n hyp
    refine am_iload_n dX11_ahead_39 rfl ?_
    refine am_iconst 1 (v := 1) dX11_ahead_40 (by decide) ?_
    refine am_icmp_ne (16) 57 dX11_ahead_41 rfl ?_ ?_
    · intro hc5n
      have hc5n : ¬ (x2 = (1 : Int32)) := hc5n
      replace hyp := it_neg hc5n hyp
      refine am_aload_n dX11_ahead_57 rfl ?_
      refine am_getR 11 8 38 dX11_ahead_58 fg_X11_68 (sh_0 g) (by decide) rfl (rf_0_8 g) ?_
      refine am_getR 6 3 39 dX11_ahead_61 fg_X11_308 (sh_38 g) (by decide) rfl (rf_38_3 g) ?_
      obtain ⟨v6, hk6, hyp⟩ := bd_some hyp
      try dsimp only at hyp
      refine am_callV [] dX11_ahead_64 ml_X11_203 vm_X8_allKnocks (sh_39 g) rfl (fun _ => Nat.le_of_ble_eq_true rfl) (by omega) rfl (ef_X8_allKnocks_40 (d := d + 5) (h := h) g hk6) rfl ?_
      change am_At _ _ _ 67 [_, _, _] [_] _ _
      cases hyp
      exact am_iret dX11_ahead_67 rfl
    · intro hc5
      have hc5 : x2 = (1 : Int32) := hc5
      replace hyp := it_pos hc5 hyp
      refine am_aload_n dX11_ahead_44 rfl ?_
      refine am_getR 11 8 38 dX11_ahead_45 fg_X11_68 (sh_0 g) (by decide) rfl (rf_0_8 g) ?_
      refine am_getR 6 3 39 dX11_ahead_48 fg_X11_308 (sh_38 g) (by decide) rfl (rf_38_3 g) ?_
      obtain ⟨v7, hk7, hyp⟩ := bd_some hyp
      try dsimp only at hyp
      refine am_callV [] dX11_ahead_51 ml_X11_200 vm_X8_allFines (sh_39 g) rfl (fun _ => Nat.le_of_ble_eq_true rfl) (by omega) rfl (ef_X8_allFines_40 (d := d + 5) (h := h) g hk7) rfl ?_
      change am_At _ _ _ 54 [_, _, _] [_] _ _
      refine am_goto (13) 67 dX11_ahead_54 rfl ?_
      cases hyp
      exact am_iret dX11_ahead_67 rfl
  · intro hc4
    have hc4 : x2 = 0 := hc4
    replace hyp := it_pos hc4 hyp
    refine am_aload_n dX11_ahead_28 rfl ?_
    refine am_getR 11 8 38 dX11_ahead_29 fg_X11_68 (sh_0 g) (by decide) rfl (rf_0_8 g) ?_
    refine am_getR 6 3 39 dX11_ahead_32 fg_X11_308 (sh_38 g) (by decide) rfl (rf_38_3 g) ?_
    obtain ⟨v8, hk8, hyp⟩ := bd_some hyp
    try dsimp only at hyp
    refine am_callV [] dX11_ahead_35 ml_X11_206 vm_X8_bargesThrough (sh_39 g) rfl (fun _ => Nat.le_of_ble_eq_true rfl) (by omega) rfl (ef_X8_bargesThrough_40 (d := d + 5) (h := h) g hk8) rfl ?_
    change am_At _ _ _ 38 [_, _, _] [_] _ _
    cases hyp
    exact am_iret dX11_ahead_38 rfl
theorem ef_X11_ahead_25 {d : Nat} {h : am_H} (g : lay h) (hW : h.2.2 23 0 = some 25 ∧ h.2.2 23 2 = some 24) {x1 x2 : Int32} {M : Mem} {y : (Int32 ⊕ String) × Mem} (hyp : f_X11_ahead 25 24 x1 x2 M = some y) : am_Ev (d + 7) mX11_ahead [.inr (0, 0), am_I x1, am_I x2] (am_hM h M) (am_o1 h y) := by
  unfold f_X11_ahead at hyp
  refine am_Ev.mk (by decide +kernel) rfl rfl (am_oc1 h y) (am_os1 h y) ?_
  change am_At _ _ _ 0 [_, _, _] [] _ _
  refine am_aload_n dX11_ahead_0 rfl ?_
  refine am_iload_n dX11_ahead_1 rfl ?_
  refine am_iconst 0 (v := 0) dX11_ahead_2 (by decide) ?_
  refine am_sipush 240 (v := 240) dX11_ahead_3 (by decide) ?_
  obtain ⟨⟨y1, M1⟩, hk1, hyp⟩ := bd_some hyp
  rcases y1 with v1 | E1
  rotate_left
  · try dsimp only at hyp
    cases hyp
    exact am_callVX [_, _, _] dX11_ahead_6 ml_X11_178 vm_X11_needFit (sh_0 g) rfl (fun _ => Nat.le_of_ble_eq_true rfl) (by omega) rfl (am_o0t (ef_X11_needFit (d := d + 6) (h := h) g hk1)) rfl
  try dsimp only at hyp
  refine am_callV [_, _, _] dX11_ahead_6 ml_X11_178 vm_X11_needFit (sh_0 g) rfl (fun _ => Nat.le_of_ble_eq_true rfl) (by omega) rfl (am_o0v (ef_X11_needFit (d := d + 6) (h := h) g hk1)) rfl ?_
  change am_At _ _ _ 9 [_, _, _] [] _ _
  refine am_aload_n dX11_ahead_9 rfl ?_
  refine am_iload_n dX11_ahead_10 rfl ?_
  refine am_iconst 0 (v := 0) dX11_ahead_11 (by decide) ?_
  refine am_iconst 2 (v := 2) dX11_ahead_12 (by decide) ?_
  obtain ⟨⟨y2, M2⟩, hk2, hyp⟩ := bd_some hyp
  rcases y2 with v2 | E2
  rotate_left
  · try dsimp only at hyp
    cases hyp
    exact am_callVX [_, _, _] dX11_ahead_13 ml_X11_178 vm_X11_needFit (sh_0 g) rfl (fun _ => Nat.le_of_ble_eq_true rfl) (by omega) rfl (am_o0t (ef_X11_needFit (d := d + 6) (h := h) g hk2)) rfl
  try dsimp only at hyp
  refine am_callV [_, _, _] dX11_ahead_13 ml_X11_178 vm_X11_needFit (sh_0 g) rfl (fun _ => Nat.le_of_ble_eq_true rfl) (by omega) rfl (am_o0v (ef_X11_needFit (d := d + 6) (h := h) g hk2)) rfl ?_
  change am_At _ _ _ 16 [_, _, _] [] _ _
  refine am_aload_n dX11_ahead_16 rfl ?_
  refine am_getR 11 8 38 dX11_ahead_17 fg_X11_68 (sh_0 g) (by decide) rfl (rf_0_8 g) ?_
  refine am_iload_n dX11_ahead_20 rfl ?_
  obtain ⟨M3, hk3, hyp⟩ := bd_some hyp
  try dsimp only at hyp
  refine am_callV [_] dX11_ahead_21 ml_X11_305 vm_X6_letPass (sh_38 g) rfl (fun _ => Nat.le_of_ble_eq_true rfl) (by omega) rfl (ef_X6_letPass_25 (d := d + 0) (h := h) g hW hk3) rfl ?_
  change am_At _ _ _ 24 [_, _, _] [] _ _
  refine am_iload_n dX11_ahead_24 rfl ?_
  refine am_if_ne (14) 39 dX11_ahead_25 rfl ?_ ?_
  · intro hc4n
    have hc4n : ¬ (x2 = 0) := hc4n
    replace hyp := it_neg hc4n hyp
    refine am_iload_n dX11_ahead_39 rfl ?_
    refine am_iconst 1 (v := 1) dX11_ahead_40 (by decide) ?_
    refine am_icmp_ne (16) 57 dX11_ahead_41 rfl ?_ ?_
    · intro hc5n
      have hc5n : ¬ (x2 = (1 : Int32)) := hc5n
      replace hyp := it_neg hc5n hyp
      refine am_aload_n dX11_ahead_57 rfl ?_
      refine am_getR 11 8 38 dX11_ahead_58 fg_X11_68 (sh_0 g) (by decide) rfl (rf_0_8 g) ?_
      refine am_getR 6 3 39 dX11_ahead_61 fg_X11_308 (sh_38 g) (by decide) rfl (rf_38_3 g) ?_
      obtain ⟨v6, hk6, hyp⟩ := bd_some hyp
      try dsimp only at hyp
      refine am_callV [] dX11_ahead_64 ml_X11_203 vm_X8_allKnocks (sh_39 g) rfl (fun _ => Nat.le_of_ble_eq_true rfl) (by omega) rfl (ef_X8_allKnocks_40 (d := d + 5) (h := h) g hk6) rfl ?_
      change am_At _ _ _ 67 [_, _, _] [_] _ _
      cases hyp
      exact am_iret dX11_ahead_67 rfl
    · intro hc5
      have hc5 : x2 = (1 : Int32) := hc5
      replace hyp := it_pos hc5 hyp
      refine am_aload_n dX11_ahead_44 rfl ?_
      refine am_getR 11 8 38 dX11_ahead_45 fg_X11_68 (sh_0 g) (by decide) rfl (rf_0_8 g) ?_
      refine am_getR 6 3 39 dX11_ahead_48 fg_X11_308 (sh_38 g) (by decide) rfl (rf_38_3 g) ?_
      obtain ⟨v7, hk7, hyp⟩ := bd_some hyp
      try dsimp only at hyp
      refine am_callV [] dX11_ahead_51 ml_X11_200 vm_X8_allFines (sh_39 g) rfl (fun _ => Nat.le_of_ble_eq_true rfl) (by omega) rfl (ef_X8_allFines_40 (d := d + 5) (h := h) g hk7) rfl ?_
      change am_At _ _ _ 54 [_, _, _] [_] _ _
      refine am_goto (13) 67 dX11_ahead_54 rfl ?_
      cases hyp
      exact am_iret dX11_ahead_67 rfl
  · intro hc4
    have hc4 : x2 = 0 := hc4
    replace hyp := it_pos hc4 hyp
    refine am_aload_n dX11_ahead_28 rfl ?_
    refine am_getR 11 8 38 dX11_ahead_29 fg_X11_68 (sh_0 g) (by decide) rfl (rf_0_8 g) ?_
    refine am_getR 6 3 39 dX11_ahead_32 fg_X11_308 (sh_38 g) (by decide) rfl (rf_38_3 g) ?_
    obtain ⟨v8, hk8, hyp⟩ := bd_some hyp
    try dsimp only at hyp
    refine am_callV [] dX11_ahead_35 ml_X11_206 vm_X8_bargesThrough (sh_39 g) rfl (fun _ => Nat.le_of_ble_eq_true rfl) (by omega) rfl (ef_X8_bargesThrough_40 (d := d + 5) (h := h) g hk8) rfl ?_
    change am_At _ _ _ 38 [_, _, _] [_] _ _
    cases hyp
    exact am_iret dX11_ahead_38 rfl
theorem eL_X11_busiest_26_24 {d : Nat} {h : am_H} (g : lay h) (hW : h.2.2 23 0 = some 24 ∧ h.2.2 23 2 = some 25) {x1 : Int32} {r : am_R} (n : Nat) : ∀ (s : Int32 × Int32 × Int32 × Mem) (e : Int32 × Mem), wh (L_X11_busiest_26 24 25 x1) n s = some e → (match e with | (x2, M) => am_At am_X0 (d + 3) mX11_busiest 71 [some (.inr (0, 0)), some (am_I (x1)), some (am_I (x2)), none, none, none] [] (am_hM h M) r) → (match s with | (x2, x3, x4, M) => am_At am_X0 (d + 3) mX11_busiest 26 [some (.inr (0, 0)), some (am_I (x1)), some (am_I (x2)), some (am_I (x3)), some (am_I (x4)), none] [] (am_hM h M) r) := by
  refine am_wh (At := fun (s : Int32 × Int32 × Int32 × Mem) => match s with | (x2, x3, x4, M) => am_At am_X0 (d + 3) mX11_busiest 26 [some (.inr (0, 0)), some (am_I (x1)), some (am_I (x2)), some (am_I (x3)), some (am_I (x4)), none] [] (am_hM h M) r) (Ex := fun (e : Int32 × Mem) => match e with | (x2, M) => am_At am_X0 (d + 3) mX11_busiest 71 [some (.inr (0, 0)), some (am_I (x1)), some (am_I (x2)), none, none, none] [] (am_hM h M) r) ?_ n
  rintro ⟨x2, x3, x4, M⟩ y hyp hx
  unfold L_X11_busiest_26 at hyp
  try dsimp only at hyp
  change am_At _ _ _ 26 [_, _, _, _, _, _] [] _ _
  refine am_iload dX11_busiest_26 rfl ?_
  refine am_bipush 24 (v := 24) dX11_busiest_28 (by decide) ?_
  refine am_icmp_ge (41) 71 dX11_busiest_30 rfl ?_ ?_
  · intro hc1
    have hc1 : (24 : Int32) ≤ x4 := hc1
    replace hyp := it_pos hc1 hyp
    cases hyp
    refine am_At.drop 3 ?_
    refine am_At.drop 4 ?_
    exact hx
  · intro hc1n
    have hc1n : ¬ ((24 : Int32) ≤ x4) := hc1n
    replace hyp := it_neg hc1n hyp
    refine am_aload_n dX11_busiest_33 rfl ?_
    refine am_getR 11 4 28 dX11_busiest_34 fg_X11_38 (sh_0 g) (by decide) rfl (rf_0_4 g) ?_
    refine am_aload_n dX11_busiest_37 rfl ?_
    refine am_getR 11 5 29 dX11_busiest_38 fg_X11_45 (sh_0 g) (by decide) rfl (rf_0_5 g) ?_
    refine am_iload_n dX11_busiest_41 rfl ?_
    refine am_iload dX11_busiest_42 rfl ?_
    refine am_iadd dX11_busiest_44 ?_
    obtain ⟨⟨v2, M2⟩, hk2, hyp⟩ := bd_some hyp
    try dsimp only at hyp
    refine am_callV [_, _] dX11_busiest_45 ml_X11_268 vm_X4_dueBits (sh_28 g) rfl (fun _ => Nat.le_of_ble_eq_true rfl) (by omega) rfl (ef_X4_dueBits_30_24 (d := d + 0) (h := h) g hW hk2) rfl ?_
    change am_At _ _ _ 48 [_, _, _, _, _, _] [_] _ _
    refine am_callS (c := 0) (k := 0) (n := 0) (w := 0) [_] dX11_busiest_48 ml_X11_194 sm_J6_bitCount_0f7a4 rfl (fun _ => Nat.le_of_ble_eq_true rfl) (by omega) rfl (ev_bc (d := d + 2) (x := v2)) rfl ?_
    change am_At _ _ _ 51 [_, _, _, _, _, _] [_] _ _
    refine am_istore dX11_busiest_51 (am_lb rfl) ?_
    change am_At _ _ _ 53 [_, _, _, _, _, _] [] _ _
    refine am_iload dX11_busiest_53 rfl ?_
    refine am_iload_n dX11_busiest_55 rfl ?_
    refine am_icmp_le (9) 65 dX11_busiest_56 rfl ?_ ?_
    · intro hc3
      have hc3 : (bcI v2) ≤ x3 := hc3
      replace hyp := it_pos hc3 hyp
      refine am_iinc dX11_busiest_65 rfl (am_ix _) ?_
      change am_At _ _ _ 68 [_, _, _, _, _, _] [] _ _
      refine am_goto (-42) 26 dX11_busiest_68 rfl ?_
      cases hyp
      refine am_At.drop 5 ?_
      exact hx
    · intro hc3n
      have hc3n : ¬ ((bcI v2) ≤ x3) := hc3n
      replace hyp := it_neg hc3n hyp
      refine am_iload dX11_busiest_59 rfl ?_
      refine am_istore_n dX11_busiest_61 (am_lb rfl) ?_
      change am_At _ _ _ 62 [_, _, _, _, _, _] [] _ _
      refine am_iload dX11_busiest_62 rfl ?_
      refine am_istore_n dX11_busiest_64 (am_lb rfl) ?_
      change am_At _ _ _ 65 [_, _, _, _, _, _] [] _ _
      refine am_iinc dX11_busiest_65 rfl (am_ix _) ?_
      change am_At _ _ _ 68 [_, _, _, _, _, _] [] _ _
      refine am_goto (-42) 26 dX11_busiest_68 rfl ?_
      cases hyp
      refine am_At.drop 5 ?_
      exact hx
theorem ef_X11_busiest_24 {d : Nat} {h : am_H} (g : lay h) (hW : h.2.2 23 0 = some 24 ∧ h.2.2 23 2 = some 25) {M : Mem} {v : Int32} {M' : Mem} (hyp : f_X11_busiest 24 25 M = some (v, M')) : am_Ev (d + 3) mX11_busiest [.inr (0, 0)] (am_hM h M) (.inl (some (am_I v), am_hM h M')) := by
  unfold f_X11_busiest at hyp
  refine am_Ev.mk (by decide +kernel) rfl rfl (Nat.le_refl _) (Nat.le_refl _) ?_
  change am_At _ _ _ 0 [_, _, _, _, _, _] [] _ _
  refine am_aload_n dX11_busiest_0 rfl ?_
  refine am_getR 11 5 29 dX11_busiest_1 fg_X11_45 (sh_0 g) (by decide) rfl (rf_0_5 g) ?_
  refine am_callV [] dX11_busiest_4 ml_X11_188 vm_X8_hour (sh_29 g) rfl (fun _ => Nat.le_of_ble_eq_true rfl) (by omega) rfl (ef_X8_hour_30 (d := d + 2) (h := h) g  (M := M) rfl) rfl ?_
  change am_At _ _ _ 7 [_, _, _, _, _, _] [_] _ _
  refine am_aload_n dX11_busiest_7 rfl ?_
  refine am_getR 11 5 29 dX11_busiest_8 fg_X11_45 (sh_0 g) (by decide) rfl (rf_0_5 g) ?_
  refine am_callV [] dX11_busiest_11 ml_X11_188 vm_X8_hour (sh_29 g) rfl (fun _ => Nat.le_of_ble_eq_true rfl) (by omega) rfl (ef_X8_hour_30 (d := d + 2) (h := h) g  (M := M) rfl) rfl ?_
  change am_At _ _ _ 14 [_, _, _, _, _, _] [_, _] _ _
  refine am_bipush 24 (v := 24) dX11_busiest_14 (by decide) ?_
  refine am_irem dX11_busiest_16 (by decide) ?_
  refine am_isub dX11_busiest_17 ?_
  refine am_istore_n dX11_busiest_18 (am_lb rfl) ?_
  change am_At _ _ _ 19 [_, _, _, _, _, _] [] _ _
  refine am_iconst 0 (v := 0) dX11_busiest_19 (by decide) ?_
  refine am_istore_n dX11_busiest_20 (am_lb rfl) ?_
  change am_At _ _ _ 21 [_, _, _, _, _, _] [] _ _
  refine am_iconst (-1) (v := (-1)) dX11_busiest_21 (by decide) ?_
  refine am_istore_n dX11_busiest_22 (am_lb rfl) ?_
  change am_At _ _ _ 23 [_, _, _, _, _, _] [] _ _
  refine am_iconst 0 (v := 0) dX11_busiest_23 (by decide) ?_
  refine am_istore dX11_busiest_24 (am_lb rfl) ?_
  change am_At _ _ _ 26 [_, _, _, _, _, _] [] _ _
  obtain ⟨⟨x2_4, M4⟩, hw4, hyp⟩ := bd_some hyp
  try dsimp only at hyp
  refine eL_X11_busiest_26_24 (d := d) (h := h) g hW  FU ((0 : Int32), (-1 : Int32), (0 : Int32), M) (x2_4, M4) hw4 ?_
  change am_At _ _ _ 71 [_, _, _, _, _, _] [] _ _
  refine am_iload_n dX11_busiest_71 rfl ?_
  cases hyp
  exact am_iret dX11_busiest_72 rfl
theorem eL_X11_busiest_26_25 {d : Nat} {h : am_H} (g : lay h) (hW : h.2.2 23 0 = some 25 ∧ h.2.2 23 2 = some 24) {x1 : Int32} {r : am_R} (n : Nat) : ∀ (s : Int32 × Int32 × Int32 × Mem) (e : Int32 × Mem), wh (L_X11_busiest_26 25 24 x1) n s = some e → (match e with | (x2, M) => am_At am_X0 (d + 3) mX11_busiest 71 [some (.inr (0, 0)), some (am_I (x1)), some (am_I (x2)), none, none, none] [] (am_hM h M) r) → (match s with | (x2, x3, x4, M) => am_At am_X0 (d + 3) mX11_busiest 26 [some (.inr (0, 0)), some (am_I (x1)), some (am_I (x2)), some (am_I (x3)), some (am_I (x4)), none] [] (am_hM h M) r) := by
  refine am_wh (At := fun (s : Int32 × Int32 × Int32 × Mem) => match s with | (x2, x3, x4, M) => am_At am_X0 (d + 3) mX11_busiest 26 [some (.inr (0, 0)), some (am_I (x1)), some (am_I (x2)), some (am_I (x3)), some (am_I (x4)), none] [] (am_hM h M) r) (Ex := fun (e : Int32 × Mem) => match e with | (x2, M) => am_At am_X0 (d + 3) mX11_busiest 71 [some (.inr (0, 0)), some (am_I (x1)), some (am_I (x2)), none, none, none] [] (am_hM h M) r) ?_ n
  rintro ⟨x2, x3, x4, M⟩ y hyp hx
  unfold L_X11_busiest_26 at hyp
  try dsimp only at hyp
  change am_At _ _ _ 26 [_, _, _, _, _, _] [] _ _
  refine am_iload dX11_busiest_26 rfl ?_
  refine am_bipush 24 (v := 24) dX11_busiest_28 (by decide) ?_
  refine am_icmp_ge (41) 71 dX11_busiest_30 rfl ?_ ?_
  · intro hc1
    have hc1 : (24 : Int32) ≤ x4 := hc1
    replace hyp := it_pos hc1 hyp
    cases hyp
    refine am_At.drop 3 ?_
    refine am_At.drop 4 ?_
    exact hx
  · intro hc1n
    have hc1n : ¬ ((24 : Int32) ≤ x4) := hc1n
    replace hyp := it_neg hc1n hyp
    refine am_aload_n dX11_busiest_33 rfl ?_
    refine am_getR 11 4 28 dX11_busiest_34 fg_X11_38 (sh_0 g) (by decide) rfl (rf_0_4 g) ?_
    refine am_aload_n dX11_busiest_37 rfl ?_
    refine am_getR 11 5 29 dX11_busiest_38 fg_X11_45 (sh_0 g) (by decide) rfl (rf_0_5 g) ?_
    refine am_iload_n dX11_busiest_41 rfl ?_
    refine am_iload dX11_busiest_42 rfl ?_
    refine am_iadd dX11_busiest_44 ?_
    obtain ⟨⟨v2, M2⟩, hk2, hyp⟩ := bd_some hyp
    try dsimp only at hyp
    refine am_callV [_, _] dX11_busiest_45 ml_X11_268 vm_X4_dueBits (sh_28 g) rfl (fun _ => Nat.le_of_ble_eq_true rfl) (by omega) rfl (ef_X4_dueBits_30_25 (d := d + 0) (h := h) g hW hk2) rfl ?_
    change am_At _ _ _ 48 [_, _, _, _, _, _] [_] _ _
    refine am_callS (c := 0) (k := 0) (n := 0) (w := 0) [_] dX11_busiest_48 ml_X11_194 sm_J6_bitCount_0f7a4 rfl (fun _ => Nat.le_of_ble_eq_true rfl) (by omega) rfl (ev_bc (d := d + 2) (x := v2)) rfl ?_
    change am_At _ _ _ 51 [_, _, _, _, _, _] [_] _ _
    refine am_istore dX11_busiest_51 (am_lb rfl) ?_
    change am_At _ _ _ 53 [_, _, _, _, _, _] [] _ _
    refine am_iload dX11_busiest_53 rfl ?_
    refine am_iload_n dX11_busiest_55 rfl ?_
    refine am_icmp_le (9) 65 dX11_busiest_56 rfl ?_ ?_
    · intro hc3
      have hc3 : (bcI v2) ≤ x3 := hc3
      replace hyp := it_pos hc3 hyp
      refine am_iinc dX11_busiest_65 rfl (am_ix _) ?_
      change am_At _ _ _ 68 [_, _, _, _, _, _] [] _ _
      refine am_goto (-42) 26 dX11_busiest_68 rfl ?_
      cases hyp
      refine am_At.drop 5 ?_
      exact hx
    · intro hc3n
      have hc3n : ¬ ((bcI v2) ≤ x3) := hc3n
      replace hyp := it_neg hc3n hyp
      refine am_iload dX11_busiest_59 rfl ?_
      refine am_istore_n dX11_busiest_61 (am_lb rfl) ?_
      change am_At _ _ _ 62 [_, _, _, _, _, _] [] _ _
      refine am_iload dX11_busiest_62 rfl ?_
      refine am_istore_n dX11_busiest_64 (am_lb rfl) ?_
      change am_At _ _ _ 65 [_, _, _, _, _, _] [] _ _
      refine am_iinc dX11_busiest_65 rfl (am_ix _) ?_
      change am_At _ _ _ 68 [_, _, _, _, _, _] [] _ _
      refine am_goto (-42) 26 dX11_busiest_68 rfl ?_
      cases hyp
      refine am_At.drop 5 ?_
      exact hx
theorem ef_X11_busiest_25 {d : Nat} {h : am_H} (g : lay h) (hW : h.2.2 23 0 = some 25 ∧ h.2.2 23 2 = some 24) {M : Mem} {v : Int32} {M' : Mem} (hyp : f_X11_busiest 25 24 M = some (v, M')) : am_Ev (d + 3) mX11_busiest [.inr (0, 0)] (am_hM h M) (.inl (some (am_I v), am_hM h M')) := by
  unfold f_X11_busiest at hyp
  refine am_Ev.mk (by decide +kernel) rfl rfl (Nat.le_refl _) (Nat.le_refl _) ?_
  change am_At _ _ _ 0 [_, _, _, _, _, _] [] _ _
  refine am_aload_n dX11_busiest_0 rfl ?_
  refine am_getR 11 5 29 dX11_busiest_1 fg_X11_45 (sh_0 g) (by decide) rfl (rf_0_5 g) ?_
  refine am_callV [] dX11_busiest_4 ml_X11_188 vm_X8_hour (sh_29 g) rfl (fun _ => Nat.le_of_ble_eq_true rfl) (by omega) rfl (ef_X8_hour_30 (d := d + 2) (h := h) g  (M := M) rfl) rfl ?_
  change am_At _ _ _ 7 [_, _, _, _, _, _] [_] _ _
  refine am_aload_n dX11_busiest_7 rfl ?_
  refine am_getR 11 5 29 dX11_busiest_8 fg_X11_45 (sh_0 g) (by decide) rfl (rf_0_5 g) ?_
  refine am_callV [] dX11_busiest_11 ml_X11_188 vm_X8_hour (sh_29 g) rfl (fun _ => Nat.le_of_ble_eq_true rfl) (by omega) rfl (ef_X8_hour_30 (d := d + 2) (h := h) g  (M := M) rfl) rfl ?_
  change am_At _ _ _ 14 [_, _, _, _, _, _] [_, _] _ _
  refine am_bipush 24 (v := 24) dX11_busiest_14 (by decide) ?_
  refine am_irem dX11_busiest_16 (by decide) ?_
  refine am_isub dX11_busiest_17 ?_
  refine am_istore_n dX11_busiest_18 (am_lb rfl) ?_
  change am_At _ _ _ 19 [_, _, _, _, _, _] [] _ _
  refine am_iconst 0 (v := 0) dX11_busiest_19 (by decide) ?_
  refine am_istore_n dX11_busiest_20 (am_lb rfl) ?_
  change am_At _ _ _ 21 [_, _, _, _, _, _] [] _ _
  refine am_iconst (-1) (v := (-1)) dX11_busiest_21 (by decide) ?_
  refine am_istore_n dX11_busiest_22 (am_lb rfl) ?_
  change am_At _ _ _ 23 [_, _, _, _, _, _] [] _ _
  refine am_iconst 0 (v := 0) dX11_busiest_23 (by decide) ?_
  refine am_istore dX11_busiest_24 (am_lb rfl) ?_
  change am_At _ _ _ 26 [_, _, _, _, _, _] [] _ _
  obtain ⟨⟨x2_4, M4⟩, hw4, hyp⟩ := bd_some hyp
  try dsimp only at hyp
  refine eL_X11_busiest_26_25 (d := d) (h := h) g hW  FU ((0 : Int32), (-1 : Int32), (0 : Int32), M) (x2_4, M4) hw4 ?_
  change am_At _ _ _ 71 [_, _, _, _, _, _] [] _ _
  refine am_iload_n dX11_busiest_71 rfl ?_
  cases hyp
  exact am_iret dX11_busiest_72 rfl
theorem ef_X11_flood {d : Nat} {h : am_H} (g : lay h) {x1 : Int32} {M : Mem} {y : (Int32 ⊕ String) × Mem} (hyp : f_X11_flood x1 M = some y) : am_Ev (d + 32) mX11_flood [.inr (0, 0), am_I x1] (am_hM h M) (am_o1 h y) := by
  unfold f_X11_flood at hyp
  refine am_Ev.mk (by decide +kernel) rfl rfl (am_oc1 h y) (am_os1 h y) ?_
  change am_At _ _ _ 0 [_, _] [] _ _
  refine am_aload_n dX11_flood_0 rfl ?_
  refine am_iload_n dX11_flood_1 rfl ?_
  refine am_aload_n dX11_flood_2 rfl ?_
  refine am_getR 11 1 3 dX11_flood_3 fg_X11_19 (sh_0 g) (by decide) rfl (rf_0_1 g) ?_
  refine am_getI 1 8 dX11_flood_6 fg_X11_185 (sh_3 g) (by decide) rfl ?_
  obtain ⟨⟨y1, M1⟩, hk1, hyp⟩ := bd_some hyp
  rcases y1 with v1 | E1
  rotate_left
  · try dsimp only at hyp
    cases hyp
    exact am_callVX [_, _] dX11_flood_9 ml_X11_335 vm_X11_needBits (sh_0 g) rfl (fun _ => Nat.le_of_ble_eq_true rfl) (by omega) rfl (am_o0t (ef_X11_needBits (d := d + 30) (h := h) g hk1)) rfl
  try dsimp only at hyp
  refine am_callV [_, _] dX11_flood_9 ml_X11_335 vm_X11_needBits (sh_0 g) rfl (fun _ => Nat.le_of_ble_eq_true rfl) (by omega) rfl (am_o0v (ef_X11_needBits (d := d + 30) (h := h) g hk1)) rfl ?_
  change am_At _ _ _ 12 [_, _] [] _ _
  refine am_aload_n dX11_flood_12 rfl ?_
  refine am_getR 11 9 43 dX11_flood_13 fg_X11_77 (sh_0 g) (by decide) rfl (rf_0_9 g) ?_
  refine am_iload_n dX11_flood_16 rfl ?_
  obtain ⟨⟨v2, M2⟩, hk2, hyp⟩ := bd_some hyp
  try dsimp only at hyp
  refine am_callV [_] dX11_flood_17 ml_X11_338 vm_X2_fewest (sh_43 g) rfl (fun _ => Nat.le_of_ble_eq_true rfl) (by omega) rfl (ef_X2_fewest (d := d + 0) (h := h) g hk2) rfl ?_
  change am_At _ _ _ 20 [_, _] [_] _ _
  cases hyp
  exact am_iret dX11_flood_20 rfl
theorem eL_X11_hold_18_24 {d : Nat} {h : am_H} (g : lay h) (hW : h.2.2 23 0 = some 24 ∧ h.2.2 23 2 = some 25) {x1 x2 : Int32} {r : am_R} (n : Nat) : ∀ (s : Int32 × Int32 × Mem) (e : Int32 × Mem), wh (L_X11_hold_18 24 25 x1 x2) n s = some e → (match e with | (x3, M) => am_At am_X0 (d + 5) mX11_hold 74 [some (.inr (0, 0)), some (am_I (x1)), some (am_I (x2)), some (am_I (x3)), none] [] (am_hM h M) r) → (match s with | (x3, x4, M) => am_At am_X0 (d + 5) mX11_hold 18 [some (.inr (0, 0)), some (am_I (x1)), some (am_I (x2)), some (am_I (x3)), some (am_I (x4))] [] (am_hM h M) r) := by
  refine am_wh (At := fun (s : Int32 × Int32 × Mem) => match s with | (x3, x4, M) => am_At am_X0 (d + 5) mX11_hold 18 [some (.inr (0, 0)), some (am_I (x1)), some (am_I (x2)), some (am_I (x3)), some (am_I (x4))] [] (am_hM h M) r) (Ex := fun (e : Int32 × Mem) => match e with | (x3, M) => am_At am_X0 (d + 5) mX11_hold 74 [some (.inr (0, 0)), some (am_I (x1)), some (am_I (x2)), some (am_I (x3)), none] [] (am_hM h M) r) ?_ n
  rintro ⟨x3, x4, M⟩ y hyp hx
  unfold L_X11_hold_18 at hyp
  try dsimp only at hyp
  change am_At _ _ _ 18 [_, _, _, _, _] [] _ _
  refine am_iload dX11_hold_18 rfl ?_
  refine am_aload_n dX11_hold_20 rfl ?_
  refine am_getR 11 1 3 dX11_hold_21 fg_X11_19 (sh_0 g) (by decide) rfl (rf_0_1 g) ?_
  refine am_getI 1 0 dX11_hold_24 fg_X11_142 (sh_3 g) (by decide) rfl ?_
  refine am_icmp_ge (47) 74 dX11_hold_27 rfl ?_ ?_
  · intro hc3
    have hc3 : (M 3 0 0) ≤ x4 := hc3
    replace hyp := it_pos hc3 hyp
    cases hyp
    refine am_At.drop 4 ?_
    exact hx
  · intro hc3n
    have hc3n : ¬ ((M 3 0 0) ≤ x4) := hc3n
    replace hyp := it_neg hc3n hyp
    refine am_aload_n dX11_hold_30 rfl ?_
    refine am_getR 11 4 28 dX11_hold_31 fg_X11_38 (sh_0 g) (by decide) rfl (rf_0_4 g) ?_
    refine am_iload_n dX11_hold_34 rfl ?_
    refine am_iload dX11_hold_35 rfl ?_
    refine am_aload_n dX11_hold_37 rfl ?_
    refine am_getR 11 8 38 dX11_hold_38 fg_X11_68 (sh_0 g) (by decide) rfl (rf_0_8 g) ?_
    refine am_iload_n dX11_hold_41 rfl ?_
    refine am_aload_n dX11_hold_42 rfl ?_
    refine am_getR 11 1 3 dX11_hold_43 fg_X11_19 (sh_0 g) (by decide) rfl (rf_0_1 g) ?_
    refine am_iload dX11_hold_46 rfl ?_
    obtain ⟨v4, hk4, hyp⟩ := bd_some hyp
    try dsimp only at hyp
    refine am_callV [_] dX11_hold_48 ml_X11_296 vm_X1_hoursTo (sh_3 g) rfl (fun _ => Nat.le_of_ble_eq_true rfl) (by omega) rfl (ef_X1_hoursTo (d := d + 4) (h := h) g hk4) rfl ?_
    change am_At _ _ _ 51 [_, _, _, _, _] [_, _, _, _, _, _] _ _
    refine am_iadd dX11_hold_51 ?_
    obtain ⟨⟨v5, M5⟩, hk5, hyp⟩ := bd_some hyp
    try dsimp only at hyp
    refine am_callV [_] dX11_hold_52 ml_X11_278 vm_X6_openIn (sh_38 g) rfl (fun _ => Nat.le_of_ble_eq_true rfl) (by omega) rfl (ef_X6_openIn_24 (d := d + 0) (h := h) g hW hk5) rfl ?_
    change am_At _ _ _ 55 [_, _, _, _, _] [_, _, _, _] _ _
    obtain ⟨v6, hk6, hyp⟩ := bd_some hyp
    try dsimp only at hyp
    refine am_callV [_, _, _] dX11_hold_55 ml_X11_299 vm_X4_lets (sh_28 g) rfl (fun _ => Nat.le_of_ble_eq_true rfl) (by omega) rfl (ef_X4_lets (d := d + 3) (h := h) g hk6) rfl ?_
    change am_At _ _ _ 58 [_, _, _, _, _] [_] _ _
    refine am_if_ne (10) 68 dX11_hold_58 rfl ?_ ?_
    · intro hc7n
      have hc7n : ¬ (v6 = 0) := hc7n
      replace hyp := it_neg hc7n hyp
      refine am_iinc dX11_hold_68 rfl (am_ix _) ?_
      change am_At _ _ _ 71 [_, _, _, _, _] [] _ _
      refine am_goto (-53) 18 dX11_hold_71 rfl ?_
      cases hyp
      exact hx
    · intro hc7
      have hc7 : v6 = 0 := hc7
      replace hyp := it_pos hc7 hyp
      refine am_iload_n dX11_hold_61 rfl ?_
      refine am_iconst 1 (v := 1) dX11_hold_62 (by decide) ?_
      refine am_iload dX11_hold_63 rfl ?_
      refine am_ishl dX11_hold_65 ?_
      refine am_ior dX11_hold_66 ?_
      refine am_istore_n dX11_hold_67 (am_lb rfl) ?_
      change am_At _ _ _ 68 [_, _, _, _, _] [] _ _
      refine am_iinc dX11_hold_68 rfl (am_ix _) ?_
      change am_At _ _ _ 71 [_, _, _, _, _] [] _ _
      refine am_goto (-53) 18 dX11_hold_71 rfl ?_
      cases hyp
      exact hx
theorem ef_X11_hold_24 {d : Nat} {h : am_H} (g : lay h) (hW : h.2.2 23 0 = some 24 ∧ h.2.2 23 2 = some 25) {x1 x2 : Int32} {M : Mem} {y : (Int32 ⊕ String) × Mem} (hyp : f_X11_hold 24 25 x1 x2 M = some y) : am_Ev (d + 5) mX11_hold [.inr (0, 0), am_I x1, am_I x2] (am_hM h M) (am_o1 h y) := by
  unfold f_X11_hold at hyp
  refine am_Ev.mk (by decide +kernel) rfl rfl (am_oc1 h y) (am_os1 h y) ?_
  change am_At _ _ _ 0 [_, _, _, _, _] [] _ _
  refine am_aload_n dX11_hold_0 rfl ?_
  refine am_iload_n dX11_hold_1 rfl ?_
  obtain ⟨⟨y1, M1⟩, hk1, hyp⟩ := bd_some hyp
  rcases y1 with v1 | E1
  rotate_left
  · try dsimp only at hyp
    cases hyp
    exact am_callVX [_] dX11_hold_2 ml_X11_272 vm_X11_needMast (sh_0 g) rfl (fun _ => Nat.le_of_ble_eq_true rfl) (by omega) rfl (am_o0t (ef_X11_needMast (d := d + 3) (h := h) g hk1)) rfl
  try dsimp only at hyp
  refine am_callV [_] dX11_hold_2 ml_X11_272 vm_X11_needMast (sh_0 g) rfl (fun _ => Nat.le_of_ble_eq_true rfl) (by omega) rfl (am_o0v (ef_X11_needMast (d := d + 3) (h := h) g hk1)) rfl ?_
  change am_At _ _ _ 5 [_, _, _, _, _] [] _ _
  refine am_aload_n dX11_hold_5 rfl ?_
  refine am_iload_n dX11_hold_6 rfl ?_
  refine am_iconst 0 (v := 0) dX11_hold_7 (by decide) ?_
  refine am_bipush 48 (v := 48) dX11_hold_8 (by decide) ?_
  obtain ⟨⟨y2, M2⟩, hk2, hyp⟩ := bd_some hyp
  rcases y2 with v2 | E2
  rotate_left
  · try dsimp only at hyp
    cases hyp
    exact am_callVX [_, _, _] dX11_hold_10 ml_X11_178 vm_X11_needFit (sh_0 g) rfl (fun _ => Nat.le_of_ble_eq_true rfl) (by omega) rfl (am_o0t (ef_X11_needFit (d := d + 4) (h := h) g hk2)) rfl
  try dsimp only at hyp
  refine am_callV [_, _, _] dX11_hold_10 ml_X11_178 vm_X11_needFit (sh_0 g) rfl (fun _ => Nat.le_of_ble_eq_true rfl) (by omega) rfl (am_o0v (ef_X11_needFit (d := d + 4) (h := h) g hk2)) rfl ?_
  change am_At _ _ _ 13 [_, _, _, _, _] [] _ _
  refine am_iconst 0 (v := 0) dX11_hold_13 (by decide) ?_
  refine am_istore_n dX11_hold_14 (am_lb rfl) ?_
  change am_At _ _ _ 15 [_, _, _, _, _] [] _ _
  refine am_iconst 0 (v := 0) dX11_hold_15 (by decide) ?_
  refine am_istore dX11_hold_16 (am_lb rfl) ?_
  change am_At _ _ _ 18 [_, _, _, _, _] [] _ _
  obtain ⟨⟨x3_8, M8⟩, hw8, hyp⟩ := bd_some hyp
  try dsimp only at hyp
  refine eL_X11_hold_18_24 (d := d) (h := h) g hW  FU ((0 : Int32), (0 : Int32), M2) (x3_8, M8) hw8 ?_
  change am_At _ _ _ 74 [_, _, _, _, _] [] _ _
  refine am_iload_n dX11_hold_74 rfl ?_
  cases hyp
  exact am_iret dX11_hold_75 rfl
theorem eL_X11_hold_18_25 {d : Nat} {h : am_H} (g : lay h) (hW : h.2.2 23 0 = some 25 ∧ h.2.2 23 2 = some 24) {x1 x2 : Int32} {r : am_R} (n : Nat) : ∀ (s : Int32 × Int32 × Mem) (e : Int32 × Mem), wh (L_X11_hold_18 25 24 x1 x2) n s = some e → (match e with | (x3, M) => am_At am_X0 (d + 5) mX11_hold 74 [some (.inr (0, 0)), some (am_I (x1)), some (am_I (x2)), some (am_I (x3)), none] [] (am_hM h M) r) → (match s with | (x3, x4, M) => am_At am_X0 (d + 5) mX11_hold 18 [some (.inr (0, 0)), some (am_I (x1)), some (am_I (x2)), some (am_I (x3)), some (am_I (x4))] [] (am_hM h M) r) := by
  refine am_wh (At := fun (s : Int32 × Int32 × Mem) => match s with | (x3, x4, M) => am_At am_X0 (d + 5) mX11_hold 18 [some (.inr (0, 0)), some (am_I (x1)), some (am_I (x2)), some (am_I (x3)), some (am_I (x4))] [] (am_hM h M) r) (Ex := fun (e : Int32 × Mem) => match e with | (x3, M) => am_At am_X0 (d + 5) mX11_hold 74 [some (.inr (0, 0)), some (am_I (x1)), some (am_I (x2)), some (am_I (x3)), none] [] (am_hM h M) r) ?_ n
  rintro ⟨x3, x4, M⟩ y hyp hx
  unfold L_X11_hold_18 at hyp
  try dsimp only at hyp
  change am_At _ _ _ 18 [_, _, _, _, _] [] _ _
  refine am_iload dX11_hold_18 rfl ?_
  refine am_aload_n dX11_hold_20 rfl ?_
  refine am_getR 11 1 3 dX11_hold_21 fg_X11_19 (sh_0 g) (by decide) rfl (rf_0_1 g) ?_
  refine am_getI 1 0 dX11_hold_24 fg_X11_142 (sh_3 g) (by decide) rfl ?_
  refine am_icmp_ge (47) 74 dX11_hold_27 rfl ?_ ?_
  · intro hc3
    have hc3 : (M 3 0 0) ≤ x4 := hc3
    replace hyp := it_pos hc3 hyp
    cases hyp
    refine am_At.drop 4 ?_
    exact hx
  · intro hc3n
    have hc3n : ¬ ((M 3 0 0) ≤ x4) := hc3n
    replace hyp := it_neg hc3n hyp
    refine am_aload_n dX11_hold_30 rfl ?_
    refine am_getR 11 4 28 dX11_hold_31 fg_X11_38 (sh_0 g) (by decide) rfl (rf_0_4 g) ?_
    refine am_iload_n dX11_hold_34 rfl ?_
    refine am_iload dX11_hold_35 rfl ?_
    refine am_aload_n dX11_hold_37 rfl ?_
    refine am_getR 11 8 38 dX11_hold_38 fg_X11_68 (sh_0 g) (by decide) rfl (rf_0_8 g) ?_
    refine am_iload_n dX11_hold_41 rfl ?_
    refine am_aload_n dX11_hold_42 rfl ?_
    refine am_getR 11 1 3 dX11_hold_43 fg_X11_19 (sh_0 g) (by decide) rfl (rf_0_1 g) ?_
    refine am_iload dX11_hold_46 rfl ?_
    obtain ⟨v4, hk4, hyp⟩ := bd_some hyp
    try dsimp only at hyp
    refine am_callV [_] dX11_hold_48 ml_X11_296 vm_X1_hoursTo (sh_3 g) rfl (fun _ => Nat.le_of_ble_eq_true rfl) (by omega) rfl (ef_X1_hoursTo (d := d + 4) (h := h) g hk4) rfl ?_
    change am_At _ _ _ 51 [_, _, _, _, _] [_, _, _, _, _, _] _ _
    refine am_iadd dX11_hold_51 ?_
    obtain ⟨⟨v5, M5⟩, hk5, hyp⟩ := bd_some hyp
    try dsimp only at hyp
    refine am_callV [_] dX11_hold_52 ml_X11_278 vm_X6_openIn (sh_38 g) rfl (fun _ => Nat.le_of_ble_eq_true rfl) (by omega) rfl (ef_X6_openIn_25 (d := d + 0) (h := h) g hW hk5) rfl ?_
    change am_At _ _ _ 55 [_, _, _, _, _] [_, _, _, _] _ _
    obtain ⟨v6, hk6, hyp⟩ := bd_some hyp
    try dsimp only at hyp
    refine am_callV [_, _, _] dX11_hold_55 ml_X11_299 vm_X4_lets (sh_28 g) rfl (fun _ => Nat.le_of_ble_eq_true rfl) (by omega) rfl (ef_X4_lets (d := d + 3) (h := h) g hk6) rfl ?_
    change am_At _ _ _ 58 [_, _, _, _, _] [_] _ _
    refine am_if_ne (10) 68 dX11_hold_58 rfl ?_ ?_
    · intro hc7n
      have hc7n : ¬ (v6 = 0) := hc7n
      replace hyp := it_neg hc7n hyp
      refine am_iinc dX11_hold_68 rfl (am_ix _) ?_
      change am_At _ _ _ 71 [_, _, _, _, _] [] _ _
      refine am_goto (-53) 18 dX11_hold_71 rfl ?_
      cases hyp
      exact hx
    · intro hc7
      have hc7 : v6 = 0 := hc7
      replace hyp := it_pos hc7 hyp
      refine am_iload_n dX11_hold_61 rfl ?_
      refine am_iconst 1 (v := 1) dX11_hold_62 (by decide) ?_
      refine am_iload dX11_hold_63 rfl ?_
      refine am_ishl dX11_hold_65 ?_
      refine am_ior dX11_hold_66 ?_
      refine am_istore_n dX11_hold_67 (am_lb rfl) ?_
      change am_At _ _ _ 68 [_, _, _, _, _] [] _ _
      refine am_iinc dX11_hold_68 rfl (am_ix _) ?_
      change am_At _ _ _ 71 [_, _, _, _, _] [] _ _
      refine am_goto (-53) 18 dX11_hold_71 rfl ?_
      cases hyp
      exact hx
theorem ef_X11_hold_25 {d : Nat} {h : am_H} (g : lay h) (hW : h.2.2 23 0 = some 25 ∧ h.2.2 23 2 = some 24) {x1 x2 : Int32} {M : Mem} {y : (Int32 ⊕ String) × Mem} (hyp : f_X11_hold 25 24 x1 x2 M = some y) : am_Ev (d + 5) mX11_hold [.inr (0, 0), am_I x1, am_I x2] (am_hM h M) (am_o1 h y) := by
  unfold f_X11_hold at hyp
  refine am_Ev.mk (by decide +kernel) rfl rfl (am_oc1 h y) (am_os1 h y) ?_
  change am_At _ _ _ 0 [_, _, _, _, _] [] _ _
  refine am_aload_n dX11_hold_0 rfl ?_
  refine am_iload_n dX11_hold_1 rfl ?_
  obtain ⟨⟨y1, M1⟩, hk1, hyp⟩ := bd_some hyp
  rcases y1 with v1 | E1
  rotate_left
  · try dsimp only at hyp
    cases hyp
    exact am_callVX [_] dX11_hold_2 ml_X11_272 vm_X11_needMast (sh_0 g) rfl (fun _ => Nat.le_of_ble_eq_true rfl) (by omega) rfl (am_o0t (ef_X11_needMast (d := d + 3) (h := h) g hk1)) rfl
  try dsimp only at hyp
  refine am_callV [_] dX11_hold_2 ml_X11_272 vm_X11_needMast (sh_0 g) rfl (fun _ => Nat.le_of_ble_eq_true rfl) (by omega) rfl (am_o0v (ef_X11_needMast (d := d + 3) (h := h) g hk1)) rfl ?_
  change am_At _ _ _ 5 [_, _, _, _, _] [] _ _
  refine am_aload_n dX11_hold_5 rfl ?_
  refine am_iload_n dX11_hold_6 rfl ?_
  refine am_iconst 0 (v := 0) dX11_hold_7 (by decide) ?_
  refine am_bipush 48 (v := 48) dX11_hold_8 (by decide) ?_
  obtain ⟨⟨y2, M2⟩, hk2, hyp⟩ := bd_some hyp
  rcases y2 with v2 | E2
  rotate_left
  · try dsimp only at hyp
    cases hyp
    exact am_callVX [_, _, _] dX11_hold_10 ml_X11_178 vm_X11_needFit (sh_0 g) rfl (fun _ => Nat.le_of_ble_eq_true rfl) (by omega) rfl (am_o0t (ef_X11_needFit (d := d + 4) (h := h) g hk2)) rfl
  try dsimp only at hyp
  refine am_callV [_, _, _] dX11_hold_10 ml_X11_178 vm_X11_needFit (sh_0 g) rfl (fun _ => Nat.le_of_ble_eq_true rfl) (by omega) rfl (am_o0v (ef_X11_needFit (d := d + 4) (h := h) g hk2)) rfl ?_
  change am_At _ _ _ 13 [_, _, _, _, _] [] _ _
  refine am_iconst 0 (v := 0) dX11_hold_13 (by decide) ?_
  refine am_istore_n dX11_hold_14 (am_lb rfl) ?_
  change am_At _ _ _ 15 [_, _, _, _, _] [] _ _
  refine am_iconst 0 (v := 0) dX11_hold_15 (by decide) ?_
  refine am_istore dX11_hold_16 (am_lb rfl) ?_
  change am_At _ _ _ 18 [_, _, _, _, _] [] _ _
  obtain ⟨⟨x3_8, M8⟩, hw8, hyp⟩ := bd_some hyp
  try dsimp only at hyp
  refine eL_X11_hold_18_25 (d := d) (h := h) g hW  FU ((0 : Int32), (0 : Int32), M2) (x3_8, M8) hw8 ?_
  change am_At _ _ _ 74 [_, _, _, _, _] [] _ _
  refine am_iload_n dX11_hold_74 rfl ?_
  cases hyp
  exact am_iret dX11_hold_75 rfl
theorem eL_X11_holds_16 {d : Nat} {h : am_H} (g : lay h) {x1 : Int32} {M : Mem} {r : am_R} (n : Nat) : ∀ (s : Int32 × Int32) (e : Int32), wh (L_X11_holds_16 x1 M) n s = some e → ((fun (x2 : Int32) => am_At am_X0 (d + 2) mX11_holds 55 [some (.inr (0, 0)), some (am_I (x1)), some (am_I (x2)), none] [] (am_hM h M) r) e) → (match s with | (x2, x3) => am_At am_X0 (d + 2) mX11_holds 16 [some (.inr (0, 0)), some (am_I (x1)), some (am_I (x2)), some (am_I (x3))] [] (am_hM h M) r) := by
  refine am_wh (At := fun (s : Int32 × Int32) => match s with | (x2, x3) => am_At am_X0 (d + 2) mX11_holds 16 [some (.inr (0, 0)), some (am_I (x1)), some (am_I (x2)), some (am_I (x3))] [] (am_hM h M) r) (Ex := fun (e : Int32) => (fun (x2 : Int32) => am_At am_X0 (d + 2) mX11_holds 55 [some (.inr (0, 0)), some (am_I (x1)), some (am_I (x2)), none] [] (am_hM h M) r) e) ?_ n
  rintro ⟨x2, x3⟩ y hyp hx
  unfold L_X11_holds_16 at hyp
  try dsimp only at hyp
  change am_At _ _ _ 16 [_, _, _, _] [] _ _
  refine am_iload_n dX11_holds_16 rfl ?_
  refine am_aload_n dX11_holds_17 rfl ?_
  refine am_getR 11 1 3 dX11_holds_18 fg_X11_19 (sh_0 g) (by decide) rfl (rf_0_1 g) ?_
  refine am_getI 1 8 dX11_holds_21 fg_X11_185 (sh_3 g) (by decide) rfl ?_
  refine am_icmp_ge (31) 55 dX11_holds_24 rfl ?_ ?_
  · intro hc2
    have hc2 : (M 3 0 8) ≤ x3 := hc2
    replace hyp := it_pos hc2 hyp
    cases hyp
    refine am_At.drop 3 ?_
    exact hx
  · intro hc2n
    have hc2n : ¬ ((M 3 0 8) ≤ x3) := hc2n
    replace hyp := it_neg hc2n hyp
    refine am_iload_n dX11_holds_27 rfl ?_
    refine am_aload_n dX11_holds_28 rfl ?_
    refine am_getR 11 1 3 dX11_holds_29 fg_X11_19 (sh_0 g) (by decide) rfl (rf_0_1 g) ?_
    refine am_iload_n dX11_holds_32 rfl ?_
    refine am_iload_n dX11_holds_33 rfl ?_
    obtain ⟨v3, hk3, hyp⟩ := bd_some hyp
    try dsimp only at hyp
    refine am_callV [_, _] dX11_holds_34 ml_X11_260 vm_X1_isDrained (sh_3 g) rfl (fun _ => Nat.le_of_ble_eq_true rfl) (by omega) rfl (ef_X1_isDrained (d := d + 0) (h := h) g hk3) rfl ?_
    change am_At _ _ _ 37 [_, _, _, _] [_, _] _ _
    refine am_if_eq (9) 46 dX11_holds_37 rfl ?_ ?_
    · intro hc4
      have hc4 : v3 = 0 := hc4
      replace hyp := it_pos hc4 hyp
      refine am_iconst 0 (v := 0) dX11_holds_46 (by decide) ?_
      refine am_ior dX11_holds_47 ?_
      refine am_istore_n dX11_holds_48 (am_lb rfl) ?_
      change am_At _ _ _ 49 [_, _, _, _] [] _ _
      refine am_iinc dX11_holds_49 rfl (am_ix _) ?_
      change am_At _ _ _ 52 [_, _, _, _] [] _ _
      refine am_goto (-36) 16 dX11_holds_52 rfl ?_
      cases hyp
      exact hx
    · intro hc4n
      have hc4n : ¬ (v3 = 0) := hc4n
      replace hyp := it_neg hc4n hyp
      refine am_iconst 1 (v := 1) dX11_holds_40 (by decide) ?_
      refine am_iload_n dX11_holds_41 rfl ?_
      refine am_ishl dX11_holds_42 ?_
      refine am_goto (4) 47 dX11_holds_43 rfl ?_
      refine am_ior dX11_holds_47 ?_
      refine am_istore_n dX11_holds_48 (am_lb rfl) ?_
      change am_At _ _ _ 49 [_, _, _, _] [] _ _
      refine am_iinc dX11_holds_49 rfl (am_ix _) ?_
      change am_At _ _ _ 52 [_, _, _, _] [] _ _
      refine am_goto (-36) 16 dX11_holds_52 rfl ?_
      cases hyp
      exact hx
theorem ef_X11_holds {d : Nat} {h : am_H} (g : lay h) {x1 : Int32} {M : Mem} {y : (Int32 ⊕ String) × Mem} (hyp : f_X11_holds x1 M = some y) : am_Ev (d + 2) mX11_holds [.inr (0, 0), am_I x1] (am_hM h M) (am_o1 h y) := by
  unfold f_X11_holds at hyp
  refine am_Ev.mk (by decide +kernel) rfl rfl (am_oc1 h y) (am_os1 h y) ?_
  change am_At _ _ _ 0 [_, _, _, _] [] _ _
  refine am_aload_n dX11_holds_0 rfl ?_
  refine am_iload_n dX11_holds_1 rfl ?_
  refine am_aload_n dX11_holds_2 rfl ?_
  refine am_getR 11 1 3 dX11_holds_3 fg_X11_19 (sh_0 g) (by decide) rfl (rf_0_1 g) ?_
  refine am_getI 1 0 dX11_holds_6 fg_X11_142 (sh_3 g) (by decide) rfl ?_
  obtain ⟨⟨y1, M1⟩, hk1, hyp⟩ := bd_some hyp
  rcases y1 with v1 | E1
  rotate_left
  · try dsimp only at hyp
    cases hyp
    exact am_callVX [_, _] dX11_holds_9 ml_X11_335 vm_X11_needBits (sh_0 g) rfl (fun _ => Nat.le_of_ble_eq_true rfl) (by omega) rfl (am_o0t (ef_X11_needBits (d := d + 0) (h := h) g hk1)) rfl
  try dsimp only at hyp
  refine am_callV [_, _] dX11_holds_9 ml_X11_335 vm_X11_needBits (sh_0 g) rfl (fun _ => Nat.le_of_ble_eq_true rfl) (by omega) rfl (am_o0v (ef_X11_needBits (d := d + 0) (h := h) g hk1)) rfl ?_
  change am_At _ _ _ 12 [_, _, _, _] [] _ _
  refine am_iconst 0 (v := 0) dX11_holds_12 (by decide) ?_
  refine am_istore_n dX11_holds_13 (am_lb rfl) ?_
  change am_At _ _ _ 14 [_, _, _, _] [] _ _
  refine am_iconst 0 (v := 0) dX11_holds_14 (by decide) ?_
  refine am_istore_n dX11_holds_15 (am_lb rfl) ?_
  change am_At _ _ _ 16 [_, _, _, _] [] _ _
  obtain ⟨x2_5, hw5, hyp⟩ := bd_some hyp
  try dsimp only at hyp
  refine eL_X11_holds_16 (d := d) (h := h) g (M := M1) FU ((0 : Int32), (0 : Int32)) x2_5 hw5 ?_
  change am_At _ _ _ 55 [_, _, _, _] [] _ _
  refine am_iload_n dX11_holds_55 rfl ?_
  cases hyp
  exact am_iret dX11_holds_56 rfl
theorem ef_X11_image {d : Nat} {h : am_H} (g : lay h) {M : Mem} {v : Int32} {M' : Mem} (hyp : f_X11_image M = some (v, M')) : am_Ev (d + 2) mX11_image [.inr (0, 0)] (am_hM h M) (.inl (some (am_I v), am_hM h M')) := by
  unfold f_X11_image at hyp
  refine am_Ev.mk (by decide +kernel) rfl rfl (Nat.le_refl _) (Nat.le_refl _) ?_
  change am_At _ _ _ 0 [_] [] _ _
  refine am_aload_n dX11_image_0 rfl ?_
  refine am_getR 11 6 31 dX11_image_1 fg_X11_52 (sh_0 g) (by decide) rfl (rf_0_6 g) ?_
  refine am_aload_n dX11_image_4 rfl ?_
  refine am_getR 11 5 29 dX11_image_5 fg_X11_45 (sh_0 g) (by decide) rfl (rf_0_5 g) ?_
  obtain ⟨⟨v1, M1⟩, hk1, hyp⟩ := bd_some hyp
  try dsimp only at hyp
  refine am_callV [_] dX11_image_8 ml_X11_383 vm_X7_keepImage (sh_31 g) rfl (fun _ => Nat.le_of_ble_eq_true rfl) (by omega) rfl (ef_X7_keepImage (d := d + 0) (h := h) g hk1) rfl ?_
  change am_At _ _ _ 11 [_] [_] _ _
  refine am_if_eq (13) 24 dX11_image_11 rfl ?_ ?_
  · intro hc2
    have hc2 : v1 = 0 := hc2
    replace hyp := it_pos hc2 hyp
    refine am_iconst (-1) (v := (-1)) dX11_image_24 (by decide) ?_
    cases hyp
    exact am_iret dX11_image_25 rfl
  · intro hc2n
    have hc2n : ¬ (v1 = 0) := hc2n
    replace hyp := it_neg hc2n hyp
    refine am_aload_n dX11_image_14 rfl ?_
    refine am_getR 11 6 31 dX11_image_15 fg_X11_52 (sh_0 g) (by decide) rfl (rf_0_6 g) ?_
    refine am_getI 7 3 dX11_image_18 fg_X11_387 (sh_31 g) (by decide) rfl ?_
    refine am_goto (4) 25 dX11_image_21 rfl ?_
    cases hyp
    exact am_iret dX11_image_25 rfl
theorem ef_X11_lawful_24 {d : Nat} {h : am_H} (g : lay h) (hW : h.2.2 23 0 = some 24 ∧ h.2.2 23 2 = some 25) {x1 x2 x3 : Int32} {M : Mem} {y : (Int32 ⊕ String) × Mem} (hyp : f_X11_lawful 24 25 x1 x2 x3 M = some y) : am_Ev (d + 3) mX11_lawful [.inr (0, 0), am_I x1, am_I x2, am_I x3] (am_hM h M) (am_o1 h y) := by
  unfold f_X11_lawful at hyp
  refine am_Ev.mk (by decide +kernel) rfl rfl (am_oc1 h y) (am_os1 h y) ?_
  change am_At _ _ _ 0 [_, _, _, _] [] _ _
  refine am_aload_n dX11_lawful_0 rfl ?_
  refine am_iload_n dX11_lawful_1 rfl ?_
  obtain ⟨⟨y1, M1⟩, hk1, hyp⟩ := bd_some hyp
  rcases y1 with v1 | E1
  rotate_left
  · try dsimp only at hyp
    cases hyp
    exact am_callVX [_] dX11_lawful_2 ml_X11_209 vm_X11_needBoard (sh_0 g) rfl (fun _ => Nat.le_of_ble_eq_true rfl) (by omega) rfl (am_o0t (ef_X11_needBoard (d := d + 1) (h := h) g hk1)) rfl
  try dsimp only at hyp
  refine am_callV [_] dX11_lawful_2 ml_X11_209 vm_X11_needBoard (sh_0 g) rfl (fun _ => Nat.le_of_ble_eq_true rfl) (by omega) rfl (am_o0v (ef_X11_needBoard (d := d + 1) (h := h) g hk1)) rfl ?_
  change am_At _ _ _ 5 [_, _, _, _] [] _ _
  refine am_aload_n dX11_lawful_5 rfl ?_
  refine am_iload_n dX11_lawful_6 rfl ?_
  refine am_iconst 0 (v := 0) dX11_lawful_7 (by decide) ?_
  refine am_bipush 23 (v := 23) dX11_lawful_8 (by decide) ?_
  obtain ⟨⟨y2, M2⟩, hk2, hyp⟩ := bd_some hyp
  rcases y2 with v2 | E2
  rotate_left
  · try dsimp only at hyp
    cases hyp
    exact am_callVX [_, _, _] dX11_lawful_10 ml_X11_178 vm_X11_needFit (sh_0 g) rfl (fun _ => Nat.le_of_ble_eq_true rfl) (by omega) rfl (am_o0t (ef_X11_needFit (d := d + 2) (h := h) g hk2)) rfl
  try dsimp only at hyp
  refine am_callV [_, _, _] dX11_lawful_10 ml_X11_178 vm_X11_needFit (sh_0 g) rfl (fun _ => Nat.le_of_ble_eq_true rfl) (by omega) rfl (am_o0v (ef_X11_needFit (d := d + 2) (h := h) g hk2)) rfl ?_
  change am_At _ _ _ 13 [_, _, _, _] [] _ _
  refine am_aload_n dX11_lawful_13 rfl ?_
  refine am_iload_n dX11_lawful_14 rfl ?_
  refine am_iconst 0 (v := 0) dX11_lawful_15 (by decide) ?_
  refine am_bipush 99 (v := 99) dX11_lawful_16 (by decide) ?_
  obtain ⟨⟨y3, M3⟩, hk3, hyp⟩ := bd_some hyp
  rcases y3 with v3 | E3
  rotate_left
  · try dsimp only at hyp
    cases hyp
    exact am_callVX [_, _, _] dX11_lawful_18 ml_X11_178 vm_X11_needFit (sh_0 g) rfl (fun _ => Nat.le_of_ble_eq_true rfl) (by omega) rfl (am_o0t (ef_X11_needFit (d := d + 2) (h := h) g hk3)) rfl
  try dsimp only at hyp
  refine am_callV [_, _, _] dX11_lawful_18 ml_X11_178 vm_X11_needFit (sh_0 g) rfl (fun _ => Nat.le_of_ble_eq_true rfl) (by omega) rfl (am_o0v (ef_X11_needFit (d := d + 2) (h := h) g hk3)) rfl ?_
  change am_At _ _ _ 21 [_, _, _, _] [] _ _
  refine am_aload_n dX11_lawful_21 rfl ?_
  refine am_getR 11 4 28 dX11_lawful_22 fg_X11_38 (sh_0 g) (by decide) rfl (rf_0_4 g) ?_
  refine am_iload_n dX11_lawful_25 rfl ?_
  refine am_iload_n dX11_lawful_26 rfl ?_
  refine am_iload_n dX11_lawful_27 rfl ?_
  refine am_bipush 24 (v := 24) dX11_lawful_28 (by decide) ?_
  refine am_imul dX11_lawful_30 ?_
  refine am_iadd dX11_lawful_31 ?_
  refine am_aload_n dX11_lawful_32 rfl ?_
  refine am_getR 11 5 29 dX11_lawful_33 fg_X11_45 (sh_0 g) (by decide) rfl (rf_0_5 g) ?_
  refine am_iload_n dX11_lawful_36 rfl ?_
  obtain ⟨v4, hk4, hyp⟩ := bd_some hyp
  try dsimp only at hyp
  refine am_callV [_] dX11_lawful_37 ml_X11_227 vm_X8_finesOf (sh_29 g) rfl (fun _ => Nat.le_of_ble_eq_true rfl) (by omega) rfl (ef_X8_finesOf_30 (d := d + 2) (h := h) g hk4) rfl ?_
  change am_At _ _ _ 40 [_, _, _, _] [_, _, _, _] _ _
  obtain ⟨⟨v5, M5⟩, hk5, hyp⟩ := bd_some hyp
  try dsimp only at hyp
  refine am_callV [_, _, _] dX11_lawful_40 ml_X11_264 vm_X4_isDue (sh_28 g) rfl (fun _ => Nat.le_of_ble_eq_true rfl) (by omega) rfl (ef_X4_isDue_24 (d := d + 0) (h := h) g hW hk5) rfl ?_
  change am_At _ _ _ 43 [_, _, _, _] [_] _ _
  obtain ⟨hg6, hyp⟩ := gd_some hyp
  cases hyp
  exact am_zret dX11_lawful_43 rfl (isb_nf hg6).1
theorem ef_X11_lawful_25 {d : Nat} {h : am_H} (g : lay h) (hW : h.2.2 23 0 = some 25 ∧ h.2.2 23 2 = some 24) {x1 x2 x3 : Int32} {M : Mem} {y : (Int32 ⊕ String) × Mem} (hyp : f_X11_lawful 25 24 x1 x2 x3 M = some y) : am_Ev (d + 3) mX11_lawful [.inr (0, 0), am_I x1, am_I x2, am_I x3] (am_hM h M) (am_o1 h y) := by
  unfold f_X11_lawful at hyp
  refine am_Ev.mk (by decide +kernel) rfl rfl (am_oc1 h y) (am_os1 h y) ?_
  change am_At _ _ _ 0 [_, _, _, _] [] _ _
  refine am_aload_n dX11_lawful_0 rfl ?_
  refine am_iload_n dX11_lawful_1 rfl ?_
  obtain ⟨⟨y1, M1⟩, hk1, hyp⟩ := bd_some hyp
  rcases y1 with v1 | E1
  rotate_left
  · try dsimp only at hyp
    cases hyp
    exact am_callVX [_] dX11_lawful_2 ml_X11_209 vm_X11_needBoard (sh_0 g) rfl (fun _ => Nat.le_of_ble_eq_true rfl) (by omega) rfl (am_o0t (ef_X11_needBoard (d := d + 1) (h := h) g hk1)) rfl
  try dsimp only at hyp
  refine am_callV [_] dX11_lawful_2 ml_X11_209 vm_X11_needBoard (sh_0 g) rfl (fun _ => Nat.le_of_ble_eq_true rfl) (by omega) rfl (am_o0v (ef_X11_needBoard (d := d + 1) (h := h) g hk1)) rfl ?_
  change am_At _ _ _ 5 [_, _, _, _] [] _ _
  refine am_aload_n dX11_lawful_5 rfl ?_
  refine am_iload_n dX11_lawful_6 rfl ?_
  refine am_iconst 0 (v := 0) dX11_lawful_7 (by decide) ?_
  refine am_bipush 23 (v := 23) dX11_lawful_8 (by decide) ?_
  obtain ⟨⟨y2, M2⟩, hk2, hyp⟩ := bd_some hyp
  rcases y2 with v2 | E2
  rotate_left
  · try dsimp only at hyp
    cases hyp
    exact am_callVX [_, _, _] dX11_lawful_10 ml_X11_178 vm_X11_needFit (sh_0 g) rfl (fun _ => Nat.le_of_ble_eq_true rfl) (by omega) rfl (am_o0t (ef_X11_needFit (d := d + 2) (h := h) g hk2)) rfl
  try dsimp only at hyp
  refine am_callV [_, _, _] dX11_lawful_10 ml_X11_178 vm_X11_needFit (sh_0 g) rfl (fun _ => Nat.le_of_ble_eq_true rfl) (by omega) rfl (am_o0v (ef_X11_needFit (d := d + 2) (h := h) g hk2)) rfl ?_
  change am_At _ _ _ 13 [_, _, _, _] [] _ _
  refine am_aload_n dX11_lawful_13 rfl ?_
  refine am_iload_n dX11_lawful_14 rfl ?_
  refine am_iconst 0 (v := 0) dX11_lawful_15 (by decide) ?_
  refine am_bipush 99 (v := 99) dX11_lawful_16 (by decide) ?_
  obtain ⟨⟨y3, M3⟩, hk3, hyp⟩ := bd_some hyp
  rcases y3 with v3 | E3
  rotate_left
  · try dsimp only at hyp
    cases hyp
    exact am_callVX [_, _, _] dX11_lawful_18 ml_X11_178 vm_X11_needFit (sh_0 g) rfl (fun _ => Nat.le_of_ble_eq_true rfl) (by omega) rfl (am_o0t (ef_X11_needFit (d := d + 2) (h := h) g hk3)) rfl
  try dsimp only at hyp
  refine am_callV [_, _, _] dX11_lawful_18 ml_X11_178 vm_X11_needFit (sh_0 g) rfl (fun _ => Nat.le_of_ble_eq_true rfl) (by omega) rfl (am_o0v (ef_X11_needFit (d := d + 2) (h := h) g hk3)) rfl ?_
  change am_At _ _ _ 21 [_, _, _, _] [] _ _
  refine am_aload_n dX11_lawful_21 rfl ?_
  refine am_getR 11 4 28 dX11_lawful_22 fg_X11_38 (sh_0 g) (by decide) rfl (rf_0_4 g) ?_
  refine am_iload_n dX11_lawful_25 rfl ?_
  refine am_iload_n dX11_lawful_26 rfl ?_
  refine am_iload_n dX11_lawful_27 rfl ?_
  refine am_bipush 24 (v := 24) dX11_lawful_28 (by decide) ?_
  refine am_imul dX11_lawful_30 ?_
  refine am_iadd dX11_lawful_31 ?_
  refine am_aload_n dX11_lawful_32 rfl ?_
  refine am_getR 11 5 29 dX11_lawful_33 fg_X11_45 (sh_0 g) (by decide) rfl (rf_0_5 g) ?_
  refine am_iload_n dX11_lawful_36 rfl ?_
  obtain ⟨v4, hk4, hyp⟩ := bd_some hyp
  try dsimp only at hyp
  refine am_callV [_] dX11_lawful_37 ml_X11_227 vm_X8_finesOf (sh_29 g) rfl (fun _ => Nat.le_of_ble_eq_true rfl) (by omega) rfl (ef_X8_finesOf_30 (d := d + 2) (h := h) g hk4) rfl ?_
  change am_At _ _ _ 40 [_, _, _, _] [_, _, _, _] _ _
  obtain ⟨⟨v5, M5⟩, hk5, hyp⟩ := bd_some hyp
  try dsimp only at hyp
  refine am_callV [_, _, _] dX11_lawful_40 ml_X11_264 vm_X4_isDue (sh_28 g) rfl (fun _ => Nat.le_of_ble_eq_true rfl) (by omega) rfl (ef_X4_isDue_25 (d := d + 0) (h := h) g hW hk5) rfl ?_
  change am_At _ _ _ 43 [_, _, _, _] [_] _ _
  obtain ⟨hg6, hyp⟩ := gd_some hyp
  cases hyp
  exact am_zret dX11_lawful_43 rfl (isb_nf hg6).1
theorem eL_X11_letter_26_24 {d : Nat} {h : am_H} (g : lay h) (hW : h.2.2 23 0 = some 24 ∧ h.2.2 23 2 = some 25) {x2 : Int32} {r : am_R} (n : Nat) : ∀ (s : Int32 × Int32 × Int32 × Int32 × Int32 × Mem) (e : Int32 × Int32 × Int32 × Mem), wh (L_X11_letter_26 24 25) n s = some e → (match e with | (x3, x4, x5, M) => am_At am_X0 (d + 5) mX11_letter 111 [some (.inr (0, 0)), none, some (am_I (x2)), some (am_I (x3)), some (am_I (x4)), some (am_I (x5)), none, none] [] (am_hM h M) r) → (match s with | (x3, x4, x5, x6, x7, M) => am_At am_X0 (d + 5) mX11_letter 26 [some (.inr (0, 0)), none, some (am_I (x2)), some (am_I (x3)), some (am_I (x4)), some (am_I (x5)), some (am_I (x6)), some (am_I (x7))] [] (am_hM h M) r) := by
  refine am_wh (At := fun (s : Int32 × Int32 × Int32 × Int32 × Int32 × Mem) => match s with | (x3, x4, x5, x6, x7, M) => am_At am_X0 (d + 5) mX11_letter 26 [some (.inr (0, 0)), none, some (am_I (x2)), some (am_I (x3)), some (am_I (x4)), some (am_I (x5)), some (am_I (x6)), some (am_I (x7))] [] (am_hM h M) r) (Ex := fun (e : Int32 × Int32 × Int32 × Mem) => match e with | (x3, x4, x5, M) => am_At am_X0 (d + 5) mX11_letter 111 [some (.inr (0, 0)), none, some (am_I (x2)), some (am_I (x3)), some (am_I (x4)), some (am_I (x5)), none, none] [] (am_hM h M) r) ?_ n
  rintro ⟨x3, x4, x5, x6, x7, M⟩ y hyp hx
  unfold L_X11_letter_26 at hyp
  try dsimp only at hyp
  change am_At _ _ _ 26 [_, _, _, _, _, _, _, _] [] _ _
  refine am_iload dX11_letter_26 rfl ?_
  refine am_bipush 16 (v := 16) dX11_letter_28 (by decide) ?_
  refine am_icmp_ge (81) 111 dX11_letter_30 rfl ?_ ?_
  · intro hc3
    have hc3 : (16 : Int32) ≤ x7 := hc3
    replace hyp := it_pos hc3 hyp
    cases hyp
    refine am_At.drop 6 ?_
    refine am_At.drop 7 ?_
    exact hx
  · intro hc3n
    have hc3n : ¬ ((16 : Int32) ≤ x7) := hc3n
    replace hyp := it_neg hc3n hyp
    refine am_iload dX11_letter_33 rfl ?_
    refine am_aload_n dX11_letter_35 rfl ?_
    refine am_getR 11 1 3 dX11_letter_36 fg_X11_19 (sh_0 g) (by decide) rfl (rf_0_1 g) ?_
    refine am_getI 1 0 dX11_letter_39 fg_X11_142 (sh_3 g) (by decide) rfl ?_
    refine am_icmp_ge (69) 111 dX11_letter_42 rfl ?_ ?_
    · intro hc4
      have hc4 : (M 3 0 0) ≤ x6 := hc4
      replace hyp := it_pos hc4 hyp
      cases hyp
      refine am_At.drop 6 ?_
      refine am_At.drop 7 ?_
      exact hx
    · intro hc4n
      have hc4n : ¬ ((M 3 0 0) ≤ x6) := hc4n
      replace hyp := it_neg hc4n hyp
      refine am_aload_n dX11_letter_45 rfl ?_
      refine am_getR 11 8 38 dX11_letter_46 fg_X11_68 (sh_0 g) (by decide) rfl (rf_0_8 g) ?_
      refine am_iload dX11_letter_49 rfl ?_
      obtain ⟨⟨v5, M5⟩, hk5, hyp⟩ := bd_some hyp
      try dsimp only at hyp
      refine am_callV [_] dX11_letter_51 ml_X11_278 vm_X6_openIn (sh_38 g) rfl (fun _ => Nat.le_of_ble_eq_true rfl) (by omega) rfl (ef_X6_openIn_24 (d := d + 0) (h := h) g hW hk5) rfl ?_
      change am_At _ _ _ 54 [_, _, _, _, _, _, _, _] [_] _ _
      refine am_iload dX11_letter_54 rfl ?_
      refine am_callS (c := 0) (k := 0) (n := 0) (w := 0) [_, _] dX11_letter_56 ml_X11_281 sm_X11_isBitOf rfl (fun _ => Nat.le_of_ble_eq_true rfl) (by omega) rfl (ef_X11_isBitOf (d := d + 4) (h := am_hM h M5) (x0 := v5) (x1 := x6)  rfl) rfl ?_
      change am_At _ _ _ 59 [_, _, _, _, _, _, _, _] [_] _ _
      refine am_if_eq (34) 93 dX11_letter_59 rfl ?_ ?_
      · intro hc6
        have hc6 : (f_X11_isBitOf v5 x6) = 0 := hc6
        replace hyp := it_pos hc6 hyp
        refine am_iload dX11_letter_93 rfl ?_
        refine am_aload_n dX11_letter_95 rfl ?_
        refine am_getR 11 1 3 dX11_letter_96 fg_X11_19 (sh_0 g) (by decide) rfl (rf_0_1 g) ?_
        refine am_getI 1 12 dX11_letter_99 fg_X11_302 (sh_3 g) (by decide) rfl ?_
        refine am_iadd dX11_letter_102 ?_
        refine am_istore dX11_letter_103 (am_lb rfl) ?_
        change am_At _ _ _ 105 [_, _, _, _, _, _, _, _] [] _ _
        refine am_iinc dX11_letter_105 rfl (am_ix _) ?_
        change am_At _ _ _ 108 [_, _, _, _, _, _, _, _] [] _ _
        refine am_goto (-82) 26 dX11_letter_108 rfl ?_
        cases hyp
        exact hx
      · intro hc6n
        have hc6n : ¬ ((f_X11_isBitOf v5 x6) = 0) := hc6n
        replace hyp := it_neg hc6n hyp
        refine am_iinc dX11_letter_62 rfl (am_ix _) ?_
        change am_At _ _ _ 65 [_, _, _, _, _, _, _, _] [] _ _
        refine am_iload dX11_letter_65 rfl ?_
        refine am_iconst 1 (v := 1) dX11_letter_67 (by decide) ?_
        refine am_icmp_ne (8) 76 dX11_letter_68 rfl ?_ ?_
        · intro hc7n
          have hc7n : ¬ ((x5 + 1) = (1 : Int32)) := hc7n
          replace hyp := it_neg hc7n hyp
          refine am_iload_n dX11_letter_76 rfl ?_
          refine am_istore_n dX11_letter_77 (am_lb rfl) ?_
          change am_At _ _ _ 78 [_, _, _, _, _, _, _, _] [] _ _
          refine am_iload dX11_letter_78 rfl ?_
          refine am_iconst 1 (v := 1) dX11_letter_80 (by decide) ?_
          refine am_icmp_neT (8) 89 dX11_letter_81 rfl hc7n ?_
          refine am_iload dX11_letter_89 rfl ?_
          refine am_istore dX11_letter_91 (am_lb rfl) ?_
          change am_At _ _ _ 93 [_, _, _, _, _, _, _, _] [] _ _
          refine am_iload dX11_letter_93 rfl ?_
          refine am_aload_n dX11_letter_95 rfl ?_
          refine am_getR 11 1 3 dX11_letter_96 fg_X11_19 (sh_0 g) (by decide) rfl (rf_0_1 g) ?_
          refine am_getI 1 12 dX11_letter_99 fg_X11_302 (sh_3 g) (by decide) rfl ?_
          refine am_iadd dX11_letter_102 ?_
          refine am_istore dX11_letter_103 (am_lb rfl) ?_
          change am_At _ _ _ 105 [_, _, _, _, _, _, _, _] [] _ _
          refine am_iinc dX11_letter_105 rfl (am_ix _) ?_
          change am_At _ _ _ 108 [_, _, _, _, _, _, _, _] [] _ _
          refine am_goto (-82) 26 dX11_letter_108 rfl ?_
          cases hyp
          exact hx
        · intro hc7
          have hc7 : (x5 + 1) = (1 : Int32) := hc7
          replace hyp := it_pos hc7 hyp
          refine am_iload dX11_letter_71 rfl ?_
          refine am_goto (4) 77 dX11_letter_73 rfl ?_
          refine am_istore_n dX11_letter_77 (am_lb rfl) ?_
          change am_At _ _ _ 78 [_, _, _, _, _, _, _, _] [] _ _
          refine am_iload dX11_letter_78 rfl ?_
          refine am_iconst 1 (v := 1) dX11_letter_80 (by decide) ?_
          refine am_icmp_neF (8) 89 dX11_letter_81 rfl hc7 ?_
          refine am_iload dX11_letter_84 rfl ?_
          refine am_goto (5) 91 dX11_letter_86 rfl ?_
          refine am_istore dX11_letter_91 (am_lb rfl) ?_
          change am_At _ _ _ 93 [_, _, _, _, _, _, _, _] [] _ _
          refine am_iload dX11_letter_93 rfl ?_
          refine am_aload_n dX11_letter_95 rfl ?_
          refine am_getR 11 1 3 dX11_letter_96 fg_X11_19 (sh_0 g) (by decide) rfl (rf_0_1 g) ?_
          refine am_getI 1 12 dX11_letter_99 fg_X11_302 (sh_3 g) (by decide) rfl ?_
          refine am_iadd dX11_letter_102 ?_
          refine am_istore dX11_letter_103 (am_lb rfl) ?_
          change am_At _ _ _ 105 [_, _, _, _, _, _, _, _] [] _ _
          refine am_iinc dX11_letter_105 rfl (am_ix _) ?_
          change am_At _ _ _ 108 [_, _, _, _, _, _, _, _] [] _ _
          refine am_goto (-82) 26 dX11_letter_108 rfl ?_
          cases hyp
          exact hx
theorem ef_X11_letter_24 {d : Nat} {h : am_H} (g : lay h) (hW : h.2.2 23 0 = some 24 ∧ h.2.2 23 2 = some 25) {x1 x2 : Int32} {M : Mem} {y : (Int32 ⊕ String) × Mem} (hyp : f_X11_letter 24 25 x1 x2 M = some y) : am_Ev (d + 5) mX11_letter [.inr (0, 0), am_I x1, am_I x2] (am_hM h M) (am_o1 h y) := by
  unfold f_X11_letter at hyp
  refine am_Ev.mk (by decide +kernel) rfl rfl (am_oc1 h y) (am_os1 h y) ?_
  change am_At _ _ _ 0 [_, _, _, _, _, _, _, _] [] _ _
  refine am_aload_n dX11_letter_0 rfl ?_
  refine am_iload_n dX11_letter_1 rfl ?_
  obtain ⟨⟨y1, M1⟩, hk1, hyp⟩ := bd_some hyp
  rcases y1 with v1 | E1
  rotate_left
  · try dsimp only at hyp
    cases hyp
    exact am_callVX [_] dX11_letter_2 ml_X11_209 vm_X11_needBoard (sh_0 g) rfl (fun _ => Nat.le_of_ble_eq_true rfl) (by omega) rfl (am_o0t (ef_X11_needBoard (d := d + 3) (h := h) g hk1)) rfl
  try dsimp only at hyp
  refine am_callV [_] dX11_letter_2 ml_X11_209 vm_X11_needBoard (sh_0 g) rfl (fun _ => Nat.le_of_ble_eq_true rfl) (by omega) rfl (am_o0v (ef_X11_needBoard (d := d + 3) (h := h) g hk1)) rfl ?_
  change am_At _ _ _ 5 [_, _, _, _, _, _, _, _] [] _ _
  refine am_aload_n dX11_letter_5 rfl ?_
  refine am_iload_n dX11_letter_6 rfl ?_
  refine am_iconst 0 (v := 0) dX11_letter_7 (by decide) ?_
  refine am_iconst 2 (v := 2) dX11_letter_8 (by decide) ?_
  obtain ⟨⟨y2, M2⟩, hk2, hyp⟩ := bd_some hyp
  rcases y2 with v2 | E2
  rotate_left
  · try dsimp only at hyp
    cases hyp
    exact am_callVX [_, _, _] dX11_letter_9 ml_X11_178 vm_X11_needFit (sh_0 g) rfl (fun _ => Nat.le_of_ble_eq_true rfl) (by omega) rfl (am_o0t (ef_X11_needFit (d := d + 4) (h := h) g hk2)) rfl
  try dsimp only at hyp
  refine am_callV [_, _, _] dX11_letter_9 ml_X11_178 vm_X11_needFit (sh_0 g) rfl (fun _ => Nat.le_of_ble_eq_true rfl) (by omega) rfl (am_o0v (ef_X11_needFit (d := d + 4) (h := h) g hk2)) rfl ?_
  change am_At _ _ _ 12 [_, _, _, _, _, _, _, _] [] _ _
  refine am_iconst (-1) (v := (-1)) dX11_letter_12 (by decide) ?_
  refine am_istore_n dX11_letter_13 (am_lb rfl) ?_
  change am_At _ _ _ 14 [_, _, _, _, _, _, _, _] [] _ _
  refine am_iconst (-1) (v := (-1)) dX11_letter_14 (by decide) ?_
  refine am_istore dX11_letter_15 (am_lb rfl) ?_
  change am_At _ _ _ 17 [_, _, _, _, _, _, _, _] [] _ _
  refine am_iconst 0 (v := 0) dX11_letter_17 (by decide) ?_
  refine am_istore dX11_letter_18 (am_lb rfl) ?_
  change am_At _ _ _ 20 [_, _, _, _, _, _, _, _] [] _ _
  refine am_iload_n dX11_letter_20 rfl ?_
  refine am_istore dX11_letter_21 (am_lb rfl) ?_
  change am_At _ _ _ 23 [_, _, _, _, _, _, _, _] [] _ _
  refine am_iconst 0 (v := 0) dX11_letter_23 (by decide) ?_
  refine am_istore dX11_letter_24 (am_lb rfl) ?_
  change am_At _ _ _ 26 [_, _, _, _, _, _, _, _] [] _ _
  obtain ⟨⟨x3_8, x4_8, x5_8, M8⟩, hw8, hyp⟩ := bd_some hyp
  refine am_At.drop 1 ?_
  try dsimp only at hyp
  refine eL_X11_letter_26_24 (d := d) (h := h) g hW  FU ((-1 : Int32), (-1 : Int32), (0 : Int32), x1, (0 : Int32), M2) (x3_8, x4_8, x5_8, M8) hw8 ?_
  change am_At _ _ _ 111 [_, _, _, _, _, _, _, _] [] _ _
  refine am_iload_n dX11_letter_111 rfl ?_
  refine am_iconst 2 (v := 2) dX11_letter_112 (by decide) ?_
  refine am_icmp_ne (6) 119 dX11_letter_113 rfl ?_ ?_
  · intro hc9n
    have hc9n : ¬ (x2 = (2 : Int32)) := hc9n
    replace hyp := it_neg hc9n hyp
    refine am_iload_n dX11_letter_119 rfl ?_
    refine am_if_ne (7) 127 dX11_letter_120 rfl ?_ ?_
    · intro hc10n
      have hc10n : ¬ (x2 = 0) := hc10n
      replace hyp := it_neg hc10n hyp
      refine am_iload dX11_letter_127 rfl ?_
      cases hyp
      exact am_iret dX11_letter_129 rfl
    · intro hc10
      have hc10 : x2 = 0 := hc10
      replace hyp := it_pos hc10 hyp
      refine am_iload_n dX11_letter_123 rfl ?_
      refine am_goto (5) 129 dX11_letter_124 rfl ?_
      cases hyp
      exact am_iret dX11_letter_129 rfl
  · intro hc9
    have hc9 : x2 = (2 : Int32) := hc9
    replace hyp := it_pos hc9 hyp
    refine am_iload dX11_letter_116 rfl ?_
    cases hyp
    exact am_iret dX11_letter_118 rfl
theorem eL_X11_letter_26_25 {d : Nat} {h : am_H} (g : lay h) (hW : h.2.2 23 0 = some 25 ∧ h.2.2 23 2 = some 24) {x2 : Int32} {r : am_R} (n : Nat) : ∀ (s : Int32 × Int32 × Int32 × Int32 × Int32 × Mem) (e : Int32 × Int32 × Int32 × Mem), wh (L_X11_letter_26 25 24) n s = some e → (match e with | (x3, x4, x5, M) => am_At am_X0 (d + 5) mX11_letter 111 [some (.inr (0, 0)), none, some (am_I (x2)), some (am_I (x3)), some (am_I (x4)), some (am_I (x5)), none, none] [] (am_hM h M) r) → (match s with | (x3, x4, x5, x6, x7, M) => am_At am_X0 (d + 5) mX11_letter 26 [some (.inr (0, 0)), none, some (am_I (x2)), some (am_I (x3)), some (am_I (x4)), some (am_I (x5)), some (am_I (x6)), some (am_I (x7))] [] (am_hM h M) r) := by
  refine am_wh (At := fun (s : Int32 × Int32 × Int32 × Int32 × Int32 × Mem) => match s with | (x3, x4, x5, x6, x7, M) => am_At am_X0 (d + 5) mX11_letter 26 [some (.inr (0, 0)), none, some (am_I (x2)), some (am_I (x3)), some (am_I (x4)), some (am_I (x5)), some (am_I (x6)), some (am_I (x7))] [] (am_hM h M) r) (Ex := fun (e : Int32 × Int32 × Int32 × Mem) => match e with | (x3, x4, x5, M) => am_At am_X0 (d + 5) mX11_letter 111 [some (.inr (0, 0)), none, some (am_I (x2)), some (am_I (x3)), some (am_I (x4)), some (am_I (x5)), none, none] [] (am_hM h M) r) ?_ n
  rintro ⟨x3, x4, x5, x6, x7, M⟩ y hyp hx
  unfold L_X11_letter_26 at hyp
  try dsimp only at hyp
  change am_At _ _ _ 26 [_, _, _, _, _, _, _, _] [] _ _
  refine am_iload dX11_letter_26 rfl ?_
  refine am_bipush 16 (v := 16) dX11_letter_28 (by decide) ?_
  refine am_icmp_ge (81) 111 dX11_letter_30 rfl ?_ ?_
  · intro hc3
    have hc3 : (16 : Int32) ≤ x7 := hc3
    replace hyp := it_pos hc3 hyp
    cases hyp
    refine am_At.drop 6 ?_
    refine am_At.drop 7 ?_
    exact hx
  · intro hc3n
    have hc3n : ¬ ((16 : Int32) ≤ x7) := hc3n
    replace hyp := it_neg hc3n hyp
    refine am_iload dX11_letter_33 rfl ?_
    refine am_aload_n dX11_letter_35 rfl ?_
    refine am_getR 11 1 3 dX11_letter_36 fg_X11_19 (sh_0 g) (by decide) rfl (rf_0_1 g) ?_
    refine am_getI 1 0 dX11_letter_39 fg_X11_142 (sh_3 g) (by decide) rfl ?_
    refine am_icmp_ge (69) 111 dX11_letter_42 rfl ?_ ?_
    · intro hc4
      have hc4 : (M 3 0 0) ≤ x6 := hc4
      replace hyp := it_pos hc4 hyp
      cases hyp
      refine am_At.drop 6 ?_
      refine am_At.drop 7 ?_
      exact hx
    · intro hc4n
      have hc4n : ¬ ((M 3 0 0) ≤ x6) := hc4n
      replace hyp := it_neg hc4n hyp
      refine am_aload_n dX11_letter_45 rfl ?_
      refine am_getR 11 8 38 dX11_letter_46 fg_X11_68 (sh_0 g) (by decide) rfl (rf_0_8 g) ?_
      refine am_iload dX11_letter_49 rfl ?_
      obtain ⟨⟨v5, M5⟩, hk5, hyp⟩ := bd_some hyp
      try dsimp only at hyp
      refine am_callV [_] dX11_letter_51 ml_X11_278 vm_X6_openIn (sh_38 g) rfl (fun _ => Nat.le_of_ble_eq_true rfl) (by omega) rfl (ef_X6_openIn_25 (d := d + 0) (h := h) g hW hk5) rfl ?_
      change am_At _ _ _ 54 [_, _, _, _, _, _, _, _] [_] _ _
      refine am_iload dX11_letter_54 rfl ?_
      refine am_callS (c := 0) (k := 0) (n := 0) (w := 0) [_, _] dX11_letter_56 ml_X11_281 sm_X11_isBitOf rfl (fun _ => Nat.le_of_ble_eq_true rfl) (by omega) rfl (ef_X11_isBitOf (d := d + 4) (h := am_hM h M5) (x0 := v5) (x1 := x6)  rfl) rfl ?_
      change am_At _ _ _ 59 [_, _, _, _, _, _, _, _] [_] _ _
      refine am_if_eq (34) 93 dX11_letter_59 rfl ?_ ?_
      · intro hc6
        have hc6 : (f_X11_isBitOf v5 x6) = 0 := hc6
        replace hyp := it_pos hc6 hyp
        refine am_iload dX11_letter_93 rfl ?_
        refine am_aload_n dX11_letter_95 rfl ?_
        refine am_getR 11 1 3 dX11_letter_96 fg_X11_19 (sh_0 g) (by decide) rfl (rf_0_1 g) ?_
        refine am_getI 1 12 dX11_letter_99 fg_X11_302 (sh_3 g) (by decide) rfl ?_
        refine am_iadd dX11_letter_102 ?_
        refine am_istore dX11_letter_103 (am_lb rfl) ?_
        change am_At _ _ _ 105 [_, _, _, _, _, _, _, _] [] _ _
        refine am_iinc dX11_letter_105 rfl (am_ix _) ?_
        change am_At _ _ _ 108 [_, _, _, _, _, _, _, _] [] _ _
        refine am_goto (-82) 26 dX11_letter_108 rfl ?_
        cases hyp
        exact hx
      · intro hc6n
        have hc6n : ¬ ((f_X11_isBitOf v5 x6) = 0) := hc6n
        replace hyp := it_neg hc6n hyp
        refine am_iinc dX11_letter_62 rfl (am_ix _) ?_
        change am_At _ _ _ 65 [_, _, _, _, _, _, _, _] [] _ _
        refine am_iload dX11_letter_65 rfl ?_
        refine am_iconst 1 (v := 1) dX11_letter_67 (by decide) ?_
        refine am_icmp_ne (8) 76 dX11_letter_68 rfl ?_ ?_
        · intro hc7n
          have hc7n : ¬ ((x5 + 1) = (1 : Int32)) := hc7n
          replace hyp := it_neg hc7n hyp
          refine am_iload_n dX11_letter_76 rfl ?_
          refine am_istore_n dX11_letter_77 (am_lb rfl) ?_
          change am_At _ _ _ 78 [_, _, _, _, _, _, _, _] [] _ _
          refine am_iload dX11_letter_78 rfl ?_
          refine am_iconst 1 (v := 1) dX11_letter_80 (by decide) ?_
          refine am_icmp_neT (8) 89 dX11_letter_81 rfl hc7n ?_
          refine am_iload dX11_letter_89 rfl ?_
          refine am_istore dX11_letter_91 (am_lb rfl) ?_
          change am_At _ _ _ 93 [_, _, _, _, _, _, _, _] [] _ _
          refine am_iload dX11_letter_93 rfl ?_
          refine am_aload_n dX11_letter_95 rfl ?_
          refine am_getR 11 1 3 dX11_letter_96 fg_X11_19 (sh_0 g) (by decide) rfl (rf_0_1 g) ?_
          refine am_getI 1 12 dX11_letter_99 fg_X11_302 (sh_3 g) (by decide) rfl ?_
          refine am_iadd dX11_letter_102 ?_
          refine am_istore dX11_letter_103 (am_lb rfl) ?_
          change am_At _ _ _ 105 [_, _, _, _, _, _, _, _] [] _ _
          refine am_iinc dX11_letter_105 rfl (am_ix _) ?_
          change am_At _ _ _ 108 [_, _, _, _, _, _, _, _] [] _ _
          refine am_goto (-82) 26 dX11_letter_108 rfl ?_
          cases hyp
          exact hx
        · intro hc7
          have hc7 : (x5 + 1) = (1 : Int32) := hc7
          replace hyp := it_pos hc7 hyp
          refine am_iload dX11_letter_71 rfl ?_
          refine am_goto (4) 77 dX11_letter_73 rfl ?_
          refine am_istore_n dX11_letter_77 (am_lb rfl) ?_
          change am_At _ _ _ 78 [_, _, _, _, _, _, _, _] [] _ _
          refine am_iload dX11_letter_78 rfl ?_
          refine am_iconst 1 (v := 1) dX11_letter_80 (by decide) ?_
          refine am_icmp_neF (8) 89 dX11_letter_81 rfl hc7 ?_
          refine am_iload dX11_letter_84 rfl ?_
          refine am_goto (5) 91 dX11_letter_86 rfl ?_
          refine am_istore dX11_letter_91 (am_lb rfl) ?_
          change am_At _ _ _ 93 [_, _, _, _, _, _, _, _] [] _ _
          refine am_iload dX11_letter_93 rfl ?_
          refine am_aload_n dX11_letter_95 rfl ?_
          refine am_getR 11 1 3 dX11_letter_96 fg_X11_19 (sh_0 g) (by decide) rfl (rf_0_1 g) ?_
          refine am_getI 1 12 dX11_letter_99 fg_X11_302 (sh_3 g) (by decide) rfl ?_
          refine am_iadd dX11_letter_102 ?_
          refine am_istore dX11_letter_103 (am_lb rfl) ?_
          change am_At _ _ _ 105 [_, _, _, _, _, _, _, _] [] _ _
          refine am_iinc dX11_letter_105 rfl (am_ix _) ?_
          change am_At _ _ _ 108 [_, _, _, _, _, _, _, _] [] _ _
          refine am_goto (-82) 26 dX11_letter_108 rfl ?_
          cases hyp
          exact hx
theorem ef_X11_letter_25 {d : Nat} {h : am_H} (g : lay h) (hW : h.2.2 23 0 = some 25 ∧ h.2.2 23 2 = some 24) {x1 x2 : Int32} {M : Mem} {y : (Int32 ⊕ String) × Mem} (hyp : f_X11_letter 25 24 x1 x2 M = some y) : am_Ev (d + 5) mX11_letter [.inr (0, 0), am_I x1, am_I x2] (am_hM h M) (am_o1 h y) := by
  unfold f_X11_letter at hyp
  refine am_Ev.mk (by decide +kernel) rfl rfl (am_oc1 h y) (am_os1 h y) ?_
  change am_At _ _ _ 0 [_, _, _, _, _, _, _, _] [] _ _
  refine am_aload_n dX11_letter_0 rfl ?_
  refine am_iload_n dX11_letter_1 rfl ?_
  obtain ⟨⟨y1, M1⟩, hk1, hyp⟩ := bd_some hyp
  rcases y1 with v1 | E1
  rotate_left
  · try dsimp only at hyp
    cases hyp
    exact am_callVX [_] dX11_letter_2 ml_X11_209 vm_X11_needBoard (sh_0 g) rfl (fun _ => Nat.le_of_ble_eq_true rfl) (by omega) rfl (am_o0t (ef_X11_needBoard (d := d + 3) (h := h) g hk1)) rfl
  try dsimp only at hyp
  refine am_callV [_] dX11_letter_2 ml_X11_209 vm_X11_needBoard (sh_0 g) rfl (fun _ => Nat.le_of_ble_eq_true rfl) (by omega) rfl (am_o0v (ef_X11_needBoard (d := d + 3) (h := h) g hk1)) rfl ?_
  change am_At _ _ _ 5 [_, _, _, _, _, _, _, _] [] _ _
  refine am_aload_n dX11_letter_5 rfl ?_
  refine am_iload_n dX11_letter_6 rfl ?_
  refine am_iconst 0 (v := 0) dX11_letter_7 (by decide) ?_
  refine am_iconst 2 (v := 2) dX11_letter_8 (by decide) ?_
  obtain ⟨⟨y2, M2⟩, hk2, hyp⟩ := bd_some hyp
  rcases y2 with v2 | E2
  rotate_left
  · try dsimp only at hyp
    cases hyp
    exact am_callVX [_, _, _] dX11_letter_9 ml_X11_178 vm_X11_needFit (sh_0 g) rfl (fun _ => Nat.le_of_ble_eq_true rfl) (by omega) rfl (am_o0t (ef_X11_needFit (d := d + 4) (h := h) g hk2)) rfl
  try dsimp only at hyp
  refine am_callV [_, _, _] dX11_letter_9 ml_X11_178 vm_X11_needFit (sh_0 g) rfl (fun _ => Nat.le_of_ble_eq_true rfl) (by omega) rfl (am_o0v (ef_X11_needFit (d := d + 4) (h := h) g hk2)) rfl ?_
  change am_At _ _ _ 12 [_, _, _, _, _, _, _, _] [] _ _
  refine am_iconst (-1) (v := (-1)) dX11_letter_12 (by decide) ?_
  refine am_istore_n dX11_letter_13 (am_lb rfl) ?_
  change am_At _ _ _ 14 [_, _, _, _, _, _, _, _] [] _ _
  refine am_iconst (-1) (v := (-1)) dX11_letter_14 (by decide) ?_
  refine am_istore dX11_letter_15 (am_lb rfl) ?_
  change am_At _ _ _ 17 [_, _, _, _, _, _, _, _] [] _ _
  refine am_iconst 0 (v := 0) dX11_letter_17 (by decide) ?_
  refine am_istore dX11_letter_18 (am_lb rfl) ?_
  change am_At _ _ _ 20 [_, _, _, _, _, _, _, _] [] _ _
  refine am_iload_n dX11_letter_20 rfl ?_
  refine am_istore dX11_letter_21 (am_lb rfl) ?_
  change am_At _ _ _ 23 [_, _, _, _, _, _, _, _] [] _ _
  refine am_iconst 0 (v := 0) dX11_letter_23 (by decide) ?_
  refine am_istore dX11_letter_24 (am_lb rfl) ?_
  change am_At _ _ _ 26 [_, _, _, _, _, _, _, _] [] _ _
  obtain ⟨⟨x3_8, x4_8, x5_8, M8⟩, hw8, hyp⟩ := bd_some hyp
  refine am_At.drop 1 ?_
  try dsimp only at hyp
  refine eL_X11_letter_26_25 (d := d) (h := h) g hW  FU ((-1 : Int32), (-1 : Int32), (0 : Int32), x1, (0 : Int32), M2) (x3_8, x4_8, x5_8, M8) hw8 ?_
  change am_At _ _ _ 111 [_, _, _, _, _, _, _, _] [] _ _
  refine am_iload_n dX11_letter_111 rfl ?_
  refine am_iconst 2 (v := 2) dX11_letter_112 (by decide) ?_
  refine am_icmp_ne (6) 119 dX11_letter_113 rfl ?_ ?_
  · intro hc9n
    have hc9n : ¬ (x2 = (2 : Int32)) := hc9n
    replace hyp := it_neg hc9n hyp
    refine am_iload_n dX11_letter_119 rfl ?_
    refine am_if_ne (7) 127 dX11_letter_120 rfl ?_ ?_
    · intro hc10n
      have hc10n : ¬ (x2 = 0) := hc10n
      replace hyp := it_neg hc10n hyp
      refine am_iload dX11_letter_127 rfl ?_
      cases hyp
      exact am_iret dX11_letter_129 rfl
    · intro hc10
      have hc10 : x2 = 0 := hc10
      replace hyp := it_pos hc10 hyp
      refine am_iload_n dX11_letter_123 rfl ?_
      refine am_goto (5) 129 dX11_letter_124 rfl ?_
      cases hyp
      exact am_iret dX11_letter_129 rfl
  · intro hc9
    have hc9 : x2 = (2 : Int32) := hc9
    replace hyp := it_pos hc9 hyp
    refine am_iload dX11_letter_116 rfl ?_
    cases hyp
    exact am_iret dX11_letter_118 rfl
