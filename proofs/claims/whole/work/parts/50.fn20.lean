theorem eL_X12_river_42 {d : Nat} {h : am_H} (g : lay h) {r : am_R} (n : Nat) : ∀ (s : Mem) (e : Mem), wh (L_X12_river_42) n s = some e → ((fun (M : Mem) => am_At am_X0 (d + 6) mX12_river 71 [some (.inr (54, 0)), none] [] (am_hM h M) r) e) → ((fun (M : Mem) => am_At am_X0 (d + 6) mX12_river 42 [some (.inr (54, 0)), none] [] (am_hM h M) r) s) := by
  refine am_wh (At := fun (s : Mem) => (fun (M : Mem) => am_At am_X0 (d + 6) mX12_river 42 [some (.inr (54, 0)), none] [] (am_hM h M) r) s) (Ex := fun (e : Mem) => (fun (M : Mem) => am_At am_X0 (d + 6) mX12_river 71 [some (.inr (54, 0)), none] [] (am_hM h M) r) e) ?_ n
  rintro M y hyp hx
  unfold L_X12_river_42 at hyp
  try dsimp only at hyp
  change am_At _ _ _ 42 [_, _] [] _ _
  refine am_aload_n dX12_river_42 rfl ?_
  refine am_getI 12 5 dX12_river_43 fg_X12_119 (sh_54 g) (by decide) rfl ?_
  refine am_if_ne (25) 71 dX12_river_46 rfl ?_ ?_
  · intro hc6n
    have hc6n : ¬ ((M 54 0 5) = 0) := hc6n
    replace hyp := it_neg hc6n hyp
    cases hyp
    exact hx
  · intro hc6
    have hc6 : (M 54 0 5) = 0 := hc6
    replace hyp := it_pos hc6 hyp
    refine am_aload_n dX12_river_49 rfl ?_
    refine am_getI 12 4 dX12_river_50 fg_X12_112 (sh_54 g) (by decide) rfl ?_
    refine am_aload_n dX12_river_53 rfl ?_
    refine am_getI 12 2 dX12_river_54 fg_X12_109 (sh_54 g) (by decide) rfl ?_
    refine am_icmp_ge (14) 71 dX12_river_57 rfl ?_ ?_
    · intro hc7
      have hc7 : (M 54 0 2) ≤ (M 54 0 4) := hc7
      replace hyp := it_pos hc7 hyp
      cases hyp
      exact hx
    · intro hc7n
      have hc7n : ¬ ((M 54 0 2) ≤ (M 54 0 4)) := hc7n
      replace hyp := it_neg hc7n hyp
      refine am_aload_n dX12_river_60 rfl ?_
      obtain ⟨M8, hk8, hyp⟩ := bd_some hyp
      try dsimp only at hyp
      refine am_callV [] dX12_river_61 ml_X12_186 vm_X12_clause (sh_54 g) rfl (fun _ => Nat.le_of_ble_eq_true rfl) (by omega) rfl (ef_X12_clause (d := d + 0) (h := h) g hk8) rfl ?_
      change am_At _ _ _ 64 [_, _] [] _ _
      refine am_aload_n dX12_river_64 rfl ?_
      obtain ⟨M9, hk9, hyp⟩ := bd_some hyp
      try dsimp only at hyp
      refine am_callV [] dX12_river_65 ml_X12_125 vm_X12_blanks (sh_54 g) rfl (fun _ => Nat.le_of_ble_eq_true rfl) (by omega) rfl (ef_X12_blanks (d := d + 4) (h := h) g hk9) rfl ?_
      change am_At _ _ _ 68 [_, _] [] _ _
      refine am_goto (-26) 42 dX12_river_68 rfl ?_
      cases hyp
      exact hx
theorem ef_X12_river {d : Nat} {h : am_H} (g : lay h) {x1 : Int32} {M : Mem} {v : Int32} {M' : Mem} (hyp : f_X12_river x1 M = some (v, M')) : am_Ev (d + 6) mX12_river [.inr (54, 0), am_I x1] (am_hM h M) (.inl (some (am_I v), am_hM h M')) := by
  unfold f_X12_river at hyp
  refine am_Ev.mk (by decide +kernel) rfl rfl (Nat.le_refl _) (Nat.le_refl _) ?_
  change am_At _ _ _ 0 [_, _] [] _ _
  refine am_aload_n dX12_river_0 rfl ?_
  refine am_iconst 0 (v := 0) dX12_river_1 (by decide) ?_
  refine am_putI 12 0 dX12_river_2 (Or.inl fp_X12_103) (sh_54 g) (by decide) rfl rfl rfl ?_
  refine am_aload_n dX12_river_5 rfl ?_
  refine am_iload_n dX12_river_6 rfl ?_
  refine am_iconst 0 (v := 0) dX12_river_7 (by decide) ?_
  refine am_aload_n dX12_river_8 rfl ?_
  refine am_getI 12 1 dX12_river_9 fg_X12_106 (sh_54 g) (by decide) rfl ?_
  refine am_callS (c := 0) (k := 0) (n := 0) (w := 0) [_, _, _] dX12_river_12 ml_X12_137 sm_X12_in rfl (fun _ => Nat.le_of_ble_eq_true rfl) (by omega) rfl (ef_X12_in (d := d + 5) (h := am_hM h (am_u3 M 54 0 0 (0 : Int32))) (x0 := x1) (x1 := (0 : Int32)) (x2 := (M 54 0 1))  rfl) rfl ?_
  change am_At _ _ _ 15 [_, _] [_, _] _ _
  refine am_if_ne (7) 22 dX12_river_15 rfl ?_ ?_
  · intro hc1n
    have hc1n : ¬ ((f_X12_in x1 (0 : Int32) (M 54 0 1)) = 0) := hc1n
    replace hyp := it_neg hc1n hyp
    refine am_iconst 0 (v := 0) dX12_river_22 (by decide) ?_
    refine am_iconst 1 (v := 1) dX12_river_23 (by decide) ?_
    refine am_iconst 1 (v := 1) dX12_river_24 (by decide) ?_
    obtain ⟨⟨v2, M2⟩, hk2, hyp⟩ := bd_some hyp
    try dsimp only at hyp
    refine am_callV [_, _, _] dX12_river_25 ml_X12_179 vm_X12_bad (sh_54 g) rfl (fun _ => Nat.le_of_ble_eq_true rfl) (by omega) rfl (ef_X12_bad (d := d + 5) (h := h) g hk2) rfl ?_
    change am_At _ _ _ 28 [_, _] [_] _ _
    refine am_if_eq (5) 33 dX12_river_28 rfl ?_ ?_
    · intro hc3
      have hc3 : v2 = 0 := hc3
      replace hyp := it_pos hc3 hyp
      refine am_aload_n dX12_river_33 rfl ?_
      refine am_iload_n dX12_river_34 rfl ?_
      obtain ⟨M4, hk4, hyp⟩ := bd_some hyp
      try dsimp only at hyp
      refine am_callV [_] dX12_river_35 ml_X12_183 vm_X12_starts (sh_54 g) rfl (fun _ => Nat.le_of_ble_eq_true rfl) (by omega) rfl (ef_X12_starts (d := d + 3) (h := h) g hk4) rfl ?_
      change am_At _ _ _ 38 [_, _] [] _ _
      refine am_aload_n dX12_river_38 rfl ?_
      obtain ⟨M5, hk5, hyp⟩ := bd_some hyp
      try dsimp only at hyp
      refine am_callV [] dX12_river_39 ml_X12_97 vm_X12_tellsNothing (sh_54 g) rfl (fun _ => Nat.le_of_ble_eq_true rfl) (by omega) rfl (ef_X12_tellsNothing (d := d + 5) (h := h) g hk5) rfl ?_
      change am_At _ _ _ 42 [_, _] [] _ _
      obtain ⟨M10, hw10, hyp⟩ := bd_some hyp
      refine am_At.drop 1 ?_
      try dsimp only at hyp
      refine eL_X12_river_42 (d := d) (h := h) g  FU M5 M10 hw10 ?_
      change am_At _ _ _ 71 [_, _] [] _ _
      refine am_aload_n dX12_river_71 rfl ?_
      refine am_getI 12 5 dX12_river_72 fg_X12_119 (sh_54 g) (by decide) rfl ?_
      refine am_if_eq (8) 83 dX12_river_75 rfl ?_ ?_
      · intro hc11
        have hc11 : (M10 54 0 5) = 0 := hc11
        replace hyp := it_pos hc11 hyp
        refine am_aload_n dX12_river_83 rfl ?_
        refine am_iconst (-1) (v := (-1)) dX12_river_84 (by decide) ?_
        refine am_putI 12 3 dX12_river_85 (Or.inl fp_X12_9) (sh_54 g) (by decide) rfl rfl rfl ?_
        refine am_aload_n dX12_river_88 rfl ?_
        obtain ⟨M12, hk12, hyp⟩ := bd_some hyp
        try dsimp only at hyp
        refine am_callV [] dX12_river_89 ml_X12_100 vm_X12_beginsAnew (sh_54 g) rfl (fun _ => Nat.le_of_ble_eq_true rfl) (by omega) rfl (ef_X12_beginsAnew (d := d + 4) (h := h) g hk12) rfl ?_
        change am_At _ _ _ 92 [_, _] [] _ _
        refine am_aload_n dX12_river_92 rfl ?_
        refine am_getR 12 12 58 dX12_river_93 fg_X12_23 (sh_54 g) (by decide) rfl (rf_54_12 g) ?_
        refine am_iconst 0 (v := 0) dX12_river_96 (by decide) ?_
        refine am_iald dX12_river_97 (am_ia.one (sh_58 g)) (am_lit rfl) ?_
        cases hyp
        exact am_iret dX12_river_98 rfl
      · intro hc11n
        have hc11n : ¬ ((M10 54 0 5) = 0) := hc11n
        replace hyp := it_neg hc11n hyp
        refine am_aload_n dX12_river_78 rfl ?_
        refine am_callV [] dX12_river_79 ml_X12_189 vm_X12_ends (sh_54 g) rfl (fun _ => Nat.le_of_ble_eq_true rfl) (by omega) rfl (ef_X12_ends (d := d + 5) (h := h) g  (M := M10) rfl) rfl ?_
        change am_At _ _ _ 82 [_, _] [_] _ _
        cases hyp
        exact am_iret dX12_river_82 rfl
    · intro hc3n
      have hc3n : ¬ (v2 = 0) := hc3n
      replace hyp := it_neg hc3n hyp
      refine am_iconst 0 (v := 0) dX12_river_31 (by decide) ?_
      cases hyp
      exact am_iret dX12_river_32 rfl
  · intro hc1
    have hc1 : (f_X12_in x1 (0 : Int32) (M 54 0 1)) = 0 := hc1
    replace hyp := it_pos hc1 hyp
    refine am_iconst 1 (v := 1) dX12_river_18 (by decide) ?_
    refine am_goto (4) 23 dX12_river_19 rfl ?_
    refine am_iconst 1 (v := 1) dX12_river_23 (by decide) ?_
    refine am_iconst 1 (v := 1) dX12_river_24 (by decide) ?_
    obtain ⟨⟨v13, M13⟩, hk13, hyp⟩ := bd_some hyp
    try dsimp only at hyp
    refine am_callV [_, _, _] dX12_river_25 ml_X12_179 vm_X12_bad (sh_54 g) rfl (fun _ => Nat.le_of_ble_eq_true rfl) (by omega) rfl (ef_X12_bad (d := d + 5) (h := h) g hk13) rfl ?_
    change am_At _ _ _ 28 [_, _] [_] _ _
    refine am_if_eq (5) 33 dX12_river_28 rfl ?_ ?_
    · intro hc14
      have hc14 : v13 = 0 := hc14
      replace hyp := it_pos hc14 hyp
      refine am_aload_n dX12_river_33 rfl ?_
      refine am_iload_n dX12_river_34 rfl ?_
      obtain ⟨M15, hk15, hyp⟩ := bd_some hyp
      try dsimp only at hyp
      refine am_callV [_] dX12_river_35 ml_X12_183 vm_X12_starts (sh_54 g) rfl (fun _ => Nat.le_of_ble_eq_true rfl) (by omega) rfl (ef_X12_starts (d := d + 3) (h := h) g hk15) rfl ?_
      change am_At _ _ _ 38 [_, _] [] _ _
      refine am_aload_n dX12_river_38 rfl ?_
      obtain ⟨M16, hk16, hyp⟩ := bd_some hyp
      try dsimp only at hyp
      refine am_callV [] dX12_river_39 ml_X12_97 vm_X12_tellsNothing (sh_54 g) rfl (fun _ => Nat.le_of_ble_eq_true rfl) (by omega) rfl (ef_X12_tellsNothing (d := d + 5) (h := h) g hk16) rfl ?_
      change am_At _ _ _ 42 [_, _] [] _ _
      obtain ⟨M17, hw17, hyp⟩ := bd_some hyp
      refine am_At.drop 1 ?_
      try dsimp only at hyp
      refine eL_X12_river_42 (d := d) (h := h) g  FU M16 M17 hw17 ?_
      change am_At _ _ _ 71 [_, _] [] _ _
      refine am_aload_n dX12_river_71 rfl ?_
      refine am_getI 12 5 dX12_river_72 fg_X12_119 (sh_54 g) (by decide) rfl ?_
      refine am_if_eq (8) 83 dX12_river_75 rfl ?_ ?_
      · intro hc18
        have hc18 : (M17 54 0 5) = 0 := hc18
        replace hyp := it_pos hc18 hyp
        refine am_aload_n dX12_river_83 rfl ?_
        refine am_iconst (-1) (v := (-1)) dX12_river_84 (by decide) ?_
        refine am_putI 12 3 dX12_river_85 (Or.inl fp_X12_9) (sh_54 g) (by decide) rfl rfl rfl ?_
        refine am_aload_n dX12_river_88 rfl ?_
        obtain ⟨M19, hk19, hyp⟩ := bd_some hyp
        try dsimp only at hyp
        refine am_callV [] dX12_river_89 ml_X12_100 vm_X12_beginsAnew (sh_54 g) rfl (fun _ => Nat.le_of_ble_eq_true rfl) (by omega) rfl (ef_X12_beginsAnew (d := d + 4) (h := h) g hk19) rfl ?_
        change am_At _ _ _ 92 [_, _] [] _ _
        refine am_aload_n dX12_river_92 rfl ?_
        refine am_getR 12 12 58 dX12_river_93 fg_X12_23 (sh_54 g) (by decide) rfl (rf_54_12 g) ?_
        refine am_iconst 0 (v := 0) dX12_river_96 (by decide) ?_
        refine am_iald dX12_river_97 (am_ia.one (sh_58 g)) (am_lit rfl) ?_
        cases hyp
        exact am_iret dX12_river_98 rfl
      · intro hc18n
        have hc18n : ¬ ((M17 54 0 5) = 0) := hc18n
        replace hyp := it_neg hc18n hyp
        refine am_aload_n dX12_river_78 rfl ?_
        refine am_callV [] dX12_river_79 ml_X12_189 vm_X12_ends (sh_54 g) rfl (fun _ => Nat.le_of_ble_eq_true rfl) (by omega) rfl (ef_X12_ends (d := d + 5) (h := h) g  (M := M17) rfl) rfl ?_
        change am_At _ _ _ 82 [_, _] [_] _ _
        cases hyp
        exact am_iret dX12_river_82 rfl
    · intro hc14n
      have hc14n : ¬ (v13 = 0) := hc14n
      replace hyp := it_neg hc14n hyp
      refine am_iconst 0 (v := 0) dX12_river_31 (by decide) ?_
      cases hyp
      exact am_iret dX12_river_32 rfl
theorem ef_X12_street {d : Nat} {h : am_H} (g : lay h) {x1 x2 : Int32} {M : Mem} {v : Int32} {M' : Mem} (hyp : f_X12_street x1 x2 M = some (v, M')) : am_Ev (d + 7) mX12_street [.inr (54, 0), am_I x1, am_I x2] (am_hM h M) (.inl (some (am_I v), am_hM h M')) := by
  unfold f_X12_street at hyp
  refine am_Ev.mk (by decide +kernel) rfl rfl (Nat.le_refl _) (Nat.le_refl _) ?_
  change am_At _ _ _ 0 [_, _, _] [] _ _
  refine am_aload_n dX12_street_0 rfl ?_
  refine am_iconst 0 (v := 0) dX12_street_1 (by decide) ?_
  refine am_putI 12 0 dX12_street_2 (Or.inl fp_X12_103) (sh_54 g) (by decide) rfl rfl rfl ?_
  refine am_aload_n dX12_street_5 rfl ?_
  refine am_iload_n dX12_street_6 rfl ?_
  refine am_iconst 0 (v := 0) dX12_street_7 (by decide) ?_
  refine am_aload_n dX12_street_8 rfl ?_
  refine am_getR 12 12 58 dX12_street_9 fg_X12_23 (sh_54 g) (by decide) rfl (rf_54_12 g) ?_
  refine am_iconst 2 (v := 2) dX12_street_12 (by decide) ?_
  refine am_iald dX12_street_13 (am_ia.one (sh_58 g)) (am_lit rfl) ?_
  refine am_iconst 1 (v := 1) dX12_street_14 (by decide) ?_
  refine am_isub dX12_street_15 ?_
  refine am_callS (c := 0) (k := 0) (n := 0) (w := 0) [_, _, _] dX12_street_16 ml_X12_137 sm_X12_in rfl (fun _ => Nat.le_of_ble_eq_true rfl) (by omega) rfl (ef_X12_in (d := d + 6) (h := am_hM h (am_u3 M 54 0 0 (0 : Int32))) (x0 := x1) (x1 := (0 : Int32)) (x2 := ((M 58 0 2) - (1 : Int32)))  rfl) rfl ?_
  change am_At _ _ _ 19 [_, _, _] [_, _] _ _
  refine am_if_ne (7) 26 dX12_street_19 rfl ?_ ?_
  · intro hc1n
    have hc1n : ¬ ((f_X12_in x1 (0 : Int32) ((M 58 0 2) - (1 : Int32))) = 0) := hc1n
    replace hyp := it_neg hc1n hyp
    refine am_iconst 0 (v := 0) dX12_street_26 (by decide) ?_
    refine am_iconst 1 (v := 1) dX12_street_27 (by decide) ?_
    refine am_iconst 0 (v := 0) dX12_street_28 (by decide) ?_
    obtain ⟨⟨v2, M2⟩, hk2, hyp⟩ := bd_some hyp
    try dsimp only at hyp
    refine am_callV [_, _, _] dX12_street_29 ml_X12_179 vm_X12_bad (sh_54 g) rfl (fun _ => Nat.le_of_ble_eq_true rfl) (by omega) rfl (ef_X12_bad (d := d + 6) (h := h) g hk2) rfl ?_
    change am_At _ _ _ 32 [_, _, _] [_] _ _
    refine am_if_ne (26) 58 dX12_street_32 rfl ?_ ?_
    · intro hc3n
      have hc3n : ¬ (v2 = 0) := hc3n
      replace hyp := it_neg hc3n hyp
      refine am_iconst 0 (v := 0) dX12_street_58 (by decide) ?_
      cases hyp
      exact am_iret dX12_street_59 rfl
    · intro hc3
      have hc3 : v2 = 0 := hc3
      replace hyp := it_pos hc3 hyp
      refine am_aload_n dX12_street_35 rfl ?_
      refine am_iload_n dX12_street_36 rfl ?_
      refine am_iconst 0 (v := 0) dX12_street_37 (by decide) ?_
      refine am_iconst 3 (v := 3) dX12_street_38 (by decide) ?_
      refine am_callS (c := 0) (k := 0) (n := 0) (w := 0) [_, _, _] dX12_street_39 ml_X12_137 sm_X12_in rfl (fun _ => Nat.le_of_ble_eq_true rfl) (by omega) rfl (ef_X12_in (d := d + 6) (h := am_hM h M2) (x0 := x2) (x1 := (0 : Int32)) (x2 := (3 : Int32))  rfl) rfl ?_
      change am_At _ _ _ 42 [_, _, _] [_, _] _ _
      refine am_if_ne (7) 49 dX12_street_42 rfl ?_ ?_
      · intro hc4n
        have hc4n : ¬ ((f_X12_in x2 (0 : Int32) (3 : Int32)) = 0) := hc4n
        replace hyp := it_neg hc4n hyp
        refine am_iconst 0 (v := 0) dX12_street_49 (by decide) ?_
        refine am_iconst 2 (v := 2) dX12_street_50 (by decide) ?_
        refine am_iconst 1 (v := 1) dX12_street_51 (by decide) ?_
        obtain ⟨⟨v5, M5⟩, hk5, hyp⟩ := bd_some hyp
        try dsimp only at hyp
        refine am_callV [_, _, _] dX12_street_52 ml_X12_179 vm_X12_bad (sh_54 g) rfl (fun _ => Nat.le_of_ble_eq_true rfl) (by omega) rfl (ef_X12_bad (d := d + 6) (h := h) g hk5) rfl ?_
        change am_At _ _ _ 55 [_, _, _] [_] _ _
        refine am_if_eq (5) 60 dX12_street_55 rfl ?_ ?_
        · intro hc6
          have hc6 : v5 = 0 := hc6
          replace hyp := it_pos hc6 hyp
          refine am_iload_n dX12_street_60 rfl ?_
          refine am_iconst 3 (v := 3) dX12_street_61 (by decide) ?_
          refine am_icmp_ge (14) 76 dX12_street_62 rfl ?_ ?_
          · intro hc7
            have hc7 : (3 : Int32) ≤ x2 := hc7
            replace hyp := it_pos hc7 hyp
            refine am_aload_n dX12_street_76 rfl ?_
            refine am_iload_n dX12_street_77 rfl ?_
            refine am_aload_n dX12_street_78 rfl ?_
            refine am_aload_n dX12_street_79 rfl ?_
            refine am_getR 12 29 72 dX12_street_80 fg_X12_67 (sh_54 g) (by decide) rfl (rf_54_29 g) ?_
            obtain ⟨⟨v8, M8⟩, hk8, hyp⟩ := bd_some hyp
            try dsimp only at hyp
            refine am_callV [_] dX12_street_83 ml_X12_276 vm_X12_openBits (sh_54 g) rfl (fun _ => Nat.le_of_ble_eq_true rfl) (by omega) rfl (ef_X12_openBits_72 (d := d + 0) (h := h) g hk8) rfl ?_
            change am_At _ _ _ 86 [_, _, _] [_, _, _] _ _
            obtain ⟨v9, hk9, hyp⟩ := bd_some hyp
            try dsimp only at hyp
            refine am_callV [_, _] dX12_street_86 ml_X12_330 vm_X12_isHolding (sh_54 g) rfl (fun _ => Nat.le_of_ble_eq_true rfl) (by omega) rfl (ef_X12_isHolding (d := d + 5) (h := h) g hk9) rfl ?_
            change am_At _ _ _ 89 [_, _, _] [_] _ _
            refine am_if_eq (7) 96 dX12_street_89 rfl ?_ ?_
            · intro hc10
              have hc10 : v9 = 0 := hc10
              replace hyp := it_pos hc10 hyp
              refine am_iconst 0 (v := 0) dX12_street_96 (by decide) ?_
              cases hyp
              exact am_iret dX12_street_97 rfl
            · intro hc10n
              have hc10n : ¬ (v9 = 0) := hc10n
              replace hyp := it_neg hc10n hyp
              refine am_iconst 1 (v := 1) dX12_street_92 (by decide) ?_
              refine am_goto (4) 97 dX12_street_93 rfl ?_
              cases hyp
              exact am_iret dX12_street_97 rfl
          · intro hc7n
            have hc7n : ¬ ((3 : Int32) ≤ x2) := hc7n
            replace hyp := it_neg hc7n hyp
            refine am_aload_n dX12_street_65 rfl ?_
            refine am_getR 12 18 64 dX12_street_66 fg_X12_43 (sh_54 g) (by decide) rfl (rf_54_18 g) ?_
            refine am_iload_n dX12_street_69 rfl ?_
            obtain ⟨hg11, hyp⟩ := gd_some hyp
            refine am_aald dX12_street_70 (sh_64 g) (am_lit hg11) ?_
            refine am_iload_n dX12_street_71 rfl ?_
            obtain ⟨hg12, hyp⟩ := gd_some hyp
            refine am_iald dX12_street_72 (am_ia.row (sh_64 g) (by omega) (am_vlt (am_lit hg11))) (am_lit hg12) ?_
            refine am_goto (24) 97 dX12_street_73 rfl ?_
            cases hyp
            exact am_iret dX12_street_97 rfl
        · intro hc6n
          have hc6n : ¬ (v5 = 0) := hc6n
          replace hyp := it_neg hc6n hyp
          refine am_iconst 0 (v := 0) dX12_street_58 (by decide) ?_
          cases hyp
          exact am_iret dX12_street_59 rfl
      · intro hc4
        have hc4 : (f_X12_in x2 (0 : Int32) (3 : Int32)) = 0 := hc4
        replace hyp := it_pos hc4 hyp
        refine am_iconst 1 (v := 1) dX12_street_45 (by decide) ?_
        refine am_goto (4) 50 dX12_street_46 rfl ?_
        refine am_iconst 2 (v := 2) dX12_street_50 (by decide) ?_
        refine am_iconst 1 (v := 1) dX12_street_51 (by decide) ?_
        obtain ⟨⟨v13, M13⟩, hk13, hyp⟩ := bd_some hyp
        try dsimp only at hyp
        refine am_callV [_, _, _] dX12_street_52 ml_X12_179 vm_X12_bad (sh_54 g) rfl (fun _ => Nat.le_of_ble_eq_true rfl) (by omega) rfl (ef_X12_bad (d := d + 6) (h := h) g hk13) rfl ?_
        change am_At _ _ _ 55 [_, _, _] [_] _ _
        refine am_if_eq (5) 60 dX12_street_55 rfl ?_ ?_
        · intro hc14
          have hc14 : v13 = 0 := hc14
          replace hyp := it_pos hc14 hyp
          refine am_iload_n dX12_street_60 rfl ?_
          refine am_iconst 3 (v := 3) dX12_street_61 (by decide) ?_
          refine am_icmp_ge (14) 76 dX12_street_62 rfl ?_ ?_
          · intro hc15
            have hc15 : (3 : Int32) ≤ x2 := hc15
            replace hyp := it_pos hc15 hyp
            refine am_aload_n dX12_street_76 rfl ?_
            refine am_iload_n dX12_street_77 rfl ?_
            refine am_aload_n dX12_street_78 rfl ?_
            refine am_aload_n dX12_street_79 rfl ?_
            refine am_getR 12 29 72 dX12_street_80 fg_X12_67 (sh_54 g) (by decide) rfl (rf_54_29 g) ?_
            obtain ⟨⟨v16, M16⟩, hk16, hyp⟩ := bd_some hyp
            try dsimp only at hyp
            refine am_callV [_] dX12_street_83 ml_X12_276 vm_X12_openBits (sh_54 g) rfl (fun _ => Nat.le_of_ble_eq_true rfl) (by omega) rfl (ef_X12_openBits_72 (d := d + 0) (h := h) g hk16) rfl ?_
            change am_At _ _ _ 86 [_, _, _] [_, _, _] _ _
            obtain ⟨v17, hk17, hyp⟩ := bd_some hyp
            try dsimp only at hyp
            refine am_callV [_, _] dX12_street_86 ml_X12_330 vm_X12_isHolding (sh_54 g) rfl (fun _ => Nat.le_of_ble_eq_true rfl) (by omega) rfl (ef_X12_isHolding (d := d + 5) (h := h) g hk17) rfl ?_
            change am_At _ _ _ 89 [_, _, _] [_] _ _
            refine am_if_eq (7) 96 dX12_street_89 rfl ?_ ?_
            · intro hc18
              have hc18 : v17 = 0 := hc18
              replace hyp := it_pos hc18 hyp
              refine am_iconst 0 (v := 0) dX12_street_96 (by decide) ?_
              cases hyp
              exact am_iret dX12_street_97 rfl
            · intro hc18n
              have hc18n : ¬ (v17 = 0) := hc18n
              replace hyp := it_neg hc18n hyp
              refine am_iconst 1 (v := 1) dX12_street_92 (by decide) ?_
              refine am_goto (4) 97 dX12_street_93 rfl ?_
              cases hyp
              exact am_iret dX12_street_97 rfl
          · intro hc15n
            have hc15n : ¬ ((3 : Int32) ≤ x2) := hc15n
            replace hyp := it_neg hc15n hyp
            refine am_aload_n dX12_street_65 rfl ?_
            refine am_getR 12 18 64 dX12_street_66 fg_X12_43 (sh_54 g) (by decide) rfl (rf_54_18 g) ?_
            refine am_iload_n dX12_street_69 rfl ?_
            obtain ⟨hg19, hyp⟩ := gd_some hyp
            refine am_aald dX12_street_70 (sh_64 g) (am_lit hg19) ?_
            refine am_iload_n dX12_street_71 rfl ?_
            obtain ⟨hg20, hyp⟩ := gd_some hyp
            refine am_iald dX12_street_72 (am_ia.row (sh_64 g) (by omega) (am_vlt (am_lit hg19))) (am_lit hg20) ?_
            refine am_goto (24) 97 dX12_street_73 rfl ?_
            cases hyp
            exact am_iret dX12_street_97 rfl
        · intro hc14n
          have hc14n : ¬ (v13 = 0) := hc14n
          replace hyp := it_neg hc14n hyp
          refine am_iconst 0 (v := 0) dX12_street_58 (by decide) ?_
          cases hyp
          exact am_iret dX12_street_59 rfl
  · intro hc1
    have hc1 : (f_X12_in x1 (0 : Int32) ((M 58 0 2) - (1 : Int32))) = 0 := hc1
    replace hyp := it_pos hc1 hyp
    refine am_iconst 1 (v := 1) dX12_street_22 (by decide) ?_
    refine am_goto (4) 27 dX12_street_23 rfl ?_
    refine am_iconst 1 (v := 1) dX12_street_27 (by decide) ?_
    refine am_iconst 0 (v := 0) dX12_street_28 (by decide) ?_
    obtain ⟨⟨v21, M21⟩, hk21, hyp⟩ := bd_some hyp
    try dsimp only at hyp
    refine am_callV [_, _, _] dX12_street_29 ml_X12_179 vm_X12_bad (sh_54 g) rfl (fun _ => Nat.le_of_ble_eq_true rfl) (by omega) rfl (ef_X12_bad (d := d + 6) (h := h) g hk21) rfl ?_
    change am_At _ _ _ 32 [_, _, _] [_] _ _
    refine am_if_ne (26) 58 dX12_street_32 rfl ?_ ?_
    · intro hc22n
      have hc22n : ¬ (v21 = 0) := hc22n
      replace hyp := it_neg hc22n hyp
      refine am_iconst 0 (v := 0) dX12_street_58 (by decide) ?_
      cases hyp
      exact am_iret dX12_street_59 rfl
    · intro hc22
      have hc22 : v21 = 0 := hc22
      replace hyp := it_pos hc22 hyp
      refine am_aload_n dX12_street_35 rfl ?_
      refine am_iload_n dX12_street_36 rfl ?_
      refine am_iconst 0 (v := 0) dX12_street_37 (by decide) ?_
      refine am_iconst 3 (v := 3) dX12_street_38 (by decide) ?_
      refine am_callS (c := 0) (k := 0) (n := 0) (w := 0) [_, _, _] dX12_street_39 ml_X12_137 sm_X12_in rfl (fun _ => Nat.le_of_ble_eq_true rfl) (by omega) rfl (ef_X12_in (d := d + 6) (h := am_hM h M21) (x0 := x2) (x1 := (0 : Int32)) (x2 := (3 : Int32))  rfl) rfl ?_
      change am_At _ _ _ 42 [_, _, _] [_, _] _ _
      refine am_if_ne (7) 49 dX12_street_42 rfl ?_ ?_
      · intro hc23n
        have hc23n : ¬ ((f_X12_in x2 (0 : Int32) (3 : Int32)) = 0) := hc23n
        replace hyp := it_neg hc23n hyp
        refine am_iconst 0 (v := 0) dX12_street_49 (by decide) ?_
        refine am_iconst 2 (v := 2) dX12_street_50 (by decide) ?_
        refine am_iconst 1 (v := 1) dX12_street_51 (by decide) ?_
        obtain ⟨⟨v24, M24⟩, hk24, hyp⟩ := bd_some hyp
        try dsimp only at hyp
        refine am_callV [_, _, _] dX12_street_52 ml_X12_179 vm_X12_bad (sh_54 g) rfl (fun _ => Nat.le_of_ble_eq_true rfl) (by omega) rfl (ef_X12_bad (d := d + 6) (h := h) g hk24) rfl ?_
        change am_At _ _ _ 55 [_, _, _] [_] _ _
        refine am_if_eq (5) 60 dX12_street_55 rfl ?_ ?_
        · intro hc25
          have hc25 : v24 = 0 := hc25
          replace hyp := it_pos hc25 hyp
          refine am_iload_n dX12_street_60 rfl ?_
          refine am_iconst 3 (v := 3) dX12_street_61 (by decide) ?_
          refine am_icmp_ge (14) 76 dX12_street_62 rfl ?_ ?_
          · intro hc26
            have hc26 : (3 : Int32) ≤ x2 := hc26
            replace hyp := it_pos hc26 hyp
            refine am_aload_n dX12_street_76 rfl ?_
            refine am_iload_n dX12_street_77 rfl ?_
            refine am_aload_n dX12_street_78 rfl ?_
            refine am_aload_n dX12_street_79 rfl ?_
            refine am_getR 12 29 72 dX12_street_80 fg_X12_67 (sh_54 g) (by decide) rfl (rf_54_29 g) ?_
            obtain ⟨⟨v27, M27⟩, hk27, hyp⟩ := bd_some hyp
            try dsimp only at hyp
            refine am_callV [_] dX12_street_83 ml_X12_276 vm_X12_openBits (sh_54 g) rfl (fun _ => Nat.le_of_ble_eq_true rfl) (by omega) rfl (ef_X12_openBits_72 (d := d + 0) (h := h) g hk27) rfl ?_
            change am_At _ _ _ 86 [_, _, _] [_, _, _] _ _
            obtain ⟨v28, hk28, hyp⟩ := bd_some hyp
            try dsimp only at hyp
            refine am_callV [_, _] dX12_street_86 ml_X12_330 vm_X12_isHolding (sh_54 g) rfl (fun _ => Nat.le_of_ble_eq_true rfl) (by omega) rfl (ef_X12_isHolding (d := d + 5) (h := h) g hk28) rfl ?_
            change am_At _ _ _ 89 [_, _, _] [_] _ _
            refine am_if_eq (7) 96 dX12_street_89 rfl ?_ ?_
            · intro hc29
              have hc29 : v28 = 0 := hc29
              replace hyp := it_pos hc29 hyp
              refine am_iconst 0 (v := 0) dX12_street_96 (by decide) ?_
              cases hyp
              exact am_iret dX12_street_97 rfl
            · intro hc29n
              have hc29n : ¬ (v28 = 0) := hc29n
              replace hyp := it_neg hc29n hyp
              refine am_iconst 1 (v := 1) dX12_street_92 (by decide) ?_
              refine am_goto (4) 97 dX12_street_93 rfl ?_
              cases hyp
              exact am_iret dX12_street_97 rfl
          · intro hc26n
            have hc26n : ¬ ((3 : Int32) ≤ x2) := hc26n
            replace hyp := it_neg hc26n hyp
            refine am_aload_n dX12_street_65 rfl ?_
            refine am_getR 12 18 64 dX12_street_66 fg_X12_43 (sh_54 g) (by decide) rfl (rf_54_18 g) ?_
            refine am_iload_n dX12_street_69 rfl ?_
            obtain ⟨hg30, hyp⟩ := gd_some hyp
            refine am_aald dX12_street_70 (sh_64 g) (am_lit hg30) ?_
            refine am_iload_n dX12_street_71 rfl ?_
            obtain ⟨hg31, hyp⟩ := gd_some hyp
            refine am_iald dX12_street_72 (am_ia.row (sh_64 g) (by omega) (am_vlt (am_lit hg30))) (am_lit hg31) ?_
            refine am_goto (24) 97 dX12_street_73 rfl ?_
            cases hyp
            exact am_iret dX12_street_97 rfl
        · intro hc25n
          have hc25n : ¬ (v24 = 0) := hc25n
          replace hyp := it_neg hc25n hyp
          refine am_iconst 0 (v := 0) dX12_street_58 (by decide) ?_
          cases hyp
          exact am_iret dX12_street_59 rfl
      · intro hc23
        have hc23 : (f_X12_in x2 (0 : Int32) (3 : Int32)) = 0 := hc23
        replace hyp := it_pos hc23 hyp
        refine am_iconst 1 (v := 1) dX12_street_45 (by decide) ?_
        refine am_goto (4) 50 dX12_street_46 rfl ?_
        refine am_iconst 2 (v := 2) dX12_street_50 (by decide) ?_
        refine am_iconst 1 (v := 1) dX12_street_51 (by decide) ?_
        obtain ⟨⟨v32, M32⟩, hk32, hyp⟩ := bd_some hyp
        try dsimp only at hyp
        refine am_callV [_, _, _] dX12_street_52 ml_X12_179 vm_X12_bad (sh_54 g) rfl (fun _ => Nat.le_of_ble_eq_true rfl) (by omega) rfl (ef_X12_bad (d := d + 6) (h := h) g hk32) rfl ?_
        change am_At _ _ _ 55 [_, _, _] [_] _ _
        refine am_if_eq (5) 60 dX12_street_55 rfl ?_ ?_
        · intro hc33
          have hc33 : v32 = 0 := hc33
          replace hyp := it_pos hc33 hyp
          refine am_iload_n dX12_street_60 rfl ?_
          refine am_iconst 3 (v := 3) dX12_street_61 (by decide) ?_
          refine am_icmp_ge (14) 76 dX12_street_62 rfl ?_ ?_
          · intro hc34
            have hc34 : (3 : Int32) ≤ x2 := hc34
            replace hyp := it_pos hc34 hyp
            refine am_aload_n dX12_street_76 rfl ?_
            refine am_iload_n dX12_street_77 rfl ?_
            refine am_aload_n dX12_street_78 rfl ?_
            refine am_aload_n dX12_street_79 rfl ?_
            refine am_getR 12 29 72 dX12_street_80 fg_X12_67 (sh_54 g) (by decide) rfl (rf_54_29 g) ?_
            obtain ⟨⟨v35, M35⟩, hk35, hyp⟩ := bd_some hyp
            try dsimp only at hyp
            refine am_callV [_] dX12_street_83 ml_X12_276 vm_X12_openBits (sh_54 g) rfl (fun _ => Nat.le_of_ble_eq_true rfl) (by omega) rfl (ef_X12_openBits_72 (d := d + 0) (h := h) g hk35) rfl ?_
            change am_At _ _ _ 86 [_, _, _] [_, _, _] _ _
            obtain ⟨v36, hk36, hyp⟩ := bd_some hyp
            try dsimp only at hyp
            refine am_callV [_, _] dX12_street_86 ml_X12_330 vm_X12_isHolding (sh_54 g) rfl (fun _ => Nat.le_of_ble_eq_true rfl) (by omega) rfl (ef_X12_isHolding (d := d + 5) (h := h) g hk36) rfl ?_
            change am_At _ _ _ 89 [_, _, _] [_] _ _
            refine am_if_eq (7) 96 dX12_street_89 rfl ?_ ?_
            · intro hc37
              have hc37 : v36 = 0 := hc37
              replace hyp := it_pos hc37 hyp
              refine am_iconst 0 (v := 0) dX12_street_96 (by decide) ?_
              cases hyp
              exact am_iret dX12_street_97 rfl
            · intro hc37n
              have hc37n : ¬ (v36 = 0) := hc37n
              replace hyp := it_neg hc37n hyp
              refine am_iconst 1 (v := 1) dX12_street_92 (by decide) ?_
              refine am_goto (4) 97 dX12_street_93 rfl ?_
              cases hyp
              exact am_iret dX12_street_97 rfl
          · intro hc34n
            have hc34n : ¬ ((3 : Int32) ≤ x2) := hc34n
            replace hyp := it_neg hc34n hyp
            refine am_aload_n dX12_street_65 rfl ?_
            refine am_getR 12 18 64 dX12_street_66 fg_X12_43 (sh_54 g) (by decide) rfl (rf_54_18 g) ?_
            refine am_iload_n dX12_street_69 rfl ?_
            obtain ⟨hg38, hyp⟩ := gd_some hyp
            refine am_aald dX12_street_70 (sh_64 g) (am_lit hg38) ?_
            refine am_iload_n dX12_street_71 rfl ?_
            obtain ⟨hg39, hyp⟩ := gd_some hyp
            refine am_iald dX12_street_72 (am_ia.row (sh_64 g) (by omega) (am_vlt (am_lit hg38))) (am_lit hg39) ?_
            refine am_goto (24) 97 dX12_street_73 rfl ?_
            cases hyp
            exact am_iret dX12_street_97 rfl
        · intro hc33n
          have hc33n : ¬ (v32 = 0) := hc33n
          replace hyp := it_neg hc33n hyp
          refine am_iconst 0 (v := 0) dX12_street_58 (by decide) ?_
          cases hyp
          exact am_iret dX12_street_59 rfl
theorem ef_X12_told {d : Nat} {h : am_H} (g : lay h) {x1 : Int32} {M : Mem} {v : Int32} {M' : Mem} (hyp : f_X12_told x1 M = some (v, M')) : am_Ev (d + 7) mX12_told [.inr (54, 0), am_I x1] (am_hM h M) (.inl (some (am_I v), am_hM h M')) := by
  unfold f_X12_told at hyp
  refine am_Ev.mk (by decide +kernel) rfl rfl (Nat.le_refl _) (Nat.le_refl _) ?_
  change am_At _ _ _ 0 [_, _] [] _ _
  refine am_aload_n dX12_told_0 rfl ?_
  refine am_iconst 0 (v := 0) dX12_told_1 (by decide) ?_
  refine am_putI 12 0 dX12_told_2 (Or.inl fp_X12_103) (sh_54 g) (by decide) rfl rfl rfl ?_
  refine am_aload_n dX12_told_5 rfl ?_
  refine am_iload_n dX12_told_6 rfl ?_
  refine am_iconst 0 (v := 0) dX12_told_7 (by decide) ?_
  refine am_bipush 9 (v := 9) dX12_told_8 (by decide) ?_
  refine am_callS (c := 0) (k := 0) (n := 0) (w := 0) [_, _, _] dX12_told_10 ml_X12_137 sm_X12_in rfl (fun _ => Nat.le_of_ble_eq_true rfl) (by omega) rfl (ef_X12_in (d := d + 6) (h := am_hM h (am_u3 M 54 0 0 (0 : Int32))) (x0 := x1) (x1 := (0 : Int32)) (x2 := (9 : Int32))  rfl) rfl ?_
  change am_At _ _ _ 13 [_, _] [_, _] _ _
  refine am_if_ne (7) 20 dX12_told_13 rfl ?_ ?_
  · intro hc1n
    have hc1n : ¬ ((f_X12_in x1 (0 : Int32) (9 : Int32)) = 0) := hc1n
    replace hyp := it_neg hc1n hyp
    refine am_iconst 0 (v := 0) dX12_told_20 (by decide) ?_
    refine am_iconst 1 (v := 1) dX12_told_21 (by decide) ?_
    refine am_iconst 1 (v := 1) dX12_told_22 (by decide) ?_
    obtain ⟨⟨v2, M2⟩, hk2, hyp⟩ := bd_some hyp
    try dsimp only at hyp
    refine am_callV [_, _, _] dX12_told_23 ml_X12_179 vm_X12_bad (sh_54 g) rfl (fun _ => Nat.le_of_ble_eq_true rfl) (by omega) rfl (ef_X12_bad (d := d + 6) (h := h) g hk2) rfl ?_
    change am_At _ _ _ 26 [_, _] [_] _ _
    refine am_if_eq (5) 31 dX12_told_26 rfl ?_ ?_
    · intro hc3
      have hc3 : v2 = 0 := hc3
      replace hyp := it_pos hc3 hyp
      refine am_iload_n dX12_told_31 rfl ?_
      by_cases hc4 : x1 = (0 : Int32)
      · refine am_tabIn (52) 84 dX12_told_32 (by rw [hc4]; decide) (by rw [hc4]; decide) (by rw [hc4]; rfl) rfl ?_
        replace hyp := it_pos hc4 hyp
        refine am_aload_n dX12_told_84 rfl ?_
        refine am_getR 12 12 58 dX12_told_85 fg_X12_23 (sh_54 g) (by decide) rfl (rf_54_12 g) ?_
        refine am_iload_n dX12_told_88 rfl ?_
        obtain ⟨hg5, hyp⟩ := gd_some hyp
        refine am_iald dX12_told_89 (am_ia.one (sh_58 g)) (am_lit hg5) ?_
        cases hyp
        exact am_iret dX12_told_90 rfl
      · have hc4n := hc4
        replace hyp := it_neg hc4n hyp
        by_cases hc6 : x1 = (1 : Int32)
        · refine am_tabIn (52) 84 dX12_told_32 (by rw [hc6]; decide) (by rw [hc6]; decide) (by rw [hc6]; rfl) rfl ?_
          replace hyp := it_pos hc6 hyp
          refine am_aload_n dX12_told_84 rfl ?_
          refine am_getR 12 12 58 dX12_told_85 fg_X12_23 (sh_54 g) (by decide) rfl (rf_54_12 g) ?_
          refine am_iload_n dX12_told_88 rfl ?_
          obtain ⟨hg7, hyp⟩ := gd_some hyp
          refine am_iald dX12_told_89 (am_ia.one (sh_58 g)) (am_lit hg7) ?_
          cases hyp
          exact am_iret dX12_told_90 rfl
        · have hc6n := hc6
          replace hyp := it_neg hc6n hyp
          by_cases hc8 : x1 = (2 : Int32)
          · refine am_tabIn (52) 84 dX12_told_32 (by rw [hc8]; decide) (by rw [hc8]; decide) (by rw [hc8]; rfl) rfl ?_
            replace hyp := it_pos hc8 hyp
            refine am_aload_n dX12_told_84 rfl ?_
            refine am_getR 12 12 58 dX12_told_85 fg_X12_23 (sh_54 g) (by decide) rfl (rf_54_12 g) ?_
            refine am_iload_n dX12_told_88 rfl ?_
            obtain ⟨hg9, hyp⟩ := gd_some hyp
            refine am_iald dX12_told_89 (am_ia.one (sh_58 g)) (am_lit hg9) ?_
            cases hyp
            exact am_iret dX12_told_90 rfl
          · have hc8n := hc8
            replace hyp := it_neg hc8n hyp
            by_cases hc10 : x1 = (3 : Int32)
            · refine am_tabIn (59) 91 dX12_told_32 (by rw [hc10]; decide) (by rw [hc10]; decide) (by rw [hc10]; rfl) rfl ?_
              replace hyp := it_pos hc10 hyp
              refine am_aload_n dX12_told_91 rfl ?_
              refine am_getR 12 29 72 dX12_told_92 fg_X12_67 (sh_54 g) (by decide) rfl (rf_54_29 g) ?_
              refine am_bipush 63 (v := 63) dX12_told_95 (by decide) ?_
              refine am_iald dX12_told_97 (am_ia.one (sh_72 g)) (am_lit rfl) ?_
              cases hyp
              exact am_iret dX12_told_98 rfl
            · have hc10n := hc10
              replace hyp := it_neg hc10n hyp
              by_cases hc11 : x1 = (4 : Int32)
              · refine am_tabIn (67) 99 dX12_told_32 (by rw [hc11]; decide) (by rw [hc11]; decide) (by rw [hc11]; rfl) rfl ?_
                replace hyp := it_pos hc11 hyp
                refine am_aload_n dX12_told_99 rfl ?_
                refine am_aload_n dX12_told_100 rfl ?_
                refine am_getR 12 29 72 dX12_told_101 fg_X12_67 (sh_54 g) (by decide) rfl (rf_54_29 g) ?_
                obtain ⟨⟨v12, M12⟩, hk12, hyp⟩ := bd_some hyp
                try dsimp only at hyp
                refine am_callV [_] dX12_told_104 ml_X12_276 vm_X12_openBits (sh_54 g) rfl (fun _ => Nat.le_of_ble_eq_true rfl) (by omega) rfl (ef_X12_openBits_72 (d := d + 0) (h := h) g hk12) rfl ?_
                change am_At _ _ _ 107 [_, _] [_] _ _
                obtain ⟨v13, hk13, hyp⟩ := bd_some hyp
                try dsimp only at hyp
                refine am_callS (c := 0) (k := 0) (n := 0) (w := 0) [_] dX12_told_107 ml_X12_318 sm_X12_ones rfl (fun _ => Nat.le_of_ble_eq_true rfl) (by omega) rfl (ef_X12_ones (d := d + 6) (h := am_hM h M12) hk13) rfl ?_
                change am_At _ _ _ 110 [_, _] [_] _ _
                cases hyp
                exact am_iret dX12_told_110 rfl
              · have hc11n := hc11
                replace hyp := it_neg hc11n hyp
                by_cases hc14 : x1 = (5 : Int32)
                · refine am_tabIn (79) 111 dX12_told_32 (by rw [hc14]; decide) (by rw [hc14]; decide) (by rw [hc14]; rfl) rfl ?_
                  replace hyp := it_pos hc14 hyp
                  refine am_aload_n dX12_told_111 rfl ?_
                  refine am_aload_n dX12_told_112 rfl ?_
                  refine am_getR 12 29 72 dX12_told_113 fg_X12_67 (sh_54 g) (by decide) rfl (rf_54_29 g) ?_
                  refine am_bipush 16 (v := 16) dX12_told_116 (by decide) ?_
                  obtain ⟨v15, hk15, hyp⟩ := bd_some hyp
                  try dsimp only at hyp
                  refine am_callV [_, _] dX12_told_118 ml_X12_321 vm_X12_sumOf (sh_54 g) rfl (fun _ => Nat.le_of_ble_eq_true rfl) (by omega) rfl (ef_X12_sumOf_72 (d := d + 6) (h := h) g hk15) rfl ?_
                  change am_At _ _ _ 121 [_, _] [_] _ _
                  cases hyp
                  exact am_iret dX12_told_121 rfl
                · have hc14n := hc14
                  replace hyp := it_neg hc14n hyp
                  by_cases hc16 : x1 = (6 : Int32)
                  · refine am_tabIn (90) 122 dX12_told_32 (by rw [hc16]; decide) (by rw [hc16]; decide) (by rw [hc16]; rfl) rfl ?_
                    replace hyp := it_pos hc16 hyp
                    refine am_aload_n dX12_told_122 rfl ?_
                    refine am_aload_n dX12_told_123 rfl ?_
                    refine am_getR 12 29 72 dX12_told_124 fg_X12_67 (sh_54 g) (by decide) rfl (rf_54_29 g) ?_
                    refine am_bipush 32 (v := 32) dX12_told_127 (by decide) ?_
                    obtain ⟨v17, hk17, hyp⟩ := bd_some hyp
                    try dsimp only at hyp
                    refine am_callV [_, _] dX12_told_129 ml_X12_321 vm_X12_sumOf (sh_54 g) rfl (fun _ => Nat.le_of_ble_eq_true rfl) (by omega) rfl (ef_X12_sumOf_72 (d := d + 6) (h := h) g hk17) rfl ?_
                    change am_At _ _ _ 132 [_, _] [_] _ _
                    cases hyp
                    exact am_iret dX12_told_132 rfl
                  · have hc16n := hc16
                    replace hyp := it_neg hc16n hyp
                    by_cases hc18 : x1 = (7 : Int32)
                    · refine am_tabIn (101) 133 dX12_told_32 (by rw [hc18]; decide) (by rw [hc18]; decide) (by rw [hc18]; rfl) rfl ?_
                      replace hyp := it_pos hc18 hyp
                      refine am_aload_n dX12_told_133 rfl ?_
                      refine am_aload_n dX12_told_134 rfl ?_
                      refine am_getR 12 29 72 dX12_told_135 fg_X12_67 (sh_54 g) (by decide) rfl (rf_54_29 g) ?_
                      obtain ⟨v19, hk19, hyp⟩ := bd_some hyp
                      try dsimp only at hyp
                      refine am_callV [_] dX12_told_138 ml_X12_324 vm_X12_throughIn (sh_54 g) rfl (fun _ => Nat.le_of_ble_eq_true rfl) (by omega) rfl (ef_X12_throughIn_72 (d := d + 6) (h := h) g hk19) rfl ?_
                      change am_At _ _ _ 141 [_, _] [_] _ _
                      cases hyp
                      exact am_iret dX12_told_141 rfl
                    · have hc18n := hc18
                      replace hyp := it_neg hc18n hyp
                      by_cases hc20 : x1 = (8 : Int32)
                      · refine am_tabIn (110) 142 dX12_told_32 (by rw [hc20]; decide) (by rw [hc20]; decide) (by rw [hc20]; rfl) rfl ?_
                        replace hyp := it_pos hc20 hyp
                        refine am_aload_n dX12_told_142 rfl ?_
                        refine am_getI 12 34 dX12_told_143 fg_X12_199 (sh_54 g) (by decide) rfl ?_
                        cases hyp
                        exact am_iret dX12_told_146 rfl
                      · have hc20n := hc20
                        replace hyp := it_neg hc20n hyp
                        refine am_tabOut 147 dX12_told_32 (by have q0 := lv_neT (a := 0) hc4n (by decide); have q1 := lv_neT (a := 1) hc6n (by decide); have q2 := lv_neT (a := 2) hc8n (by decide); have q3 := lv_neT (a := 3) hc10n (by decide); have q4 := lv_neT (a := 4) hc11n (by decide); have q5 := lv_neT (a := 5) hc14n (by decide); have q6 := lv_neT (a := 6) hc16n (by decide); have q7 := lv_neT (a := 7) hc18n (by decide); have q8 := lv_neT (a := 8) hc20n (by decide); omega) rfl ?_
                        refine am_aload_n dX12_told_147 rfl ?_
                        refine am_getI 12 36 dX12_told_148 fg_X12_205 (sh_54 g) (by decide) rfl ?_
                        cases hyp
                        exact am_iret dX12_told_151 rfl
    · intro hc3n
      have hc3n : ¬ (v2 = 0) := hc3n
      replace hyp := it_neg hc3n hyp
      refine am_iconst 0 (v := 0) dX12_told_29 (by decide) ?_
      cases hyp
      exact am_iret dX12_told_30 rfl
  · intro hc1
    have hc1 : (f_X12_in x1 (0 : Int32) (9 : Int32)) = 0 := hc1
    replace hyp := it_pos hc1 hyp
    refine am_iconst 1 (v := 1) dX12_told_16 (by decide) ?_
    refine am_goto (4) 21 dX12_told_17 rfl ?_
    refine am_iconst 1 (v := 1) dX12_told_21 (by decide) ?_
    refine am_iconst 1 (v := 1) dX12_told_22 (by decide) ?_
    obtain ⟨⟨v21, M21⟩, hk21, hyp⟩ := bd_some hyp
    try dsimp only at hyp
    refine am_callV [_, _, _] dX12_told_23 ml_X12_179 vm_X12_bad (sh_54 g) rfl (fun _ => Nat.le_of_ble_eq_true rfl) (by omega) rfl (ef_X12_bad (d := d + 6) (h := h) g hk21) rfl ?_
    change am_At _ _ _ 26 [_, _] [_] _ _
    refine am_if_eq (5) 31 dX12_told_26 rfl ?_ ?_
    · intro hc22
      have hc22 : v21 = 0 := hc22
      replace hyp := it_pos hc22 hyp
      refine am_iload_n dX12_told_31 rfl ?_
      by_cases hc23 : x1 = (0 : Int32)
      · refine am_tabIn (52) 84 dX12_told_32 (by rw [hc23]; decide) (by rw [hc23]; decide) (by rw [hc23]; rfl) rfl ?_
        replace hyp := it_pos hc23 hyp
        refine am_aload_n dX12_told_84 rfl ?_
        refine am_getR 12 12 58 dX12_told_85 fg_X12_23 (sh_54 g) (by decide) rfl (rf_54_12 g) ?_
        refine am_iload_n dX12_told_88 rfl ?_
        obtain ⟨hg24, hyp⟩ := gd_some hyp
        refine am_iald dX12_told_89 (am_ia.one (sh_58 g)) (am_lit hg24) ?_
        cases hyp
        exact am_iret dX12_told_90 rfl
      · have hc23n := hc23
        replace hyp := it_neg hc23n hyp
        by_cases hc25 : x1 = (1 : Int32)
        · refine am_tabIn (52) 84 dX12_told_32 (by rw [hc25]; decide) (by rw [hc25]; decide) (by rw [hc25]; rfl) rfl ?_
          replace hyp := it_pos hc25 hyp
          refine am_aload_n dX12_told_84 rfl ?_
          refine am_getR 12 12 58 dX12_told_85 fg_X12_23 (sh_54 g) (by decide) rfl (rf_54_12 g) ?_
          refine am_iload_n dX12_told_88 rfl ?_
          obtain ⟨hg26, hyp⟩ := gd_some hyp
          refine am_iald dX12_told_89 (am_ia.one (sh_58 g)) (am_lit hg26) ?_
          cases hyp
          exact am_iret dX12_told_90 rfl
        · have hc25n := hc25
          replace hyp := it_neg hc25n hyp
          by_cases hc27 : x1 = (2 : Int32)
          · refine am_tabIn (52) 84 dX12_told_32 (by rw [hc27]; decide) (by rw [hc27]; decide) (by rw [hc27]; rfl) rfl ?_
            replace hyp := it_pos hc27 hyp
            refine am_aload_n dX12_told_84 rfl ?_
            refine am_getR 12 12 58 dX12_told_85 fg_X12_23 (sh_54 g) (by decide) rfl (rf_54_12 g) ?_
            refine am_iload_n dX12_told_88 rfl ?_
            obtain ⟨hg28, hyp⟩ := gd_some hyp
            refine am_iald dX12_told_89 (am_ia.one (sh_58 g)) (am_lit hg28) ?_
            cases hyp
            exact am_iret dX12_told_90 rfl
          · have hc27n := hc27
            replace hyp := it_neg hc27n hyp
            by_cases hc29 : x1 = (3 : Int32)
            · refine am_tabIn (59) 91 dX12_told_32 (by rw [hc29]; decide) (by rw [hc29]; decide) (by rw [hc29]; rfl) rfl ?_
              replace hyp := it_pos hc29 hyp
              refine am_aload_n dX12_told_91 rfl ?_
              refine am_getR 12 29 72 dX12_told_92 fg_X12_67 (sh_54 g) (by decide) rfl (rf_54_29 g) ?_
              refine am_bipush 63 (v := 63) dX12_told_95 (by decide) ?_
              refine am_iald dX12_told_97 (am_ia.one (sh_72 g)) (am_lit rfl) ?_
              cases hyp
              exact am_iret dX12_told_98 rfl
            · have hc29n := hc29
              replace hyp := it_neg hc29n hyp
              by_cases hc30 : x1 = (4 : Int32)
              · refine am_tabIn (67) 99 dX12_told_32 (by rw [hc30]; decide) (by rw [hc30]; decide) (by rw [hc30]; rfl) rfl ?_
                replace hyp := it_pos hc30 hyp
                refine am_aload_n dX12_told_99 rfl ?_
                refine am_aload_n dX12_told_100 rfl ?_
                refine am_getR 12 29 72 dX12_told_101 fg_X12_67 (sh_54 g) (by decide) rfl (rf_54_29 g) ?_
                obtain ⟨⟨v31, M31⟩, hk31, hyp⟩ := bd_some hyp
                try dsimp only at hyp
                refine am_callV [_] dX12_told_104 ml_X12_276 vm_X12_openBits (sh_54 g) rfl (fun _ => Nat.le_of_ble_eq_true rfl) (by omega) rfl (ef_X12_openBits_72 (d := d + 0) (h := h) g hk31) rfl ?_
                change am_At _ _ _ 107 [_, _] [_] _ _
                obtain ⟨v32, hk32, hyp⟩ := bd_some hyp
                try dsimp only at hyp
                refine am_callS (c := 0) (k := 0) (n := 0) (w := 0) [_] dX12_told_107 ml_X12_318 sm_X12_ones rfl (fun _ => Nat.le_of_ble_eq_true rfl) (by omega) rfl (ef_X12_ones (d := d + 6) (h := am_hM h M31) hk32) rfl ?_
                change am_At _ _ _ 110 [_, _] [_] _ _
                cases hyp
                exact am_iret dX12_told_110 rfl
              · have hc30n := hc30
                replace hyp := it_neg hc30n hyp
                by_cases hc33 : x1 = (5 : Int32)
                · refine am_tabIn (79) 111 dX12_told_32 (by rw [hc33]; decide) (by rw [hc33]; decide) (by rw [hc33]; rfl) rfl ?_
                  replace hyp := it_pos hc33 hyp
                  refine am_aload_n dX12_told_111 rfl ?_
                  refine am_aload_n dX12_told_112 rfl ?_
                  refine am_getR 12 29 72 dX12_told_113 fg_X12_67 (sh_54 g) (by decide) rfl (rf_54_29 g) ?_
                  refine am_bipush 16 (v := 16) dX12_told_116 (by decide) ?_
                  obtain ⟨v34, hk34, hyp⟩ := bd_some hyp
                  try dsimp only at hyp
                  refine am_callV [_, _] dX12_told_118 ml_X12_321 vm_X12_sumOf (sh_54 g) rfl (fun _ => Nat.le_of_ble_eq_true rfl) (by omega) rfl (ef_X12_sumOf_72 (d := d + 6) (h := h) g hk34) rfl ?_
                  change am_At _ _ _ 121 [_, _] [_] _ _
                  cases hyp
                  exact am_iret dX12_told_121 rfl
                · have hc33n := hc33
                  replace hyp := it_neg hc33n hyp
                  by_cases hc35 : x1 = (6 : Int32)
                  · refine am_tabIn (90) 122 dX12_told_32 (by rw [hc35]; decide) (by rw [hc35]; decide) (by rw [hc35]; rfl) rfl ?_
                    replace hyp := it_pos hc35 hyp
                    refine am_aload_n dX12_told_122 rfl ?_
                    refine am_aload_n dX12_told_123 rfl ?_
                    refine am_getR 12 29 72 dX12_told_124 fg_X12_67 (sh_54 g) (by decide) rfl (rf_54_29 g) ?_
                    refine am_bipush 32 (v := 32) dX12_told_127 (by decide) ?_
                    obtain ⟨v36, hk36, hyp⟩ := bd_some hyp
                    try dsimp only at hyp
                    refine am_callV [_, _] dX12_told_129 ml_X12_321 vm_X12_sumOf (sh_54 g) rfl (fun _ => Nat.le_of_ble_eq_true rfl) (by omega) rfl (ef_X12_sumOf_72 (d := d + 6) (h := h) g hk36) rfl ?_
                    change am_At _ _ _ 132 [_, _] [_] _ _
                    cases hyp
                    exact am_iret dX12_told_132 rfl
                  · have hc35n := hc35
                    replace hyp := it_neg hc35n hyp
                    by_cases hc37 : x1 = (7 : Int32)
                    · refine am_tabIn (101) 133 dX12_told_32 (by rw [hc37]; decide) (by rw [hc37]; decide) (by rw [hc37]; rfl) rfl ?_
                      replace hyp := it_pos hc37 hyp
                      refine am_aload_n dX12_told_133 rfl ?_
                      refine am_aload_n dX12_told_134 rfl ?_
                      refine am_getR 12 29 72 dX12_told_135 fg_X12_67 (sh_54 g) (by decide) rfl (rf_54_29 g) ?_
                      obtain ⟨v38, hk38, hyp⟩ := bd_some hyp
                      try dsimp only at hyp
                      refine am_callV [_] dX12_told_138 ml_X12_324 vm_X12_throughIn (sh_54 g) rfl (fun _ => Nat.le_of_ble_eq_true rfl) (by omega) rfl (ef_X12_throughIn_72 (d := d + 6) (h := h) g hk38) rfl ?_
                      change am_At _ _ _ 141 [_, _] [_] _ _
                      cases hyp
                      exact am_iret dX12_told_141 rfl
                    · have hc37n := hc37
                      replace hyp := it_neg hc37n hyp
                      by_cases hc39 : x1 = (8 : Int32)
                      · refine am_tabIn (110) 142 dX12_told_32 (by rw [hc39]; decide) (by rw [hc39]; decide) (by rw [hc39]; rfl) rfl ?_
                        replace hyp := it_pos hc39 hyp
                        refine am_aload_n dX12_told_142 rfl ?_
                        refine am_getI 12 34 dX12_told_143 fg_X12_199 (sh_54 g) (by decide) rfl ?_
                        cases hyp
                        exact am_iret dX12_told_146 rfl
                      · have hc39n := hc39
                        replace hyp := it_neg hc39n hyp
                        refine am_tabOut 147 dX12_told_32 (by have q0 := lv_neT (a := 0) hc23n (by decide); have q1 := lv_neT (a := 1) hc25n (by decide); have q2 := lv_neT (a := 2) hc27n (by decide); have q3 := lv_neT (a := 3) hc29n (by decide); have q4 := lv_neT (a := 4) hc30n (by decide); have q5 := lv_neT (a := 5) hc33n (by decide); have q6 := lv_neT (a := 6) hc35n (by decide); have q7 := lv_neT (a := 7) hc37n (by decide); have q8 := lv_neT (a := 8) hc39n (by decide); omega) rfl ?_
                        refine am_aload_n dX12_told_147 rfl ?_
                        refine am_getI 12 36 dX12_told_148 fg_X12_205 (sh_54 g) (by decide) rfl ?_
                        cases hyp
                        exact am_iret dX12_told_151 rfl
    · intro hc22n
      have hc22n : ¬ (v21 = 0) := hc22n
      replace hyp := it_neg hc22n hyp
      refine am_iconst 0 (v := 0) dX12_told_29 (by decide) ?_
      cases hyp
      exact am_iret dX12_told_30 rfl
theorem eL_X12_trips_30 {d : Nat} {h : am_H} (g : lay h) {r : am_R} (n : Nat) : ∀ (s : Int32 × Mem) (e : Mem), wh (L_X12_trips_30) n s = some e → ((fun (M : Mem) => am_At am_X0 (d + 8) mX12_trips 49 [some (.inr (54, 0)), none, none, none, none] [] (am_hM h M) r) e) → (match s with | (x3, M) => am_At am_X0 (d + 8) mX12_trips 30 [some (.inr (54, 0)), none, none, some (am_I (x3)), none] [] (am_hM h M) r) := by
  refine am_wh (At := fun (s : Int32 × Mem) => match s with | (x3, M) => am_At am_X0 (d + 8) mX12_trips 30 [some (.inr (54, 0)), none, none, some (am_I (x3)), none] [] (am_hM h M) r) (Ex := fun (e : Mem) => (fun (M : Mem) => am_At am_X0 (d + 8) mX12_trips 49 [some (.inr (54, 0)), none, none, none, none] [] (am_hM h M) r) e) ?_ n
  rintro ⟨x3, M⟩ y hyp hx
  unfold L_X12_trips_30 at hyp
  try dsimp only at hyp
  change am_At _ _ _ 30 [_, _, _, _, _] [] _ _
  refine am_iload_n dX12_trips_30 rfl ?_
  refine am_bipush 16 (v := 16) dX12_trips_31 (by decide) ?_
  refine am_icmp_ge (16) 49 dX12_trips_33 rfl ?_ ?_
  · intro hc2
    have hc2 : (16 : Int32) ≤ x3 := hc2
    replace hyp := it_pos hc2 hyp
    cases hyp
    refine am_At.drop 3 ?_
    exact hx
  · intro hc2n
    have hc2n : ¬ ((16 : Int32) ≤ x3) := hc2n
    replace hyp := it_neg hc2n hyp
    refine am_aload_n dX12_trips_36 rfl ?_
    refine am_getR 12 42 77 dX12_trips_37 fg_X12_82 (sh_54 g) (by decide) rfl (rf_54_42 g) ?_
    refine am_iload_n dX12_trips_40 rfl ?_
    refine am_iconst 0 (v := 0) dX12_trips_41 (by decide) ?_
    obtain ⟨hg3, hyp⟩ := gd_some hyp
    refine am_iast dX12_trips_42 (am_ia.one (sh_77 g)) (am_lit hg3) ?_
    refine am_iinc dX12_trips_43 rfl (am_ix _) ?_
    change am_At _ _ _ 46 [_, _, _, _, _] [] _ _
    refine am_goto (-16) 30 dX12_trips_46 rfl ?_
    cases hyp
    exact hx
theorem eL_X12_trips_51 {d : Nat} {h : am_H} (g : lay h) {r : am_R} (n : Nat) : ∀ (s : Int32 × Mem) (e : (Int32 × Mem) ⊕ (Mem)), wh (L_X12_trips_51) n s = some e → (match e with | (Sum.inl (x3, M)) => am_At am_X0 (d + 8) mX12_trips 86 [some (.inr (54, 0)), none, none, some (am_I (x3)), none] [] (am_hM h M) r | (Sum.inr M) => am_At am_X0 (d + 8) mX12_trips 140 [some (.inr (54, 0)), none, none, none, none] [] (am_hM h M) r) → (match s with | (x3, M) => am_At am_X0 (d + 8) mX12_trips 51 [some (.inr (54, 0)), none, none, some (am_I (x3)), none] [] (am_hM h M) r) := by
  refine am_wh (At := fun (s : Int32 × Mem) => match s with | (x3, M) => am_At am_X0 (d + 8) mX12_trips 51 [some (.inr (54, 0)), none, none, some (am_I (x3)), none] [] (am_hM h M) r) (Ex := fun (e : (Int32 × Mem) ⊕ (Mem)) => match e with | (Sum.inl (x3, M)) => am_At am_X0 (d + 8) mX12_trips 86 [some (.inr (54, 0)), none, none, some (am_I (x3)), none] [] (am_hM h M) r | (Sum.inr M) => am_At am_X0 (d + 8) mX12_trips 140 [some (.inr (54, 0)), none, none, none, none] [] (am_hM h M) r) ?_ n
  rintro ⟨x3, M⟩ y hyp hx
  unfold L_X12_trips_51 at hyp
  try dsimp only at hyp
  change am_At _ _ _ 51 [_, _, _, _, _] [] _ _
  refine am_iload_n dX12_trips_51 rfl ?_
  refine am_sipush 240 (v := 240) dX12_trips_52 (by decide) ?_
  refine am_icmp_ge (85) 140 dX12_trips_55 rfl ?_ ?_
  · intro hc5
    have hc5 : (240 : Int32) ≤ x3 := hc5
    replace hyp := it_pos hc5 hyp
    cases hyp
    refine am_At.drop 3 ?_
    exact hx
  · intro hc5n
    have hc5n : ¬ ((240 : Int32) ≤ x3) := hc5n
    replace hyp := it_neg hc5n hyp
    refine am_aload_n dX12_trips_58 rfl ?_
    refine am_getR 12 30 73 dX12_trips_59 fg_X12_70 (sh_54 g) (by decide) rfl (rf_54_30 g) ?_
    refine am_bipush 52 (v := 52) dX12_trips_62 (by decide) ?_
    refine am_iald dX12_trips_64 (am_ia.one (sh_73 g)) (am_lit rfl) ?_
    refine am_istore dX12_trips_65 (am_lb rfl) ?_
    change am_At _ _ _ 67 [_, _, _, _, _] [] _ _
    refine am_aload_n dX12_trips_67 rfl ?_
    refine am_aload_n dX12_trips_68 rfl ?_
    refine am_getR 12 30 73 dX12_trips_69 fg_X12_70 (sh_54 g) (by decide) rfl (rf_54_30 g) ?_
    obtain ⟨M6, hk6, hyp⟩ := bd_some hyp
    try dsimp only at hyp
    refine am_callV [_] dX12_trips_72 ml_X12_297 vm_X12_hourEnds (sh_54 g) rfl (fun _ => Nat.le_of_ble_eq_true rfl) (by omega) rfl (ef_X12_hourEnds_73 (d := d + 0) (h := h) g hk6) rfl ?_
    change am_At _ _ _ 75 [_, _, _, _, _] [] _ _
    refine am_aload_n dX12_trips_75 rfl ?_
    refine am_getR 12 30 73 dX12_trips_76 fg_X12_70 (sh_54 g) (by decide) rfl (rf_54_30 g) ?_
    refine am_bipush 57 (v := 57) dX12_trips_79 (by decide) ?_
    refine am_iald dX12_trips_81 (am_ia.one (sh_73 g)) (am_lit rfl) ?_
    refine am_iconst 2 (v := 2) dX12_trips_82 (by decide) ?_
    refine am_icmp_ne (5) 88 dX12_trips_83 rfl ?_ ?_
    · intro hc7n
      have hc7n : ¬ ((M6 73 0 57) = (2 : Int32)) := hc7n
      replace hyp := it_neg hc7n hyp
      refine am_aload_n dX12_trips_88 rfl ?_
      refine am_getR 12 30 73 dX12_trips_89 fg_X12_70 (sh_54 g) (by decide) rfl (rf_54_30 g) ?_
      refine am_bipush 57 (v := 57) dX12_trips_92 (by decide) ?_
      refine am_iald dX12_trips_94 (am_ia.one (sh_73 g)) (am_lit rfl) ?_
      refine am_iconst 1 (v := 1) dX12_trips_95 (by decide) ?_
      refine am_icmp_ne (38) 134 dX12_trips_96 rfl ?_ ?_
      · intro hc8n
        have hc8n : ¬ ((M6 73 0 57) = (1 : Int32)) := hc8n
        replace hyp := it_neg hc8n hyp
        refine am_iinc dX12_trips_134 rfl (am_ix _) ?_
        change am_At _ _ _ 137 [_, _, _, _, _] [] _ _
        refine am_goto (-86) 51 dX12_trips_137 rfl ?_
        cases hyp
        refine am_At.drop 4 ?_
        exact hx
      · intro hc8
        have hc8 : (M6 73 0 57) = (1 : Int32) := hc8
        replace hyp := it_pos hc8 hyp
        refine am_aload_n dX12_trips_99 rfl ?_
        refine am_getR 12 30 73 dX12_trips_100 fg_X12_70 (sh_54 g) (by decide) rfl (rf_54_30 g) ?_
        refine am_bipush 52 (v := 52) dX12_trips_103 (by decide) ?_
        refine am_iald dX12_trips_105 (am_ia.one (sh_73 g)) (am_lit rfl) ?_
        refine am_iload dX12_trips_106 rfl ?_
        refine am_isub dX12_trips_108 ?_
        refine am_aload_n dX12_trips_109 rfl ?_
        refine am_getR 12 12 58 dX12_trips_110 fg_X12_23 (sh_54 g) (by decide) rfl (rf_54_12 g) ?_
        refine am_iconst 3 (v := 3) dX12_trips_113 (by decide) ?_
        refine am_iald dX12_trips_114 (am_ia.one (sh_58 g)) (am_lit rfl) ?_
        refine am_icmp_ge (19) 134 dX12_trips_115 rfl ?_ ?_
        · intro hc9
          have hc9 : (M6 58 0 3) ≤ ((M6 73 0 52) - (M 73 0 52)) := hc9
          replace hyp := it_pos hc9 hyp
          refine am_iinc dX12_trips_134 rfl (am_ix _) ?_
          change am_At _ _ _ 137 [_, _, _, _, _] [] _ _
          refine am_goto (-86) 51 dX12_trips_137 rfl ?_
          cases hyp
          refine am_At.drop 4 ?_
          exact hx
        · intro hc9n
          have hc9n : ¬ ((M6 58 0 3) ≤ ((M6 73 0 52) - (M 73 0 52))) := hc9n
          replace hyp := it_neg hc9n hyp
          refine am_aload_n dX12_trips_118 rfl ?_
          refine am_getR 12 42 77 dX12_trips_119 fg_X12_82 (sh_54 g) (by decide) rfl (rf_54_42 g) ?_
          refine am_aload_n dX12_trips_122 rfl ?_
          refine am_getR 12 30 73 dX12_trips_123 fg_X12_70 (sh_54 g) (by decide) rfl (rf_54_30 g) ?_
          refine am_bipush 52 (v := 52) dX12_trips_126 (by decide) ?_
          refine am_iald dX12_trips_128 (am_ia.one (sh_73 g)) (am_lit rfl) ?_
          refine am_dup2 dX12_trips_129 (fun _ => rfl) (fun _ => rfl) ?_
          obtain ⟨hg10, hyp⟩ := gd_some hyp
          refine am_iald dX12_trips_130 (am_ia.one (sh_77 g)) (am_lit hg10) ?_
          refine am_iconst 1 (v := 1) dX12_trips_131 (by decide) ?_
          refine am_iadd dX12_trips_132 ?_
          refine am_iast dX12_trips_133 (am_ia.one (sh_77 g)) (am_lit hg10) ?_
          refine am_iinc dX12_trips_134 rfl (am_ix _) ?_
          change am_At _ _ _ 137 [_, _, _, _, _] [] _ _
          refine am_goto (-86) 51 dX12_trips_137 rfl ?_
          cases hyp
          refine am_At.drop 4 ?_
          exact hx
    · intro hc7
      have hc7 : (M6 73 0 57) = (2 : Int32) := hc7
      replace hyp := it_pos hc7 hyp
      cases hyp
      refine am_At.drop 4 ?_
      exact hx
theorem ef_X12_trips {d : Nat} {h : am_H} (g : lay h) {x1 x2 : Int32} {M : Mem} {v : Int32} {M' : Mem} (hyp : f_X12_trips x1 x2 M = some (v, M')) : am_Ev (d + 8) mX12_trips [.inr (54, 0), am_I x1, am_I x2] (am_hM h M) (.inl (some (am_I v), am_hM h M')) := by
  unfold f_X12_trips at hyp
  refine am_Ev.mk (by decide +kernel) rfl rfl (Nat.le_refl _) (Nat.le_refl _) ?_
  change am_At _ _ _ 0 [_, _, _, _, _] [] _ _
  refine am_aload_n dX12_trips_0 rfl ?_
  obtain ⟨M1, hk1, hyp⟩ := bd_some hyp
  try dsimp only at hyp
  refine am_callV [] dX12_trips_1 ml_X12_333 vm_X12_tries (sh_54 g) rfl (fun _ => Nat.le_of_ble_eq_true rfl) (by omega) rfl (ef_X12_tries (d := d + 6) (h := h) g hk1) rfl ?_
  change am_At _ _ _ 4 [_, _, _, _, _] [] _ _
  refine am_aload_n dX12_trips_4 rfl ?_
  refine am_getR 12 30 73 dX12_trips_5 fg_X12_70 (sh_54 g) (by decide) rfl (rf_54_30 g) ?_
  refine am_bipush 65 (v := 65) dX12_trips_8 (by decide) ?_
  refine am_iload_n dX12_trips_10 rfl ?_
  refine am_iast dX12_trips_11 (am_ia.one (sh_73 g)) (am_lit rfl) ?_
  refine am_aload_n dX12_trips_12 rfl ?_
  refine am_getR 12 30 73 dX12_trips_13 fg_X12_70 (sh_54 g) (by decide) rfl (rf_54_30 g) ?_
  refine am_bipush 64 (v := 64) dX12_trips_16 (by decide) ?_
  refine am_aload_n dX12_trips_18 rfl ?_
  refine am_getR 12 29 72 dX12_trips_19 fg_X12_67 (sh_54 g) (by decide) rfl (rf_54_29 g) ?_
  refine am_bipush 63 (v := 63) dX12_trips_22 (by decide) ?_
  refine am_iald dX12_trips_24 (am_ia.one (sh_72 g)) (am_lit rfl) ?_
  refine am_iload_n dX12_trips_25 rfl ?_
  refine am_iadd dX12_trips_26 ?_
  refine am_iast dX12_trips_27 (am_ia.one (sh_73 g)) (am_lit rfl) ?_
  refine am_iconst 0 (v := 0) dX12_trips_28 (by decide) ?_
  refine am_istore_n dX12_trips_29 (am_lb rfl) ?_
  change am_At _ _ _ 30 [_, _, _, _, _] [] _ _
  obtain ⟨M4, hw4, hyp⟩ := bd_some hyp
  refine am_At.drop 1 ?_
  refine am_At.drop 2 ?_
  try dsimp only at hyp
  refine eL_X12_trips_30 (d := d) (h := h) g  FU ((0 : Int32), (am_u3 (am_u3 M1 73 0 65 x1) 73 0 64 ((M1 72 0 63) + x2))) M4 hw4 ?_
  change am_At _ _ _ 49 [_, _, _, _, _] [] _ _
  refine am_iconst 0 (v := 0) dX12_trips_49 (by decide) ?_
  refine am_istore_n dX12_trips_50 (am_lb rfl) ?_
  change am_At _ _ _ 51 [_, _, _, _, _] [] _ _
  obtain ⟨e11, hw11, hyp⟩ := bd_some hyp
  rcases e11 with ⟨x3_11, M11⟩ | M11
  · try dsimp only at hyp
    refine eL_X12_trips_51 (d := d) (h := h) g  FU ((0 : Int32), M4) (Sum.inl (x3_11, M11)) hw11 ?_
    change am_At _ _ _ 86 [_, _, _, _, _] [] _ _
    refine am_iload_n dX12_trips_86 rfl ?_
    cases hyp
    exact am_iret dX12_trips_87 rfl
  · try dsimp only at hyp
    refine eL_X12_trips_51 (d := d) (h := h) g  FU ((0 : Int32), M4) (Sum.inr M11) hw11 ?_
    change am_At _ _ _ 140 [_, _, _, _, _] [] _ _
    refine am_iconst (-1) (v := (-1)) dX12_trips_140 (by decide) ?_
    cases hyp
    exact am_iret dX12_trips_141 rfl
theorem eL_X12_walks_12 {d : Nat} {h : am_H} (g : lay h) {x1 x2 x3 : Int32} {r : am_R} (n : Nat) : ∀ (s : Int32 × Mem) (e : Mem), wh (L_X12_walks_12) n s = some e → ((fun (M : Mem) => am_At am_X0 (d + 7) mX12_walks 33 [some (.inr (54, 0)), some (am_I (x1)), some (am_I (x2)), some (am_I (x3)), none, none, none] [] (am_hM h M) r) e) → (match s with | (x4, M) => am_At am_X0 (d + 7) mX12_walks 12 [some (.inr (54, 0)), some (am_I (x1)), some (am_I (x2)), some (am_I (x3)), some (am_I (x4)), none, none] [] (am_hM h M) r) := by
  refine am_wh (At := fun (s : Int32 × Mem) => match s with | (x4, M) => am_At am_X0 (d + 7) mX12_walks 12 [some (.inr (54, 0)), some (am_I (x1)), some (am_I (x2)), some (am_I (x3)), some (am_I (x4)), none, none] [] (am_hM h M) r) (Ex := fun (e : Mem) => (fun (M : Mem) => am_At am_X0 (d + 7) mX12_walks 33 [some (.inr (54, 0)), some (am_I (x1)), some (am_I (x2)), some (am_I (x3)), none, none, none] [] (am_hM h M) r) e) ?_ n
  rintro ⟨x4, M⟩ y hyp hx
  unfold L_X12_walks_12 at hyp
  try dsimp only at hyp
  change am_At _ _ _ 12 [_, _, _, _, _, _, _] [] _ _
  refine am_iload dX12_walks_12 rfl ?_
  refine am_bipush 16 (v := 16) dX12_walks_14 (by decide) ?_
  refine am_icmp_ge (17) 33 dX12_walks_16 rfl ?_ ?_
  · intro hc2
    have hc2 : (16 : Int32) ≤ x4 := hc2
    replace hyp := it_pos hc2 hyp
    cases hyp
    refine am_At.drop 4 ?_
    exact hx
  · intro hc2n
    have hc2n : ¬ ((16 : Int32) ≤ x4) := hc2n
    replace hyp := it_neg hc2n hyp
    refine am_aload_n dX12_walks_19 rfl ?_
    refine am_getR 12 47 81 dX12_walks_20 fg_X12_94 (sh_54 g) (by decide) rfl (rf_54_47 g) ?_
    refine am_iload dX12_walks_23 rfl ?_
    refine am_iconst (-1) (v := (-1)) dX12_walks_25 (by decide) ?_
    obtain ⟨hg3, hyp⟩ := gd_some hyp
    refine am_iast dX12_walks_26 (am_ia.one (sh_81 g)) (am_lit hg3) ?_
    refine am_iinc dX12_walks_27 rfl (am_ix _) ?_
    change am_At _ _ _ 30 [_, _, _, _, _, _, _] [] _ _
    refine am_goto (-18) 12 dX12_walks_30 rfl ?_
    cases hyp
    exact hx
theorem eL_X12_walks_135 {d : Nat} {h : am_H} (g : lay h) {x2 x3 x4 x5 : Int32} {r : am_R} (n : Nat) : ∀ (s : Int32 × Mem) (e : Mem), wh (L_X12_walks_135 x4 x5) n s = some e → ((fun (M : Mem) => am_At am_X0 (d + 7) mX12_walks 194 [some (.inr (54, 0)), none, some (am_I (x2)), some (am_I (x3)), some (am_I (x4)), some (am_I (x5)), none] [] (am_hM h M) r) e) → (match s with | (x6, M) => am_At am_X0 (d + 7) mX12_walks 135 [some (.inr (54, 0)), none, some (am_I (x2)), some (am_I (x3)), some (am_I (x4)), some (am_I (x5)), some (am_I (x6))] [] (am_hM h M) r) := by
  refine am_wh (At := fun (s : Int32 × Mem) => match s with | (x6, M) => am_At am_X0 (d + 7) mX12_walks 135 [some (.inr (54, 0)), none, some (am_I (x2)), some (am_I (x3)), some (am_I (x4)), some (am_I (x5)), some (am_I (x6))] [] (am_hM h M) r) (Ex := fun (e : Mem) => (fun (M : Mem) => am_At am_X0 (d + 7) mX12_walks 194 [some (.inr (54, 0)), none, some (am_I (x2)), some (am_I (x3)), some (am_I (x4)), some (am_I (x5)), none] [] (am_hM h M) r) e) ?_ n
  rintro ⟨x6, M⟩ y hyp hx
  unfold L_X12_walks_135 at hyp
  try dsimp only at hyp
  change am_At _ _ _ 135 [_, _, _, _, _, _, _] [] _ _
  refine am_iload dX12_walks_135 rfl ?_
  refine am_aload_n dX12_walks_137 rfl ?_
  refine am_getR 12 12 58 dX12_walks_138 fg_X12_23 (sh_54 g) (by decide) rfl (rf_54_12 g) ?_
  refine am_iconst 0 (v := 0) dX12_walks_141 (by decide) ?_
  refine am_iald dX12_walks_142 (am_ia.one (sh_58 g)) (am_lit rfl) ?_
  refine am_iconst 1 (v := 1) dX12_walks_143 (by decide) ?_
  refine am_isub dX12_walks_144 ?_
  refine am_iload dX12_walks_145 rfl ?_
  refine am_iconst 2 (v := 2) dX12_walks_147 (by decide) ?_
  refine am_iadd dX12_walks_148 ?_
  refine am_callS (c := 0) (k := 0) (n := 0) (w := 0) [_, _] dX12_walks_149 ml_X12_239 sm_X12_less rfl (fun _ => Nat.le_of_ble_eq_true rfl) (by omega) rfl (ef_X12_less (d := d + 6) (h := am_hM h M) (x0 := ((M 58 0 0) - (1 : Int32))) (x1 := (x5 + (2 : Int32)))  rfl) rfl ?_
  change am_At _ _ _ 152 [_, _, _, _, _, _, _] [_, _] _ _
  refine am_icmp_gt (42) 194 dX12_walks_152 rfl ?_ ?_
  · intro hc14
    have hc14 : (f_X12_less ((M 58 0 0) - (1 : Int32)) (x5 + (2 : Int32))) < x6 := hc14
    replace hyp := it_pos hc14 hyp
    cases hyp
    refine am_At.drop 6 ?_
    exact hx
  · intro hc14n
    have hc14n : ¬ ((f_X12_less ((M 58 0 0) - (1 : Int32)) (x5 + (2 : Int32))) < x6) := hc14n
    replace hyp := it_neg hc14n hyp
    refine am_aload_n dX12_walks_155 rfl ?_
    refine am_getR 12 47 81 dX12_walks_156 fg_X12_94 (sh_54 g) (by decide) rfl (rf_54_47 g) ?_
    refine am_iload dX12_walks_159 rfl ?_
    refine am_aload_n dX12_walks_161 rfl ?_
    refine am_getR 12 47 81 dX12_walks_162 fg_X12_94 (sh_54 g) (by decide) rfl (rf_54_47 g) ?_
    refine am_iload dX12_walks_165 rfl ?_
    obtain ⟨hg15, hyp⟩ := gd_some hyp
    refine am_iald dX12_walks_167 (am_ia.one (sh_81 g)) (am_lit hg15) ?_
    refine am_iload dX12_walks_168 rfl ?_
    refine am_icmp_ne (10) 180 dX12_walks_170 rfl ?_ ?_
    · intro hc16n
      have hc16n : ¬ ((M 81 0 x6.toNatClampNeg) = x4) := hc16n
      replace hyp := it_neg hc16n hyp
      refine am_aload_n dX12_walks_180 rfl ?_
      refine am_getR 12 47 81 dX12_walks_181 fg_X12_94 (sh_54 g) (by decide) rfl (rf_54_47 g) ?_
      refine am_iload dX12_walks_184 rfl ?_
      obtain ⟨hg17, hyp⟩ := gd_some hyp
      refine am_iald dX12_walks_186 (am_ia.one (sh_81 g)) (am_lit hg17) ?_
      refine am_iast dX12_walks_187 (am_ia.one (sh_81 g)) (am_lit hg17) ?_
      refine am_iinc dX12_walks_188 rfl (am_ix _) ?_
      change am_At _ _ _ 191 [_, _, _, _, _, _, _] [] _ _
      refine am_goto (-56) 135 dX12_walks_191 rfl ?_
      cases hyp
      exact hx
    · intro hc16
      have hc16 : (M 81 0 x6.toNatClampNeg) = x4 := hc16
      replace hyp := it_pos hc16 hyp
      refine am_iload dX12_walks_173 rfl ?_
      refine am_iconst 1 (v := 1) dX12_walks_175 (by decide) ?_
      refine am_iadd dX12_walks_176 ?_
      refine am_goto (10) 187 dX12_walks_177 rfl ?_
      obtain ⟨hg18, hyp⟩ := gd_some hyp
      refine am_iast dX12_walks_187 (am_ia.one (sh_81 g)) (am_lit hg18) ?_
      refine am_iinc dX12_walks_188 rfl (am_ix _) ?_
      change am_At _ _ _ 191 [_, _, _, _, _, _, _] [] _ _
      refine am_goto (-56) 135 dX12_walks_191 rfl ?_
      cases hyp
      exact hx
theorem eL_X12_walks_78 {d : Nat} {h : am_H} (g : lay h) {x2 x3 x4 : Int32} {r : am_R} (n : Nat) : ∀ (s : Int32 × Mem) (e : Mem), wh (L_X12_walks_78 x2 x3 x4) n s = some e → ((fun (M : Mem) => am_At am_X0 (d + 7) mX12_walks 200 [some (.inr (54, 0)), none, some (am_I (x2)), some (am_I (x3)), some (am_I (x4)), none, none] [] (am_hM h M) r) e) → (match s with | (x5, M) => am_At am_X0 (d + 7) mX12_walks 78 [some (.inr (54, 0)), none, some (am_I (x2)), some (am_I (x3)), some (am_I (x4)), some (am_I (x5)), none] [] (am_hM h M) r) := by
  refine am_wh (At := fun (s : Int32 × Mem) => match s with | (x5, M) => am_At am_X0 (d + 7) mX12_walks 78 [some (.inr (54, 0)), none, some (am_I (x2)), some (am_I (x3)), some (am_I (x4)), some (am_I (x5)), none] [] (am_hM h M) r) (Ex := fun (e : Mem) => (fun (M : Mem) => am_At am_X0 (d + 7) mX12_walks 200 [some (.inr (54, 0)), none, some (am_I (x2)), some (am_I (x3)), some (am_I (x4)), none, none] [] (am_hM h M) r) e) ?_ n
  rintro ⟨x5, M⟩ y hyp hx
  unfold L_X12_walks_78 at hyp
  try dsimp only at hyp
  change am_At _ _ _ 78 [_, _, _, _, _, _, _] [] _ _
  refine am_iload dX12_walks_78 rfl ?_
  refine am_aload_n dX12_walks_80 rfl ?_
  refine am_getR 12 12 58 dX12_walks_81 fg_X12_23 (sh_54 g) (by decide) rfl (rf_54_12 g) ?_
  refine am_iconst 0 (v := 0) dX12_walks_84 (by decide) ?_
  refine am_iald dX12_walks_85 (am_ia.one (sh_58 g)) (am_lit rfl) ?_
  refine am_icmp_ge (114) 200 dX12_walks_86 rfl ?_ ?_
  · intro hc9
    have hc9 : (M 58 0 0) ≤ x5 := hc9
    replace hyp := it_pos hc9 hyp
    cases hyp
    refine am_At.drop 5 ?_
    exact hx
  · intro hc9n
    have hc9n : ¬ ((M 58 0 0) ≤ x5) := hc9n
    replace hyp := it_neg hc9n hyp
    refine am_aload_n dX12_walks_89 rfl ?_
    refine am_getR 12 47 81 dX12_walks_90 fg_X12_94 (sh_54 g) (by decide) rfl (rf_54_47 g) ?_
    refine am_iload dX12_walks_93 rfl ?_
    obtain ⟨hg10, hyp⟩ := gd_some hyp
    refine am_iald dX12_walks_95 (am_ia.one (sh_81 g)) (am_lit hg10) ?_
    refine am_iconst (-1) (v := (-1)) dX12_walks_96 (by decide) ?_
    refine am_icmp_ne (97) 194 dX12_walks_97 rfl ?_ ?_
    · intro hc11n
      have hc11n : ¬ ((M 81 0 x5.toNatClampNeg) = (-1 : Int32)) := hc11n
      replace hyp := it_neg hc11n hyp
      refine am_iinc dX12_walks_194 rfl (am_ix _) ?_
      change am_At _ _ _ 197 [_, _, _, _, _, _, _] [] _ _
      refine am_goto (-119) 78 dX12_walks_197 rfl ?_
      cases hyp
      exact hx
    · intro hc11
      have hc11 : (M 81 0 x5.toNatClampNeg) = (-1 : Int32) := hc11
      replace hyp := it_pos hc11 hyp
      refine am_iload_n dX12_walks_100 rfl ?_
      refine am_iload dX12_walks_101 rfl ?_
      refine am_callS (c := 0) (k := 0) (n := 0) (w := 0) [_, _] dX12_walks_103 ml_X12_258 sm_X12_has rfl (fun _ => Nat.le_of_ble_eq_true rfl) (by omega) rfl (ef_X12_has (d := d + 6) (h := am_hM h M) (x0 := x3) (x1 := x5)  rfl) rfl ?_
      change am_At _ _ _ 106 [_, _, _, _, _, _, _] [_] _ _
      refine am_if_ne (88) 194 dX12_walks_106 rfl ?_ ?_
      · intro hc12n
        have hc12n : ¬ ((f_X12_has x3 x5) = 0) := hc12n
        replace hyp := it_neg hc12n hyp
        refine am_iinc dX12_walks_194 rfl (am_ix _) ?_
        change am_At _ _ _ 197 [_, _, _, _, _, _, _] [] _ _
        refine am_goto (-119) 78 dX12_walks_197 rfl ?_
        cases hyp
        exact hx
      · intro hc12
        have hc12 : (f_X12_has x3 x5) = 0 := hc12
        replace hyp := it_pos hc12 hyp
        refine am_aload_n dX12_walks_109 rfl ?_
        refine am_getR 12 14 60 dX12_walks_110 fg_X12_31 (sh_54 g) (by decide) rfl (rf_54_14 g) ?_
        refine am_iload dX12_walks_113 rfl ?_
        refine am_aald dX12_walks_115 (sh_60 g) (am_lit hg10) ?_
        refine am_iconst 1 (v := 1) dX12_walks_116 (by decide) ?_
        refine am_iald dX12_walks_117 (am_ia.row (sh_60 g) (by omega) (am_vlt (am_lit hg10))) (am_lit rfl) ?_
        refine am_iload_n dX12_walks_118 rfl ?_
        refine am_icmp_ge (6) 125 dX12_walks_119 rfl ?_ ?_
        · intro hc13
          have hc13 : x2 ≤ (M 60 (x5.toNatClampNeg + 1) 1) := hc13
          replace hyp := it_pos hc13 hyp
          refine am_iconst 0 (v := 0) dX12_walks_125 (by decide) ?_
          refine am_iload dX12_walks_126 rfl ?_
          refine am_iconst 2 (v := 2) dX12_walks_128 (by decide) ?_
          refine am_isub dX12_walks_129 ?_
          refine am_callS (c := 0) (k := 0) (n := 0) (w := 0) [_, _] dX12_walks_130 ml_X12_242 sm_X12_more rfl (fun _ => Nat.le_of_ble_eq_true rfl) (by omega) rfl (ef_X12_more (d := d + 6) (h := am_hM h M) (x0 := (0 : Int32)) (x1 := (x5 - (2 : Int32)))  rfl) rfl ?_
          change am_At _ _ _ 133 [_, _, _, _, _, _, _] [_] _ _
          refine am_istore dX12_walks_133 (am_lb rfl) ?_
          change am_At _ _ _ 135 [_, _, _, _, _, _, _] [] _ _
          obtain ⟨M19, hw19, hyp⟩ := bd_some hyp
          try dsimp only at hyp
          refine eL_X12_walks_135 (d := d) (h := h) g  FU (f_X12_more (0 : Int32) (x5 - (2 : Int32)), M) M19 hw19 ?_
          change am_At _ _ _ 194 [_, _, _, _, _, _, _] [] _ _
          refine am_iinc dX12_walks_194 rfl (am_ix _) ?_
          change am_At _ _ _ 197 [_, _, _, _, _, _, _] [] _ _
          refine am_goto (-119) 78 dX12_walks_197 rfl ?_
          cases hyp
          exact hx
        · intro hc13n
          have hc13n : ¬ (x2 ≤ (M 60 (x5.toNatClampNeg + 1) 1)) := hc13n
          replace hyp := it_neg hc13n hyp
          refine am_goto (72) 194 dX12_walks_122 rfl ?_
          refine am_iinc dX12_walks_194 rfl (am_ix _) ?_
          change am_At _ _ _ 197 [_, _, _, _, _, _, _] [] _ _
          refine am_goto (-119) 78 dX12_walks_197 rfl ?_
          cases hyp
          exact hx
theorem eL_X12_walks_64 {d : Nat} {h : am_H} (g : lay h) {x2 x3 : Int32} {r : am_R} (n : Nat) : ∀ (s : Int32 × Mem) (e : Mem), wh (L_X12_walks_64 x2 x3) n s = some e → ((fun (M : Mem) => am_At am_X0 (d + 7) mX12_walks 206 [some (.inr (54, 0)), none, some (am_I (x2)), some (am_I (x3)), none, none, none] [] (am_hM h M) r) e) → (match s with | (x4, M) => am_At am_X0 (d + 7) mX12_walks 64 [some (.inr (54, 0)), none, some (am_I (x2)), some (am_I (x3)), some (am_I (x4)), none, none] [] (am_hM h M) r) := by
  refine am_wh (At := fun (s : Int32 × Mem) => match s with | (x4, M) => am_At am_X0 (d + 7) mX12_walks 64 [some (.inr (54, 0)), none, some (am_I (x2)), some (am_I (x3)), some (am_I (x4)), none, none] [] (am_hM h M) r) (Ex := fun (e : Mem) => (fun (M : Mem) => am_At am_X0 (d + 7) mX12_walks 206 [some (.inr (54, 0)), none, some (am_I (x2)), some (am_I (x3)), none, none, none] [] (am_hM h M) r) e) ?_ n
  rintro ⟨x4, M⟩ y hyp hx
  unfold L_X12_walks_64 at hyp
  try dsimp only at hyp
  change am_At _ _ _ 64 [_, _, _, _, _, _, _] [] _ _
  refine am_iload dX12_walks_64 rfl ?_
  refine am_aload_n dX12_walks_66 rfl ?_
  refine am_getR 12 12 58 dX12_walks_67 fg_X12_23 (sh_54 g) (by decide) rfl (rf_54_12 g) ?_
  refine am_iconst 0 (v := 0) dX12_walks_70 (by decide) ?_
  refine am_iald dX12_walks_71 (am_ia.one (sh_58 g)) (am_lit rfl) ?_
  refine am_icmp_gt (134) 206 dX12_walks_72 rfl ?_ ?_
  · intro hc8
    have hc8 : (M 58 0 0) < x4 := hc8
    replace hyp := it_pos hc8 hyp
    cases hyp
    refine am_At.drop 4 ?_
    exact hx
  · intro hc8n
    have hc8n : ¬ ((M 58 0 0) < x4) := hc8n
    replace hyp := it_neg hc8n hyp
    refine am_iconst 0 (v := 0) dX12_walks_75 (by decide) ?_
    refine am_istore dX12_walks_76 (am_lb rfl) ?_
    change am_At _ _ _ 78 [_, _, _, _, _, _, _] [] _ _
    obtain ⟨M20, hw20, hyp⟩ := bd_some hyp
    try dsimp only at hyp
    refine eL_X12_walks_78 (d := d) (h := h) g  FU ((0 : Int32), M) M20 hw20 ?_
    change am_At _ _ _ 200 [_, _, _, _, _, _, _] [] _ _
    refine am_iinc dX12_walks_200 rfl (am_ix _) ?_
    change am_At _ _ _ 203 [_, _, _, _, _, _, _] [] _ _
    refine am_goto (-139) 64 dX12_walks_203 rfl ?_
    cases hyp
    exact hx
theorem ef_X12_walks {d : Nat} {h : am_H} (g : lay h) {x1 x2 : Int32} {M : Mem} {M' : Mem} (hyp : f_X12_walks x1 x2 M = some M') : am_Ev (d + 7) mX12_walks [.inr (54, 0), am_I x1, am_I x2] (am_hM h M) (.inl (none, am_hM h M')) := by
  unfold f_X12_walks at hyp
  refine am_Ev.mk (by decide +kernel) rfl rfl (Nat.le_refl _) (Nat.le_refl _) ?_
  change am_At _ _ _ 0 [_, _, _, _, _, _, _] [] _ _
  refine am_aload_n dX12_walks_0 rfl ?_
  refine am_aload_n dX12_walks_1 rfl ?_
  refine am_getR 12 29 72 dX12_walks_2 fg_X12_67 (sh_54 g) (by decide) rfl (rf_54_29 g) ?_
  obtain ⟨⟨v1, M1⟩, hk1, hyp⟩ := bd_some hyp
  try dsimp only at hyp
  refine am_callV [_] dX12_walks_5 ml_X12_276 vm_X12_openBits (sh_54 g) rfl (fun _ => Nat.le_of_ble_eq_true rfl) (by omega) rfl (ef_X12_openBits_72 (d := d + 0) (h := h) g hk1) rfl ?_
  change am_At _ _ _ 8 [_, _, _, _, _, _, _] [_] _ _
  refine am_istore_n dX12_walks_8 (am_lb rfl) ?_
  change am_At _ _ _ 9 [_, _, _, _, _, _, _] [] _ _
  refine am_iconst 0 (v := 0) dX12_walks_9 (by decide) ?_
  refine am_istore dX12_walks_10 (am_lb rfl) ?_
  change am_At _ _ _ 12 [_, _, _, _, _, _, _] [] _ _
  obtain ⟨M4, hw4, hyp⟩ := bd_some hyp
  try dsimp only at hyp
  refine eL_X12_walks_12 (d := d) (h := h) g  FU ((0 : Int32), M1) M4 hw4 ?_
  change am_At _ _ _ 33 [_, _, _, _, _, _, _] [] _ _
  refine am_iload_n dX12_walks_33 rfl ?_
  refine am_iload_n dX12_walks_34 rfl ?_
  refine am_callS (c := 0) (k := 0) (n := 0) (w := 0) [_, _] dX12_walks_35 ml_X12_258 sm_X12_has rfl (fun _ => Nat.le_of_ble_eq_true rfl) (by omega) rfl (ef_X12_has (d := d + 6) (h := am_hM h M4) (x0 := v1) (x1 := x1)  rfl) rfl ?_
  change am_At _ _ _ 38 [_, _, _, _, _, _, _] [_] _ _
  refine am_if_ne (15) 53 dX12_walks_38 rfl ?_ ?_
  · intro hc5n
    have hc5n : ¬ ((f_X12_has v1 x1) = 0) := hc5n
    replace hyp := it_neg hc5n hyp
    cases hyp
    exact am_vret dX12_walks_53 rfl
  · intro hc5
    have hc5 : (f_X12_has v1 x1) = 0 := hc5
    replace hyp := it_pos hc5 hyp
    refine am_aload_n dX12_walks_41 rfl ?_
    refine am_getR 12 14 60 dX12_walks_42 fg_X12_31 (sh_54 g) (by decide) rfl (rf_54_14 g) ?_
    refine am_iload_n dX12_walks_45 rfl ?_
    obtain ⟨hg6, hyp⟩ := gd_some hyp
    refine am_aald dX12_walks_46 (sh_60 g) (am_lit hg6) ?_
    refine am_iconst 1 (v := 1) dX12_walks_47 (by decide) ?_
    refine am_iald dX12_walks_48 (am_ia.row (sh_60 g) (by omega) (am_vlt (am_lit hg6))) (am_lit rfl) ?_
    refine am_iload_n dX12_walks_49 rfl ?_
    refine am_icmp_ge (4) 54 dX12_walks_50 rfl ?_ ?_
    · intro hc7
      have hc7 : x2 ≤ (M4 60 (x1.toNatClampNeg + 1) 1) := hc7
      replace hyp := it_pos hc7 hyp
      refine am_aload_n dX12_walks_54 rfl ?_
      refine am_getR 12 47 81 dX12_walks_55 fg_X12_94 (sh_54 g) (by decide) rfl (rf_54_47 g) ?_
      refine am_iload_n dX12_walks_58 rfl ?_
      refine am_iconst 1 (v := 1) dX12_walks_59 (by decide) ?_
      refine am_iast dX12_walks_60 (am_ia.one (sh_81 g)) (am_lit hg6) ?_
      refine am_iconst 1 (v := 1) dX12_walks_61 (by decide) ?_
      refine am_istore dX12_walks_62 (am_lb rfl) ?_
      change am_At _ _ _ 64 [_, _, _, _, _, _, _] [] _ _
      obtain ⟨M21, hw21, hyp⟩ := bd_some hyp
      refine am_At.drop 1 ?_
      try dsimp only at hyp
      refine eL_X12_walks_64 (d := d) (h := h) g  FU ((1 : Int32), (am_u3 M4 81 0 x1.toNatClampNeg (1 : Int32))) M21 hw21 ?_
      change am_At _ _ _ 206 [_, _, _, _, _, _, _] [] _ _
      cases hyp
      exact am_vret dX12_walks_206 rfl
    · intro hc7n
      have hc7n : ¬ (x2 ≤ (M4 60 (x1.toNatClampNeg + 1) 1)) := hc7n
      replace hyp := it_neg hc7n hyp
      cases hyp
      exact am_vret dX12_walks_53 rfl
theorem eL_X12_wintersBy_31 {d : Nat} {h : am_H} (g : lay h) {x2 x3 x4 : Int32} {r : am_R} (n : Nat) : ∀ (s : Int32 × Mem) (e : Mem), wh (L_X12_wintersBy_31 x2) n s = some e → ((fun (M : Mem) => am_At am_X0 (d + 8) mX12_wintersBy 95 [some (.inr (54, 0)), none, some (am_I (x2)), some (am_I (x3)), some (am_I (x4)), none] [] (am_hM h M) r) e) → (match s with | (x5, M) => am_At am_X0 (d + 8) mX12_wintersBy 31 [some (.inr (54, 0)), none, some (am_I (x2)), some (am_I (x3)), some (am_I (x4)), some (am_I (x5))] [] (am_hM h M) r) := by
  refine am_wh (At := fun (s : Int32 × Mem) => match s with | (x5, M) => am_At am_X0 (d + 8) mX12_wintersBy 31 [some (.inr (54, 0)), none, some (am_I (x2)), some (am_I (x3)), some (am_I (x4)), some (am_I (x5))] [] (am_hM h M) r) (Ex := fun (e : Mem) => (fun (M : Mem) => am_At am_X0 (d + 8) mX12_wintersBy 95 [some (.inr (54, 0)), none, some (am_I (x2)), some (am_I (x3)), some (am_I (x4)), none] [] (am_hM h M) r) e) ?_ n
  rintro ⟨x5, M⟩ y hyp hx
  unfold L_X12_wintersBy_31 at hyp
  try dsimp only at hyp
  change am_At _ _ _ 31 [_, _, _, _, _, _] [] _ _
  refine am_iload dX12_wintersBy_31 rfl ?_
  refine am_aload_n dX12_wintersBy_33 rfl ?_
  refine am_getR 12 12 58 dX12_wintersBy_34 fg_X12_23 (sh_54 g) (by decide) rfl (rf_54_12 g) ?_
  refine am_iconst 0 (v := 0) dX12_wintersBy_37 (by decide) ?_
  refine am_iald dX12_wintersBy_38 (am_ia.one (sh_58 g)) (am_lit rfl) ?_
  refine am_icmp_ge (56) 95 dX12_wintersBy_39 rfl ?_ ?_
  · intro hc3
    have hc3 : (M 58 0 0) ≤ x5 := hc3
    replace hyp := it_pos hc3 hyp
    cases hyp
    refine am_At.drop 5 ?_
    exact hx
  · intro hc3n
    have hc3n : ¬ ((M 58 0 0) ≤ x5) := hc3n
    replace hyp := it_neg hc3n hyp
    refine am_aload_n dX12_wintersBy_42 rfl ?_
    refine am_aload_n dX12_wintersBy_43 rfl ?_
    refine am_getI 12 48 dX12_wintersBy_44 fg_X12_369 (sh_54 g) (by decide) rfl ?_
    refine am_ldcW dX12_wintersBy_47 kc_X12_375 ?_
    refine am_imul dX12_wintersBy_50 ?_
    refine am_sipush 12345 (v := 12345) dX12_wintersBy_51 (by decide) ?_
    refine am_iadd dX12_wintersBy_54 ?_
    refine am_putI 12 48 dX12_wintersBy_55 (Or.inl fp_X12_369) (sh_54 g) (by decide) rfl rfl rfl ?_
    refine am_aload_n dX12_wintersBy_58 rfl ?_
    refine am_dup dX12_wintersBy_59 (fun _ => rfl) ?_
    refine am_getI 12 39 dX12_wintersBy_60 fg_X12_280 (sh_54 g) (by decide) rfl ?_
    refine am_aload_n dX12_wintersBy_63 rfl ?_
    refine am_getI 12 48 dX12_wintersBy_64 fg_X12_369 (sh_54 g) (by decide) rfl ?_
    refine am_bipush 16 (v := 16) dX12_wintersBy_67 (by decide) ?_
    refine am_ishr dX12_wintersBy_69 ?_
    refine am_bipush 15 (v := 15) dX12_wintersBy_70 (by decide) ?_
    refine am_iand dX12_wintersBy_72 ?_
    refine am_iload_n dX12_wintersBy_73 rfl ?_
    refine am_icmp_ge (10) 84 dX12_wintersBy_74 rfl ?_ ?_
    · intro hc4
      have hc4 : x2 ≤ (((((M 54 0 48) * (1103515245 : Int32)) + (12345 : Int32)) >>> ((16 : Int32) &&& 31)) &&& (15 : Int32)) := hc4
      replace hyp := it_pos hc4 hyp
      refine am_iconst 0 (v := 0) dX12_wintersBy_84 (by decide) ?_
      refine am_ior dX12_wintersBy_85 ?_
      refine am_putI 12 39 dX12_wintersBy_86 (Or.inl fp_X12_280) (sh_54 g) (by decide) rfl rfl rfl ?_
      refine am_iinc dX12_wintersBy_89 rfl (am_ix _) ?_
      change am_At _ _ _ 92 [_, _, _, _, _, _] [] _ _
      refine am_goto (-61) 31 dX12_wintersBy_92 rfl ?_
      cases hyp
      exact hx
    · intro hc4n
      have hc4n : ¬ (x2 ≤ (((((M 54 0 48) * (1103515245 : Int32)) + (12345 : Int32)) >>> ((16 : Int32) &&& 31)) &&& (15 : Int32))) := hc4n
      replace hyp := it_neg hc4n hyp
      refine am_iconst 1 (v := 1) dX12_wintersBy_77 (by decide) ?_
      refine am_iload dX12_wintersBy_78 rfl ?_
      refine am_ishl dX12_wintersBy_80 ?_
      refine am_goto (4) 85 dX12_wintersBy_81 rfl ?_
      refine am_ior dX12_wintersBy_85 ?_
      refine am_putI 12 39 dX12_wintersBy_86 (Or.inl fp_X12_280) (sh_54 g) (by decide) rfl rfl rfl ?_
      refine am_iinc dX12_wintersBy_89 rfl (am_ix _) ?_
      change am_At _ _ _ 92 [_, _, _, _, _, _] [] _ _
      refine am_goto (-61) 31 dX12_wintersBy_92 rfl ?_
      cases hyp
      exact hx
theorem eL_X12_wintersBy_17 {d : Nat} {h : am_H} (g : lay h) {x2 x3 : Int32} {r : am_R} (n : Nat) : ∀ (s : Int32 × Mem) (e : Mem), wh (L_X12_wintersBy_17 x2 x3) n s = some e → ((fun (M : Mem) => am_At am_X0 (d + 8) mX12_wintersBy 134 [some (.inr (54, 0)), none, some (am_I (x2)), some (am_I (x3)), none, none] [] (am_hM h M) r) e) → (match s with | (x4, M) => am_At am_X0 (d + 8) mX12_wintersBy 17 [some (.inr (54, 0)), none, some (am_I (x2)), some (am_I (x3)), some (am_I (x4)), none] [] (am_hM h M) r) := by
  refine am_wh (At := fun (s : Int32 × Mem) => match s with | (x4, M) => am_At am_X0 (d + 8) mX12_wintersBy 17 [some (.inr (54, 0)), none, some (am_I (x2)), some (am_I (x3)), some (am_I (x4)), none] [] (am_hM h M) r) (Ex := fun (e : Mem) => (fun (M : Mem) => am_At am_X0 (d + 8) mX12_wintersBy 134 [some (.inr (54, 0)), none, some (am_I (x2)), some (am_I (x3)), none, none] [] (am_hM h M) r) e) ?_ n
  rintro ⟨x4, M⟩ y hyp hx
  unfold L_X12_wintersBy_17 at hyp
  try dsimp only at hyp
  change am_At _ _ _ 17 [_, _, _, _, _, _] [] _ _
  refine am_iload dX12_wintersBy_17 rfl ?_
  refine am_iload_n dX12_wintersBy_19 rfl ?_
  refine am_icmp_ge (114) 134 dX12_wintersBy_20 rfl ?_ ?_
  · intro hc2
    have hc2 : x3 ≤ x4 := hc2
    replace hyp := it_pos hc2 hyp
    cases hyp
    refine am_At.drop 4 ?_
    exact hx
  · intro hc2n
    have hc2n : ¬ (x3 ≤ x4) := hc2n
    replace hyp := it_neg hc2n hyp
    refine am_aload_n dX12_wintersBy_23 rfl ?_
    refine am_iconst 0 (v := 0) dX12_wintersBy_24 (by decide) ?_
    refine am_putI 12 39 dX12_wintersBy_25 (Or.inl fp_X12_280) (sh_54 g) (by decide) rfl rfl rfl ?_
    refine am_iconst 0 (v := 0) dX12_wintersBy_28 (by decide) ?_
    refine am_istore dX12_wintersBy_29 (am_lb rfl) ?_
    change am_At _ _ _ 31 [_, _, _, _, _, _] [] _ _
    obtain ⟨M5, hw5, hyp⟩ := bd_some hyp
    try dsimp only at hyp
    refine eL_X12_wintersBy_31 (d := d) (h := h) g  FU ((0 : Int32), (am_u3 M 54 0 39 (0 : Int32))) M5 hw5 ?_
    change am_At _ _ _ 95 [_, _, _, _, _, _] [] _ _
    refine am_aload_n dX12_wintersBy_95 rfl ?_
    refine am_dup dX12_wintersBy_96 (fun _ => rfl) ?_
    refine am_getI 12 49 dX12_wintersBy_97 fg_X12_372 (sh_54 g) (by decide) rfl ?_
    refine am_aload_n dX12_wintersBy_100 rfl ?_
    refine am_aload_n dX12_wintersBy_101 rfl ?_
    refine am_getR 12 30 73 dX12_wintersBy_102 fg_X12_70 (sh_54 g) (by decide) rfl (rf_54_30 g) ?_
    obtain ⟨⟨v6, M6⟩, hk6, hyp⟩ := bd_some hyp
    try dsimp only at hyp
    refine am_callV [_] dX12_wintersBy_105 ml_X12_276 vm_X12_openBits (sh_54 g) rfl (fun _ => Nat.le_of_ble_eq_true rfl) (by omega) rfl (ef_X12_openBits_73 (d := d + 1) (h := h) g hk6) rfl ?_
    change am_At _ _ _ 108 [_, _, _, _, _, _] [_, _, _] _ _
    refine am_aload_n dX12_wintersBy_108 rfl ?_
    refine am_getI 12 39 dX12_wintersBy_109 fg_X12_280 (sh_54 g) (by decide) rfl ?_
    refine am_iand dX12_wintersBy_112 ?_
    obtain ⟨v7, hk7, hyp⟩ := bd_some hyp
    try dsimp only at hyp
    refine am_callS (c := 0) (k := 0) (n := 0) (w := 0) [_] dX12_wintersBy_113 ml_X12_318 sm_X12_ones rfl (fun _ => Nat.le_of_ble_eq_true rfl) (by omega) rfl (ef_X12_ones (d := d + 7) (h := am_hM h M6) hk7) rfl ?_
    change am_At _ _ _ 116 [_, _, _, _, _, _] [_, _, _] _ _
    refine am_iadd dX12_wintersBy_116 ?_
    refine am_putI 12 49 dX12_wintersBy_117 (Or.inl fp_X12_372) (sh_54 g) (by decide) rfl rfl rfl ?_
    refine am_aload_n dX12_wintersBy_120 rfl ?_
    refine am_aload_n dX12_wintersBy_121 rfl ?_
    refine am_getR 12 30 73 dX12_wintersBy_122 fg_X12_70 (sh_54 g) (by decide) rfl (rf_54_30 g) ?_
    obtain ⟨M8, hk8, hyp⟩ := bd_some hyp
    try dsimp only at hyp
    refine am_callV [_] dX12_wintersBy_125 ml_X12_297 vm_X12_hourEnds (sh_54 g) rfl (fun _ => Nat.le_of_ble_eq_true rfl) (by omega) rfl (ef_X12_hourEnds_73 (d := d + 0) (h := h) g hk8) rfl ?_
    change am_At _ _ _ 128 [_, _, _, _, _, _] [] _ _
    refine am_iinc dX12_wintersBy_128 rfl (am_ix _) ?_
    change am_At _ _ _ 131 [_, _, _, _, _, _] [] _ _
    refine am_goto (-114) 17 dX12_wintersBy_131 rfl ?_
    cases hyp
    exact hx
theorem ef_X12_wintersBy {d : Nat} {h : am_H} (g : lay h) {x1 x2 x3 : Int32} {M : Mem} {M' : Mem} (hyp : f_X12_wintersBy x1 x2 x3 M = some M') : am_Ev (d + 8) mX12_wintersBy [.inr (54, 0), am_I x1, am_I x2, am_I x3] (am_hM h M) (.inl (none, am_hM h M')) := by
  unfold f_X12_wintersBy at hyp
  refine am_Ev.mk (by decide +kernel) rfl rfl (Nat.le_refl _) (Nat.le_refl _) ?_
  change am_At _ _ _ 0 [_, _, _, _, _, _] [] _ _
  refine am_aload_n dX12_wintersBy_0 rfl ?_
  obtain ⟨M1, hk1, hyp⟩ := bd_some hyp
  try dsimp only at hyp
  refine am_callV [] dX12_wintersBy_1 ml_X12_333 vm_X12_tries (sh_54 g) rfl (fun _ => Nat.le_of_ble_eq_true rfl) (by omega) rfl (ef_X12_tries (d := d + 6) (h := h) g hk1) rfl ?_
  change am_At _ _ _ 4 [_, _, _, _, _, _] [] _ _
  refine am_aload_n dX12_wintersBy_4 rfl ?_
  refine am_iload_n dX12_wintersBy_5 rfl ?_
  refine am_putI 12 48 dX12_wintersBy_6 (Or.inl fp_X12_369) (sh_54 g) (by decide) rfl rfl rfl ?_
  refine am_aload_n dX12_wintersBy_9 rfl ?_
  refine am_iconst 0 (v := 0) dX12_wintersBy_10 (by decide) ?_
  refine am_putI 12 49 dX12_wintersBy_11 (Or.inl fp_X12_372) (sh_54 g) (by decide) rfl rfl rfl ?_
  refine am_iconst 0 (v := 0) dX12_wintersBy_14 (by decide) ?_
  refine am_istore dX12_wintersBy_15 (am_lb rfl) ?_
  change am_At _ _ _ 17 [_, _, _, _, _, _] [] _ _
  obtain ⟨M9, hw9, hyp⟩ := bd_some hyp
  refine am_At.drop 1 ?_
  try dsimp only at hyp
  refine eL_X12_wintersBy_17 (d := d) (h := h) g  FU ((0 : Int32), (am_u3 (am_u3 M1 54 0 48 x1) 54 0 49 (0 : Int32))) M9 hw9 ?_
  change am_At _ _ _ 134 [_, _, _, _, _, _] [] _ _
  refine am_aload_n dX12_wintersBy_134 rfl ?_
  refine am_iconst 0 (v := 0) dX12_wintersBy_135 (by decide) ?_
  refine am_putI 12 39 dX12_wintersBy_136 (Or.inl fp_X12_280) (sh_54 g) (by decide) rfl rfl rfl ?_
  cases hyp
  exact am_vret dX12_wintersBy_139 rfl
theorem eL_X12_work_72 {d : Nat} {h : am_H} (g : lay h) {r : am_R} (n : Nat) : ∀ (s : Mem) (e : Mem), wh (L_X12_work_72) n s = some e → ((fun (M : Mem) => am_At am_X0 (d + 39) mX12_work 101 [some (.inr (54, 0)), none] [] (am_hM h M) r) e) → ((fun (M : Mem) => am_At am_X0 (d + 39) mX12_work 72 [some (.inr (54, 0)), none] [] (am_hM h M) r) s) := by
  refine am_wh (At := fun (s : Mem) => (fun (M : Mem) => am_At am_X0 (d + 39) mX12_work 72 [some (.inr (54, 0)), none] [] (am_hM h M) r) s) (Ex := fun (e : Mem) => (fun (M : Mem) => am_At am_X0 (d + 39) mX12_work 101 [some (.inr (54, 0)), none] [] (am_hM h M) r) e) ?_ n
  rintro M y hyp hx
  unfold L_X12_work_72 at hyp
  try dsimp only at hyp
  change am_At _ _ _ 72 [_, _] [] _ _
  refine am_aload_n dX12_work_72 rfl ?_
  refine am_getI 12 5 dX12_work_73 fg_X12_119 (sh_54 g) (by decide) rfl ?_
  refine am_if_ne (25) 101 dX12_work_76 rfl ?_ ?_
  · intro hc6n
    have hc6n : ¬ ((M 54 0 5) = 0) := hc6n
    replace hyp := it_neg hc6n hyp
    cases hyp
    exact hx
  · intro hc6
    have hc6 : (M 54 0 5) = 0 := hc6
    replace hyp := it_pos hc6 hyp
    refine am_aload_n dX12_work_79 rfl ?_
    refine am_getI 12 4 dX12_work_80 fg_X12_112 (sh_54 g) (by decide) rfl ?_
    refine am_aload_n dX12_work_83 rfl ?_
    refine am_getI 12 2 dX12_work_84 fg_X12_109 (sh_54 g) (by decide) rfl ?_
    refine am_icmp_ge (14) 101 dX12_work_87 rfl ?_ ?_
    · intro hc7
      have hc7 : (M 54 0 2) ≤ (M 54 0 4) := hc7
      replace hyp := it_pos hc7 hyp
      cases hyp
      exact hx
    · intro hc7n
      have hc7n : ¬ ((M 54 0 2) ≤ (M 54 0 4)) := hc7n
      replace hyp := it_neg hc7n hyp
      refine am_aload_n dX12_work_90 rfl ?_
      obtain ⟨M8, hk8, hyp⟩ := bd_some hyp
      try dsimp only at hyp
      refine am_callV [] dX12_work_91 ml_X12_255 vm_X12_readsStep (sh_54 g) rfl (fun _ => Nat.le_of_ble_eq_true rfl) (by omega) rfl (ef_X12_readsStep (d := d + 4) (h := h) g hk8) rfl ?_
      change am_At _ _ _ 94 [_, _] [] _ _
      refine am_aload_n dX12_work_94 rfl ?_
      obtain ⟨M9, hk9, hyp⟩ := bd_some hyp
      try dsimp only at hyp
      refine am_callV [] dX12_work_95 ml_X12_125 vm_X12_blanks (sh_54 g) rfl (fun _ => Nat.le_of_ble_eq_true rfl) (by omega) rfl (ef_X12_blanks (d := d + 37) (h := h) g hk9) rfl ?_
      change am_At _ _ _ 98 [_, _] [] _ _
      refine am_goto (-26) 72 dX12_work_98 rfl ?_
      cases hyp
      exact hx
theorem ef_X12_work {d : Nat} {h : am_H} (g : lay h) {x1 : Int32} {M : Mem} {v : Int32} {M' : Mem} (hyp : f_X12_work x1 M = some (v, M')) : am_Ev (d + 39) mX12_work [.inr (54, 0), am_I x1] (am_hM h M) (.inl (some (am_I v), am_hM h M')) := by
  unfold f_X12_work at hyp
  refine am_Ev.mk (by decide +kernel) rfl rfl (Nat.le_refl _) (Nat.le_refl _) ?_
  change am_At _ _ _ 0 [_, _] [] _ _
  refine am_aload_n dX12_work_0 rfl ?_
  refine am_iconst 0 (v := 0) dX12_work_1 (by decide) ?_
  refine am_putI 12 0 dX12_work_2 (Or.inl fp_X12_103) (sh_54 g) (by decide) rfl rfl rfl ?_
  refine am_aload_n dX12_work_5 rfl ?_
  refine am_iload_n dX12_work_6 rfl ?_
  refine am_iconst 0 (v := 0) dX12_work_7 (by decide) ?_
  refine am_aload_n dX12_work_8 rfl ?_
  refine am_getI 12 1 dX12_work_9 fg_X12_106 (sh_54 g) (by decide) rfl ?_
  refine am_callS (c := 0) (k := 0) (n := 0) (w := 0) [_, _, _] dX12_work_12 ml_X12_137 sm_X12_in rfl (fun _ => Nat.le_of_ble_eq_true rfl) (by omega) rfl (ef_X12_in (d := d + 38) (h := am_hM h (am_u3 M 54 0 0 (0 : Int32))) (x0 := x1) (x1 := (0 : Int32)) (x2 := (M 54 0 1))  rfl) rfl ?_
  change am_At _ _ _ 15 [_, _] [_, _] _ _
  refine am_if_eq (10) 25 dX12_work_15 rfl ?_ ?_
  · intro hc1
    have hc1 : (f_X12_in x1 (0 : Int32) (M 54 0 1)) = 0 := hc1
    replace hyp := it_pos hc1 hyp
    refine am_iconst 1 (v := 1) dX12_work_25 (by decide) ?_
    refine am_goto (4) 30 dX12_work_26 rfl ?_
    refine am_iconst 1 (v := 1) dX12_work_30 (by decide) ?_
    refine am_iconst 1 (v := 1) dX12_work_31 (by decide) ?_
    obtain ⟨⟨v2, M2⟩, hk2, hyp⟩ := bd_some hyp
    try dsimp only at hyp
    refine am_callV [_, _, _] dX12_work_32 ml_X12_179 vm_X12_bad (sh_54 g) rfl (fun _ => Nat.le_of_ble_eq_true rfl) (by omega) rfl (ef_X12_bad (d := d + 38) (h := h) g hk2) rfl ?_
    change am_At _ _ _ 35 [_, _] [_] _ _
    refine am_if_eq (5) 40 dX12_work_35 rfl ?_ ?_
    · intro hc3
      have hc3 : v2 = 0 := hc3
      replace hyp := it_pos hc3 hyp
      refine am_aload_n dX12_work_40 rfl ?_
      refine am_getI 12 35 dX12_work_41 fg_X12_202 (sh_54 g) (by decide) rfl ?_
      refine am_bipush 16 (v := 16) dX12_work_44 (by decide) ?_
      refine am_icmp_ne (16) 62 dX12_work_46 rfl ?_ ?_
      · intro hc4n
        have hc4n : ¬ ((M2 54 0 35) = (16 : Int32)) := hc4n
        replace hyp := it_neg hc4n hyp
        refine am_aload_n dX12_work_62 rfl ?_
        refine am_iload_n dX12_work_63 rfl ?_
        obtain ⟨M5, hk5, hyp⟩ := bd_some hyp
        try dsimp only at hyp
        refine am_callV [_] dX12_work_64 ml_X12_183 vm_X12_starts (sh_54 g) rfl (fun _ => Nat.le_of_ble_eq_true rfl) (by omega) rfl (ef_X12_starts (d := d + 36) (h := h) g hk5) rfl ?_
        change am_At _ _ _ 67 [_, _] [] _ _
        refine am_aload_n dX12_work_67 rfl ?_
        refine am_iconst 0 (v := 0) dX12_work_68 (by decide) ?_
        refine am_putI 12 28 dX12_work_69 (Or.inl fp_X12_252) (sh_54 g) (by decide) rfl rfl rfl ?_
        obtain ⟨M10, hw10, hyp⟩ := bd_some hyp
        refine am_At.drop 1 ?_
        try dsimp only at hyp
        refine eL_X12_work_72 (d := d) (h := h) g  FU (am_u3 M5 54 0 28 (0 : Int32)) M10 hw10 ?_
        change am_At _ _ _ 101 [_, _] [] _ _
        refine am_aload_n dX12_work_101 rfl ?_
        refine am_getI 12 5 dX12_work_102 fg_X12_119 (sh_54 g) (by decide) rfl ?_
        refine am_if_eq (8) 113 dX12_work_105 rfl ?_ ?_
        · intro hc11
          have hc11 : (M10 54 0 5) = 0 := hc11
          replace hyp := it_pos hc11 hyp
          refine am_aload_n dX12_work_113 rfl ?_
          refine am_iconst (-1) (v := (-1)) dX12_work_114 (by decide) ?_
          refine am_putI 12 3 dX12_work_115 (Or.inl fp_X12_9) (sh_54 g) (by decide) rfl rfl rfl ?_
          refine am_aload_n dX12_work_118 rfl ?_
          refine am_getR 12 29 72 dX12_work_119 fg_X12_67 (sh_54 g) (by decide) rfl (rf_54_29 g) ?_
          refine am_aload_n dX12_work_122 rfl ?_
          refine am_getR 12 32 75 dX12_work_123 fg_X12_76 (sh_54 g) (by decide) rfl (rf_54_32 g) ?_
          refine am_aload_n dX12_work_126 rfl ?_
          refine am_getI 12 35 dX12_work_127 fg_X12_202 (sh_54 g) (by decide) rfl ?_
          obtain ⟨hg12, hyp⟩ := gd_some hyp
          refine am_aald dX12_work_130 (sh_75 g) (am_lit hg12) ?_
          obtain ⟨M13, hk13, hyp⟩ := bd_some hyp
          try dsimp only at hyp
          refine am_callS (c := 0) (k := 0) (n := 0) (w := 0) [_, _] dX12_work_131 ml_X12_314 sm_X12_copies rfl (fun _ => Nat.le_of_ble_eq_true rfl) (by omega) rfl (ef_X12_copies_b (d := d + 38) (h := h) g ⟨Nat.succ_pos _, am_vlt (am_lit hg12)⟩ hk13) rfl ?_
          change am_At _ _ _ 134 [_, _] [] _ _
          refine am_aload_n dX12_work_134 rfl ?_
          refine am_dup dX12_work_135 (fun _ => rfl) ?_
          refine am_getI 12 35 dX12_work_136 fg_X12_202 (sh_54 g) (by decide) rfl ?_
          refine am_iconst 1 (v := 1) dX12_work_139 (by decide) ?_
          refine am_iadd dX12_work_140 ?_
          refine am_putI 12 35 dX12_work_141 (Or.inl fp_X12_202) (sh_54 g) (by decide) rfl rfl rfl ?_
          refine am_aload_n dX12_work_144 rfl ?_
          refine am_iconst 0 (v := 0) dX12_work_145 (by decide) ?_
          refine am_putI 12 40 dX12_work_146 (Or.inl fp_X12_301) (sh_54 g) (by decide) rfl rfl rfl ?_
          refine am_aload_n dX12_work_149 rfl ?_
          refine am_iconst 0 (v := 0) dX12_work_150 (by decide) ?_
          refine am_putI 12 41 dX12_work_151 (Or.inl fp_X12_311) (sh_54 g) (by decide) rfl rfl rfl ?_
          refine am_aload_n dX12_work_154 rfl ?_
          refine am_iconst 0 (v := 0) dX12_work_155 (by decide) ?_
          refine am_putI 12 36 dX12_work_156 (Or.inl fp_X12_205) (sh_54 g) (by decide) rfl rfl rfl ?_
          refine am_aload_n dX12_work_159 rfl ?_
          refine am_iconst 0 (v := 0) dX12_work_160 (by decide) ?_
          refine am_aload_n dX12_work_161 rfl ?_
          refine am_getI 12 28 dX12_work_162 fg_X12_252 (sh_54 g) (by decide) rfl ?_
          obtain ⟨M14, hk14, hyp⟩ := bd_some hyp
          try dsimp only at hyp
          refine am_callV [_, _] dX12_work_165 ml_X12_304 vm_X12_goes (sh_54 g) rfl (fun _ => Nat.le_of_ble_eq_true rfl) (by omega) rfl (ef_X12_goes (d := d + 0) (h := h) g hk14) rfl ?_
          change am_At _ _ _ 168 [_, _] [] _ _
          refine am_aload_n dX12_work_168 rfl ?_
          refine am_getI 12 41 dX12_work_169 fg_X12_311 (sh_54 g) (by decide) rfl ?_
          cases hyp
          exact am_iret dX12_work_172 rfl
        · intro hc11n
          have hc11n : ¬ ((M10 54 0 5) = 0) := hc11n
          replace hyp := it_neg hc11n hyp
          refine am_aload_n dX12_work_108 rfl ?_
          refine am_callV [] dX12_work_109 ml_X12_189 vm_X12_ends (sh_54 g) rfl (fun _ => Nat.le_of_ble_eq_true rfl) (by omega) rfl (ef_X12_ends (d := d + 38) (h := h) g  (M := M10) rfl) rfl ?_
          change am_At _ _ _ 112 [_, _] [_] _ _
          cases hyp
          exact am_iret dX12_work_112 rfl
      · intro hc4
        have hc4 : (M2 54 0 35) = (16 : Int32) := hc4
        replace hyp := it_pos hc4 hyp
        refine am_aload_n dX12_work_49 rfl ?_
        refine am_iconst 0 (v := 0) dX12_work_50 (by decide) ?_
        refine am_putI 12 1 dX12_work_51 (Or.inl fp_X12_106) (sh_54 g) (by decide) rfl rfl rfl ?_
        refine am_aload_n dX12_work_54 rfl ?_
        refine am_iconst (-1) (v := (-1)) dX12_work_55 (by decide) ?_
        refine am_putI 12 3 dX12_work_56 (Or.inl fp_X12_9) (sh_54 g) (by decide) rfl rfl rfl ?_
        refine am_bipush (-20) (v := (-20)) dX12_work_59 (by decide) ?_
        cases hyp
        exact am_iret dX12_work_61 rfl
    · intro hc3n
      have hc3n : ¬ (v2 = 0) := hc3n
      replace hyp := it_neg hc3n hyp
      refine am_iconst 0 (v := 0) dX12_work_38 (by decide) ?_
      cases hyp
      exact am_iret dX12_work_39 rfl
  · intro hc1n
    have hc1n : ¬ ((f_X12_in x1 (0 : Int32) (M 54 0 1)) = 0) := hc1n
    replace hyp := it_neg hc1n hyp
    refine am_iload_n dX12_work_18 rfl ?_
    refine am_sipush 150 (v := 150) dX12_work_19 (by decide) ?_
    refine am_icmp_le (7) 29 dX12_work_22 rfl ?_ ?_
    · intro hc15
      have hc15 : x1 ≤ (150 : Int32) := hc15
      replace hyp := it_pos hc15 hyp
      refine am_iconst 0 (v := 0) dX12_work_29 (by decide) ?_
      refine am_iconst 1 (v := 1) dX12_work_30 (by decide) ?_
      refine am_iconst 1 (v := 1) dX12_work_31 (by decide) ?_
      obtain ⟨⟨v16, M16⟩, hk16, hyp⟩ := bd_some hyp
      try dsimp only at hyp
      refine am_callV [_, _, _] dX12_work_32 ml_X12_179 vm_X12_bad (sh_54 g) rfl (fun _ => Nat.le_of_ble_eq_true rfl) (by omega) rfl (ef_X12_bad (d := d + 38) (h := h) g hk16) rfl ?_
      change am_At _ _ _ 35 [_, _] [_] _ _
      refine am_if_eq (5) 40 dX12_work_35 rfl ?_ ?_
      · intro hc17
        have hc17 : v16 = 0 := hc17
        replace hyp := it_pos hc17 hyp
        refine am_aload_n dX12_work_40 rfl ?_
        refine am_getI 12 35 dX12_work_41 fg_X12_202 (sh_54 g) (by decide) rfl ?_
        refine am_bipush 16 (v := 16) dX12_work_44 (by decide) ?_
        refine am_icmp_ne (16) 62 dX12_work_46 rfl ?_ ?_
        · intro hc18n
          have hc18n : ¬ ((M16 54 0 35) = (16 : Int32)) := hc18n
          replace hyp := it_neg hc18n hyp
          refine am_aload_n dX12_work_62 rfl ?_
          refine am_iload_n dX12_work_63 rfl ?_
          obtain ⟨M19, hk19, hyp⟩ := bd_some hyp
          try dsimp only at hyp
          refine am_callV [_] dX12_work_64 ml_X12_183 vm_X12_starts (sh_54 g) rfl (fun _ => Nat.le_of_ble_eq_true rfl) (by omega) rfl (ef_X12_starts (d := d + 36) (h := h) g hk19) rfl ?_
          change am_At _ _ _ 67 [_, _] [] _ _
          refine am_aload_n dX12_work_67 rfl ?_
          refine am_iconst 0 (v := 0) dX12_work_68 (by decide) ?_
          refine am_putI 12 28 dX12_work_69 (Or.inl fp_X12_252) (sh_54 g) (by decide) rfl rfl rfl ?_
          obtain ⟨M20, hw20, hyp⟩ := bd_some hyp
          refine am_At.drop 1 ?_
          try dsimp only at hyp
          refine eL_X12_work_72 (d := d) (h := h) g  FU (am_u3 M19 54 0 28 (0 : Int32)) M20 hw20 ?_
          change am_At _ _ _ 101 [_, _] [] _ _
          refine am_aload_n dX12_work_101 rfl ?_
          refine am_getI 12 5 dX12_work_102 fg_X12_119 (sh_54 g) (by decide) rfl ?_
          refine am_if_eq (8) 113 dX12_work_105 rfl ?_ ?_
          · intro hc21
            have hc21 : (M20 54 0 5) = 0 := hc21
            replace hyp := it_pos hc21 hyp
            refine am_aload_n dX12_work_113 rfl ?_
            refine am_iconst (-1) (v := (-1)) dX12_work_114 (by decide) ?_
            refine am_putI 12 3 dX12_work_115 (Or.inl fp_X12_9) (sh_54 g) (by decide) rfl rfl rfl ?_
            refine am_aload_n dX12_work_118 rfl ?_
            refine am_getR 12 29 72 dX12_work_119 fg_X12_67 (sh_54 g) (by decide) rfl (rf_54_29 g) ?_
            refine am_aload_n dX12_work_122 rfl ?_
            refine am_getR 12 32 75 dX12_work_123 fg_X12_76 (sh_54 g) (by decide) rfl (rf_54_32 g) ?_
            refine am_aload_n dX12_work_126 rfl ?_
            refine am_getI 12 35 dX12_work_127 fg_X12_202 (sh_54 g) (by decide) rfl ?_
            obtain ⟨hg22, hyp⟩ := gd_some hyp
            refine am_aald dX12_work_130 (sh_75 g) (am_lit hg22) ?_
            obtain ⟨M23, hk23, hyp⟩ := bd_some hyp
            try dsimp only at hyp
            refine am_callS (c := 0) (k := 0) (n := 0) (w := 0) [_, _] dX12_work_131 ml_X12_314 sm_X12_copies rfl (fun _ => Nat.le_of_ble_eq_true rfl) (by omega) rfl (ef_X12_copies_b (d := d + 38) (h := h) g ⟨Nat.succ_pos _, am_vlt (am_lit hg22)⟩ hk23) rfl ?_
            change am_At _ _ _ 134 [_, _] [] _ _
            refine am_aload_n dX12_work_134 rfl ?_
            refine am_dup dX12_work_135 (fun _ => rfl) ?_
            refine am_getI 12 35 dX12_work_136 fg_X12_202 (sh_54 g) (by decide) rfl ?_
            refine am_iconst 1 (v := 1) dX12_work_139 (by decide) ?_
            refine am_iadd dX12_work_140 ?_
            refine am_putI 12 35 dX12_work_141 (Or.inl fp_X12_202) (sh_54 g) (by decide) rfl rfl rfl ?_
            refine am_aload_n dX12_work_144 rfl ?_
            refine am_iconst 0 (v := 0) dX12_work_145 (by decide) ?_
            refine am_putI 12 40 dX12_work_146 (Or.inl fp_X12_301) (sh_54 g) (by decide) rfl rfl rfl ?_
            refine am_aload_n dX12_work_149 rfl ?_
            refine am_iconst 0 (v := 0) dX12_work_150 (by decide) ?_
            refine am_putI 12 41 dX12_work_151 (Or.inl fp_X12_311) (sh_54 g) (by decide) rfl rfl rfl ?_
            refine am_aload_n dX12_work_154 rfl ?_
            refine am_iconst 0 (v := 0) dX12_work_155 (by decide) ?_
            refine am_putI 12 36 dX12_work_156 (Or.inl fp_X12_205) (sh_54 g) (by decide) rfl rfl rfl ?_
            refine am_aload_n dX12_work_159 rfl ?_
            refine am_iconst 0 (v := 0) dX12_work_160 (by decide) ?_
            refine am_aload_n dX12_work_161 rfl ?_
            refine am_getI 12 28 dX12_work_162 fg_X12_252 (sh_54 g) (by decide) rfl ?_
            obtain ⟨M24, hk24, hyp⟩ := bd_some hyp
            try dsimp only at hyp
            refine am_callV [_, _] dX12_work_165 ml_X12_304 vm_X12_goes (sh_54 g) rfl (fun _ => Nat.le_of_ble_eq_true rfl) (by omega) rfl (ef_X12_goes (d := d + 0) (h := h) g hk24) rfl ?_
            change am_At _ _ _ 168 [_, _] [] _ _
            refine am_aload_n dX12_work_168 rfl ?_
            refine am_getI 12 41 dX12_work_169 fg_X12_311 (sh_54 g) (by decide) rfl ?_
            cases hyp
            exact am_iret dX12_work_172 rfl
          · intro hc21n
            have hc21n : ¬ ((M20 54 0 5) = 0) := hc21n
            replace hyp := it_neg hc21n hyp
            refine am_aload_n dX12_work_108 rfl ?_
            refine am_callV [] dX12_work_109 ml_X12_189 vm_X12_ends (sh_54 g) rfl (fun _ => Nat.le_of_ble_eq_true rfl) (by omega) rfl (ef_X12_ends (d := d + 38) (h := h) g  (M := M20) rfl) rfl ?_
            change am_At _ _ _ 112 [_, _] [_] _ _
            cases hyp
            exact am_iret dX12_work_112 rfl
        · intro hc18
          have hc18 : (M16 54 0 35) = (16 : Int32) := hc18
          replace hyp := it_pos hc18 hyp
          refine am_aload_n dX12_work_49 rfl ?_
          refine am_iconst 0 (v := 0) dX12_work_50 (by decide) ?_
          refine am_putI 12 1 dX12_work_51 (Or.inl fp_X12_106) (sh_54 g) (by decide) rfl rfl rfl ?_
          refine am_aload_n dX12_work_54 rfl ?_
          refine am_iconst (-1) (v := (-1)) dX12_work_55 (by decide) ?_
          refine am_putI 12 3 dX12_work_56 (Or.inl fp_X12_9) (sh_54 g) (by decide) rfl rfl rfl ?_
          refine am_bipush (-20) (v := (-20)) dX12_work_59 (by decide) ?_
          cases hyp
          exact am_iret dX12_work_61 rfl
      · intro hc17n
        have hc17n : ¬ (v16 = 0) := hc17n
        replace hyp := it_neg hc17n hyp
        refine am_iconst 0 (v := 0) dX12_work_38 (by decide) ?_
        cases hyp
        exact am_iret dX12_work_39 rfl
    · intro hc15n
      have hc15n : ¬ (x1 ≤ (150 : Int32)) := hc15n
      replace hyp := it_neg hc15n hyp
      refine am_iconst 1 (v := 1) dX12_work_25 (by decide) ?_
      refine am_goto (4) 30 dX12_work_26 rfl ?_
      refine am_iconst 1 (v := 1) dX12_work_30 (by decide) ?_
      refine am_iconst 1 (v := 1) dX12_work_31 (by decide) ?_
      obtain ⟨⟨v25, M25⟩, hk25, hyp⟩ := bd_some hyp
      try dsimp only at hyp
      refine am_callV [_, _, _] dX12_work_32 ml_X12_179 vm_X12_bad (sh_54 g) rfl (fun _ => Nat.le_of_ble_eq_true rfl) (by omega) rfl (ef_X12_bad (d := d + 38) (h := h) g hk25) rfl ?_
      change am_At _ _ _ 35 [_, _] [_] _ _
      refine am_if_eq (5) 40 dX12_work_35 rfl ?_ ?_
      · intro hc26
        have hc26 : v25 = 0 := hc26
        replace hyp := it_pos hc26 hyp
        refine am_aload_n dX12_work_40 rfl ?_
        refine am_getI 12 35 dX12_work_41 fg_X12_202 (sh_54 g) (by decide) rfl ?_
        refine am_bipush 16 (v := 16) dX12_work_44 (by decide) ?_
        refine am_icmp_ne (16) 62 dX12_work_46 rfl ?_ ?_
        · intro hc27n
          have hc27n : ¬ ((M25 54 0 35) = (16 : Int32)) := hc27n
          replace hyp := it_neg hc27n hyp
          refine am_aload_n dX12_work_62 rfl ?_
          refine am_iload_n dX12_work_63 rfl ?_
          obtain ⟨M28, hk28, hyp⟩ := bd_some hyp
          try dsimp only at hyp
          refine am_callV [_] dX12_work_64 ml_X12_183 vm_X12_starts (sh_54 g) rfl (fun _ => Nat.le_of_ble_eq_true rfl) (by omega) rfl (ef_X12_starts (d := d + 36) (h := h) g hk28) rfl ?_
          change am_At _ _ _ 67 [_, _] [] _ _
          refine am_aload_n dX12_work_67 rfl ?_
          refine am_iconst 0 (v := 0) dX12_work_68 (by decide) ?_
          refine am_putI 12 28 dX12_work_69 (Or.inl fp_X12_252) (sh_54 g) (by decide) rfl rfl rfl ?_
          obtain ⟨M29, hw29, hyp⟩ := bd_some hyp
          refine am_At.drop 1 ?_
          try dsimp only at hyp
          refine eL_X12_work_72 (d := d) (h := h) g  FU (am_u3 M28 54 0 28 (0 : Int32)) M29 hw29 ?_
          change am_At _ _ _ 101 [_, _] [] _ _
          refine am_aload_n dX12_work_101 rfl ?_
          refine am_getI 12 5 dX12_work_102 fg_X12_119 (sh_54 g) (by decide) rfl ?_
          refine am_if_eq (8) 113 dX12_work_105 rfl ?_ ?_
          · intro hc30
            have hc30 : (M29 54 0 5) = 0 := hc30
            replace hyp := it_pos hc30 hyp
            refine am_aload_n dX12_work_113 rfl ?_
            refine am_iconst (-1) (v := (-1)) dX12_work_114 (by decide) ?_
            refine am_putI 12 3 dX12_work_115 (Or.inl fp_X12_9) (sh_54 g) (by decide) rfl rfl rfl ?_
            refine am_aload_n dX12_work_118 rfl ?_
            refine am_getR 12 29 72 dX12_work_119 fg_X12_67 (sh_54 g) (by decide) rfl (rf_54_29 g) ?_
            refine am_aload_n dX12_work_122 rfl ?_
            refine am_getR 12 32 75 dX12_work_123 fg_X12_76 (sh_54 g) (by decide) rfl (rf_54_32 g) ?_
            refine am_aload_n dX12_work_126 rfl ?_
            refine am_getI 12 35 dX12_work_127 fg_X12_202 (sh_54 g) (by decide) rfl ?_
            obtain ⟨hg31, hyp⟩ := gd_some hyp
            refine am_aald dX12_work_130 (sh_75 g) (am_lit hg31) ?_
            obtain ⟨M32, hk32, hyp⟩ := bd_some hyp
            try dsimp only at hyp
            refine am_callS (c := 0) (k := 0) (n := 0) (w := 0) [_, _] dX12_work_131 ml_X12_314 sm_X12_copies rfl (fun _ => Nat.le_of_ble_eq_true rfl) (by omega) rfl (ef_X12_copies_b (d := d + 38) (h := h) g ⟨Nat.succ_pos _, am_vlt (am_lit hg31)⟩ hk32) rfl ?_
            change am_At _ _ _ 134 [_, _] [] _ _
            refine am_aload_n dX12_work_134 rfl ?_
            refine am_dup dX12_work_135 (fun _ => rfl) ?_
            refine am_getI 12 35 dX12_work_136 fg_X12_202 (sh_54 g) (by decide) rfl ?_
            refine am_iconst 1 (v := 1) dX12_work_139 (by decide) ?_
            refine am_iadd dX12_work_140 ?_
            refine am_putI 12 35 dX12_work_141 (Or.inl fp_X12_202) (sh_54 g) (by decide) rfl rfl rfl ?_
            refine am_aload_n dX12_work_144 rfl ?_
            refine am_iconst 0 (v := 0) dX12_work_145 (by decide) ?_
            refine am_putI 12 40 dX12_work_146 (Or.inl fp_X12_301) (sh_54 g) (by decide) rfl rfl rfl ?_
            refine am_aload_n dX12_work_149 rfl ?_
            refine am_iconst 0 (v := 0) dX12_work_150 (by decide) ?_
            refine am_putI 12 41 dX12_work_151 (Or.inl fp_X12_311) (sh_54 g) (by decide) rfl rfl rfl ?_
            refine am_aload_n dX12_work_154 rfl ?_
            refine am_iconst 0 (v := 0) dX12_work_155 (by decide) ?_
            refine am_putI 12 36 dX12_work_156 (Or.inl fp_X12_205) (sh_54 g) (by decide) rfl rfl rfl ?_
            refine am_aload_n dX12_work_159 rfl ?_
            refine am_iconst 0 (v := 0) dX12_work_160 (by decide) ?_
            refine am_aload_n dX12_work_161 rfl ?_
            refine am_getI 12 28 dX12_work_162 fg_X12_252 (sh_54 g) (by decide) rfl ?_
            obtain ⟨M33, hk33, hyp⟩ := bd_some hyp
            try dsimp only at hyp
            refine am_callV [_, _] dX12_work_165 ml_X12_304 vm_X12_goes (sh_54 g) rfl (fun _ => Nat.le_of_ble_eq_true rfl) (by omega) rfl (ef_X12_goes (d := d + 0) (h := h) g hk33) rfl ?_
            change am_At _ _ _ 168 [_, _] [] _ _
            refine am_aload_n dX12_work_168 rfl ?_
            refine am_getI 12 41 dX12_work_169 fg_X12_311 (sh_54 g) (by decide) rfl ?_
            cases hyp
            exact am_iret dX12_work_172 rfl
          · intro hc30n
            have hc30n : ¬ ((M29 54 0 5) = 0) := hc30n
            replace hyp := it_neg hc30n hyp
            refine am_aload_n dX12_work_108 rfl ?_
            refine am_callV [] dX12_work_109 ml_X12_189 vm_X12_ends (sh_54 g) rfl (fun _ => Nat.le_of_ble_eq_true rfl) (by omega) rfl (ef_X12_ends (d := d + 38) (h := h) g  (M := M29) rfl) rfl ?_
            change am_At _ _ _ 112 [_, _] [_] _ _
            cases hyp
            exact am_iret dX12_work_112 rfl
        · intro hc27
          have hc27 : (M25 54 0 35) = (16 : Int32) := hc27
          replace hyp := it_pos hc27 hyp
          refine am_aload_n dX12_work_49 rfl ?_
          refine am_iconst 0 (v := 0) dX12_work_50 (by decide) ?_
          refine am_putI 12 1 dX12_work_51 (Or.inl fp_X12_106) (sh_54 g) (by decide) rfl rfl rfl ?_
          refine am_aload_n dX12_work_54 rfl ?_
          refine am_iconst (-1) (v := (-1)) dX12_work_55 (by decide) ?_
          refine am_putI 12 3 dX12_work_56 (Or.inl fp_X12_9) (sh_54 g) (by decide) rfl rfl rfl ?_
          refine am_bipush (-20) (v := (-20)) dX12_work_59 (by decide) ?_
          cases hyp
          exact am_iret dX12_work_61 rfl
      · intro hc26n
        have hc26n : ¬ (v25 = 0) := hc26n
        replace hyp := it_neg hc26n hyp
        refine am_iconst 0 (v := 0) dX12_work_38 (by decide) ?_
        cases hyp
        exact am_iret dX12_work_39 rfl
