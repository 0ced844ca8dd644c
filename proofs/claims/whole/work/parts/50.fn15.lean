theorem eL_X12_busiest_23 {d : Nat} {h : am_H} (g : lay h) {x1 x2 x3 : Int32} {r : am_R} (n : Nat) : ∀ (s : Int32 × Int32 × Mem) (e : Int32 × Mem), wh (L_X12_busiest_23 x3) n s = some e → (match e with | (x4, M) => am_At am_X0 (d + 4) mX12_busiest 80 [some (.inr (54, 0)), some (am_I (x1)), some (am_I (x2)), some (am_I (x3)), some (am_I (x4)), none] [] (am_hM h M) r) → (match s with | (x4, x5, M) => am_At am_X0 (d + 4) mX12_busiest 23 [some (.inr (54, 0)), some (am_I (x1)), some (am_I (x2)), some (am_I (x3)), some (am_I (x4)), some (am_I (x5))] [] (am_hM h M) r) := by
  refine am_wh (At := fun (s : Int32 × Int32 × Mem) => match s with | (x4, x5, M) => am_At am_X0 (d + 4) mX12_busiest 23 [some (.inr (54, 0)), some (am_I (x1)), some (am_I (x2)), some (am_I (x3)), some (am_I (x4)), some (am_I (x5))] [] (am_hM h M) r) (Ex := fun (e : Int32 × Mem) => match e with | (x4, M) => am_At am_X0 (d + 4) mX12_busiest 80 [some (.inr (54, 0)), some (am_I (x1)), some (am_I (x2)), some (am_I (x3)), some (am_I (x4)), none] [] (am_hM h M) r) ?_ n
  rintro ⟨x4, x5, M⟩ y hyp hx
  unfold L_X12_busiest_23 at hyp
  try dsimp only at hyp
  change am_At _ _ _ 23 [_, _, _, _, _, _] [] _ _
  refine am_iload dX12_busiest_23 rfl ?_
  refine am_aload_n dX12_busiest_25 rfl ?_
  refine am_getR 12 12 58 dX12_busiest_26 fg_X12_23 (sh_54 g) (by decide) rfl (rf_54_12 g) ?_
  refine am_iconst 0 (v := 0) dX12_busiest_29 (by decide) ?_
  refine am_iald dX12_busiest_30 (am_ia.one (sh_58 g)) (am_lit rfl) ?_
  refine am_icmp_ge (49) 80 dX12_busiest_31 rfl ?_ ?_
  · intro hc2
    have hc2 : (M 58 0 0) ≤ x5 := hc2
    replace hyp := it_pos hc2 hyp
    cases hyp
    refine am_At.drop 5 ?_
    exact hx
  · intro hc2n
    have hc2n : ¬ ((M 58 0 0) ≤ x5) := hc2n
    replace hyp := it_neg hc2n hyp
    refine am_iload dX12_busiest_34 rfl ?_
    refine am_aload_n dX12_busiest_36 rfl ?_
    refine am_iload dX12_busiest_37 rfl ?_
    refine am_iload_n dX12_busiest_39 rfl ?_
    refine am_aload_n dX12_busiest_40 rfl ?_
    refine am_getR 12 29 72 dX12_busiest_41 fg_X12_67 (sh_54 g) (by decide) rfl (rf_54_29 g) ?_
    refine am_bipush 63 (v := 63) dX12_busiest_44 (by decide) ?_
    refine am_iald dX12_busiest_46 (am_ia.one (sh_72 g)) (am_lit rfl) ?_
    refine am_bipush 24 (v := 24) dX12_busiest_47 (by decide) ?_
    refine am_idiv dX12_busiest_49 (by decide) ?_
    refine am_aload_n dX12_busiest_50 rfl ?_
    refine am_getR 12 29 72 dX12_busiest_51 fg_X12_67 (sh_54 g) (by decide) rfl (rf_54_29 g) ?_
    refine am_bipush 16 (v := 16) dX12_busiest_54 (by decide) ?_
    refine am_iload dX12_busiest_56 rfl ?_
    refine am_iadd dX12_busiest_58 ?_
    obtain ⟨hg3, hyp⟩ := gd_some hyp
    refine am_iald dX12_busiest_59 (am_ia.one (sh_72 g)) (am_lit hg3) ?_
    obtain ⟨⟨v4, M4⟩, hk4, hyp⟩ := bd_some hyp
    try dsimp only at hyp
    refine am_callV [_, _, _, _] dX12_busiest_60 ml_X12_265 vm_X12_isLawful (sh_54 g) rfl (fun _ => Nat.le_of_ble_eq_true rfl) (by omega) rfl (ef_X12_isLawful (d := d + 0) (h := h) g hk4) rfl ?_
    change am_At _ _ _ 63 [_, _, _, _, _, _] [_, _] _ _
    refine am_if_eq (7) 70 dX12_busiest_63 rfl ?_ ?_
    · intro hc5
      have hc5 : v4 = 0 := hc5
      replace hyp := it_pos hc5 hyp
      refine am_iconst 0 (v := 0) dX12_busiest_70 (by decide) ?_
      refine am_iadd dX12_busiest_71 ?_
      refine am_istore dX12_busiest_72 (am_lb rfl) ?_
      change am_At _ _ _ 74 [_, _, _, _, _, _] [] _ _
      refine am_iinc dX12_busiest_74 rfl (am_ix _) ?_
      change am_At _ _ _ 77 [_, _, _, _, _, _] [] _ _
      refine am_goto (-54) 23 dX12_busiest_77 rfl ?_
      cases hyp
      exact hx
    · intro hc5n
      have hc5n : ¬ (v4 = 0) := hc5n
      replace hyp := it_neg hc5n hyp
      refine am_iconst 1 (v := 1) dX12_busiest_66 (by decide) ?_
      refine am_goto (4) 71 dX12_busiest_67 rfl ?_
      refine am_iadd dX12_busiest_71 ?_
      refine am_istore dX12_busiest_72 (am_lb rfl) ?_
      change am_At _ _ _ 74 [_, _, _, _, _, _] [] _ _
      refine am_iinc dX12_busiest_74 rfl (am_ix _) ?_
      change am_At _ _ _ 77 [_, _, _, _, _, _] [] _ _
      refine am_goto (-54) 23 dX12_busiest_77 rfl ?_
      cases hyp
      exact hx
theorem eL_X12_busiest_11 {d : Nat} {h : am_H} (g : lay h) {r : am_R} (n : Nat) : ∀ (s : Int32 × Int32 × Int32 × Mem) (e : Int32 × Mem), wh (L_X12_busiest_11) n s = some e → (match e with | (x1, M) => am_At am_X0 (d + 4) mX12_busiest 100 [some (.inr (54, 0)), some (am_I (x1)), none, none, none, none] [] (am_hM h M) r) → (match s with | (x1, x2, x3, M) => am_At am_X0 (d + 4) mX12_busiest 11 [some (.inr (54, 0)), some (am_I (x1)), some (am_I (x2)), some (am_I (x3)), none, none] [] (am_hM h M) r) := by
  refine am_wh (At := fun (s : Int32 × Int32 × Int32 × Mem) => match s with | (x1, x2, x3, M) => am_At am_X0 (d + 4) mX12_busiest 11 [some (.inr (54, 0)), some (am_I (x1)), some (am_I (x2)), some (am_I (x3)), none, none] [] (am_hM h M) r) (Ex := fun (e : Int32 × Mem) => match e with | (x1, M) => am_At am_X0 (d + 4) mX12_busiest 100 [some (.inr (54, 0)), some (am_I (x1)), none, none, none, none] [] (am_hM h M) r) ?_ n
  rintro ⟨x1, x2, x3, M⟩ y hyp hx
  unfold L_X12_busiest_11 at hyp
  try dsimp only at hyp
  change am_At _ _ _ 11 [_, _, _, _, _, _] [] _ _
  refine am_iload_n dX12_busiest_11 rfl ?_
  refine am_bipush 24 (v := 24) dX12_busiest_12 (by decide) ?_
  refine am_icmp_ge (86) 100 dX12_busiest_14 rfl ?_ ?_
  · intro hc1
    have hc1 : (24 : Int32) ≤ x3 := hc1
    replace hyp := it_pos hc1 hyp
    cases hyp
    refine am_At.drop 2 ?_
    refine am_At.drop 3 ?_
    exact hx
  · intro hc1n
    have hc1n : ¬ ((24 : Int32) ≤ x3) := hc1n
    replace hyp := it_neg hc1n hyp
    refine am_iconst 0 (v := 0) dX12_busiest_17 (by decide) ?_
    refine am_istore dX12_busiest_18 (am_lb rfl) ?_
    change am_At _ _ _ 20 [_, _, _, _, _, _] [] _ _
    refine am_iconst 0 (v := 0) dX12_busiest_20 (by decide) ?_
    refine am_istore dX12_busiest_21 (am_lb rfl) ?_
    change am_At _ _ _ 23 [_, _, _, _, _, _] [] _ _
    obtain ⟨⟨x4_6, M6⟩, hw6, hyp⟩ := bd_some hyp
    try dsimp only at hyp
    refine eL_X12_busiest_23 (d := d) (h := h) g  FU ((0 : Int32), (0 : Int32), M) (x4_6, M6) hw6 ?_
    change am_At _ _ _ 80 [_, _, _, _, _, _] [] _ _
    refine am_iload dX12_busiest_80 rfl ?_
    refine am_iload_n dX12_busiest_82 rfl ?_
    refine am_icmp_gt (6) 89 dX12_busiest_83 rfl ?_ ?_
    · intro hc7
      have hc7 : x2 < x4_6 := hc7
      replace hyp := it_pos hc7 hyp
      refine am_iload_n dX12_busiest_89 rfl ?_
      refine am_istore_n dX12_busiest_90 (am_lb rfl) ?_
      change am_At _ _ _ 91 [_, _, _, _, _, _] [] _ _
      refine am_iload dX12_busiest_91 rfl ?_
      refine am_istore_n dX12_busiest_93 (am_lb rfl) ?_
      change am_At _ _ _ 94 [_, _, _, _, _, _] [] _ _
      refine am_iinc dX12_busiest_94 rfl (am_ix _) ?_
      change am_At _ _ _ 97 [_, _, _, _, _, _] [] _ _
      refine am_goto (-86) 11 dX12_busiest_97 rfl ?_
      cases hyp
      refine am_At.drop 4 ?_
      exact hx
    · intro hc7n
      have hc7n : ¬ (x2 < x4_6) := hc7n
      replace hyp := it_neg hc7n hyp
      refine am_goto (8) 94 dX12_busiest_86 rfl ?_
      refine am_iinc dX12_busiest_94 rfl (am_ix _) ?_
      change am_At _ _ _ 97 [_, _, _, _, _, _] [] _ _
      refine am_goto (-86) 11 dX12_busiest_97 rfl ?_
      cases hyp
      refine am_At.drop 4 ?_
      exact hx
theorem ef_X12_busiest {d : Nat} {h : am_H} (g : lay h) {M : Mem} {v : Int32} {M' : Mem} (hyp : f_X12_busiest M = some (v, M')) : am_Ev (d + 4) mX12_busiest [.inr (54, 0)] (am_hM h M) (.inl (some (am_I v), am_hM h M')) := by
  unfold f_X12_busiest at hyp
  refine am_Ev.mk (by decide +kernel) rfl rfl (Nat.le_refl _) (Nat.le_refl _) ?_
  change am_At _ _ _ 0 [_, _, _, _, _, _] [] _ _
  refine am_aload_n dX12_busiest_0 rfl ?_
  refine am_iconst 0 (v := 0) dX12_busiest_1 (by decide) ?_
  refine am_putI 12 0 dX12_busiest_2 (Or.inl fp_X12_103) (sh_54 g) (by decide) rfl rfl rfl ?_
  refine am_iconst 0 (v := 0) dX12_busiest_5 (by decide) ?_
  refine am_istore_n dX12_busiest_6 (am_lb rfl) ?_
  change am_At _ _ _ 7 [_, _, _, _, _, _] [] _ _
  refine am_iconst (-1) (v := (-1)) dX12_busiest_7 (by decide) ?_
  refine am_istore_n dX12_busiest_8 (am_lb rfl) ?_
  change am_At _ _ _ 9 [_, _, _, _, _, _] [] _ _
  refine am_iconst 0 (v := 0) dX12_busiest_9 (by decide) ?_
  refine am_istore_n dX12_busiest_10 (am_lb rfl) ?_
  change am_At _ _ _ 11 [_, _, _, _, _, _] [] _ _
  obtain ⟨⟨x1_8, M8⟩, hw8, hyp⟩ := bd_some hyp
  try dsimp only at hyp
  refine eL_X12_busiest_11 (d := d) (h := h) g  FU ((0 : Int32), (-1 : Int32), (0 : Int32), (am_u3 M 54 0 0 (0 : Int32))) (x1_8, M8) hw8 ?_
  change am_At _ _ _ 100 [_, _, _, _, _, _] [] _ _
  refine am_iload_n dX12_busiest_100 rfl ?_
  cases hyp
  exact am_iret dX12_busiest_101 rfl
theorem ef_X12_isWord {d : Nat} {h : am_H} (g : lay h) {x1 x2 x3 x4 x5 x6 : Int32} {M : Mem} {v : Int32} {M' : Mem} (hyp : f_X12_isWord x1 x2 x3 x4 x5 x6 M = some (v, M')) : am_Ev (d + 3) mX12_isWord [.inr (54, 0), am_I x1, am_I x2, am_I x3, am_I x4, am_I x5, am_I x6] (am_hM h M) (.inl (some (am_I v), am_hM h M')) := by
  unfold f_X12_isWord at hyp
  refine am_Ev.mk (by decide +kernel) rfl rfl (Nat.le_refl _) (Nat.le_refl _) ?_
  change am_At _ _ _ 0 [_, _, _, _, _, _, _] [] _ _
  refine am_aload_n dX12_isWord_0 rfl ?_
  refine am_getI 12 5 dX12_isWord_1 fg_X12_119 (sh_54 g) (by decide) rfl ?_
  refine am_if_ne (26) 30 dX12_isWord_4 rfl ?_ ?_
  · intro hc1n
    have hc1n : ¬ ((M 54 0 5) = 0) := hc1n
    replace hyp := it_neg hc1n hyp
    refine am_iconst 0 (v := 0) dX12_isWord_30 (by decide) ?_
    cases hyp
    exact am_zret dX12_isWord_31 rfl rfl
  · intro hc1
    have hc1 : (M 54 0 5) = 0 := hc1
    replace hyp := it_pos hc1 hyp
    refine am_aload_n dX12_isWord_7 rfl ?_
    obtain ⟨⟨v2, M2⟩, hk2, hyp⟩ := bd_some hyp
    try dsimp only at hyp
    refine am_callV [] dX12_isWord_8 ml_X12_144 vm_X12_wordHere (sh_54 g) rfl (fun _ => Nat.le_of_ble_eq_true rfl) (by omega) rfl (ef_X12_wordHere (d := d + 0) (h := h) g hk2) rfl ?_
    change am_At _ _ _ 11 [_, _, _, _, _, _, _] [_] _ _
    refine am_iload_n dX12_isWord_11 rfl ?_
    refine am_iload_n dX12_isWord_12 rfl ?_
    refine am_iload_n dX12_isWord_13 rfl ?_
    refine am_iload dX12_isWord_14 rfl ?_
    refine am_iload dX12_isWord_16 rfl ?_
    refine am_iload dX12_isWord_18 rfl ?_
    refine am_callS (c := 0) (k := 0) (n := 0) (w := 0) [_, _, _, _, _, _] dX12_isWord_20 ml_X12_148 sm_X12_six rfl (fun _ => Nat.le_of_ble_eq_true rfl) (by omega) rfl (ef_X12_six (d := d + 2) (h := am_hM h M2) (x0 := x1) (x1 := x2) (x2 := x3) (x3 := x4) (x4 := x5) (x5 := x6)  rfl) rfl ?_
    change am_At _ _ _ 23 [_, _, _, _, _, _, _] [_, _] _ _
    refine am_icmp_ne (7) 30 dX12_isWord_23 rfl ?_ ?_
    · intro hc3n
      have hc3n : ¬ (v2 = (f_X12_six x1 x2 x3 x4 x5 x6)) := hc3n
      replace hyp := it_neg hc3n hyp
      refine am_iconst 0 (v := 0) dX12_isWord_30 (by decide) ?_
      cases hyp
      exact am_zret dX12_isWord_31 rfl rfl
    · intro hc3
      have hc3 : v2 = (f_X12_six x1 x2 x3 x4 x5 x6) := hc3
      replace hyp := it_pos hc3 hyp
      refine am_iconst 1 (v := 1) dX12_isWord_26 (by decide) ?_
      refine am_goto (4) 31 dX12_isWord_27 rfl ?_
      cases hyp
      exact am_zret dX12_isWord_31 rfl rfl
theorem ef_X12_kindHere {d : Nat} {h : am_H} (g : lay h) {M : Mem} {v : Int32} {M' : Mem} (hyp : f_X12_kindHere M = some (v, M')) : am_Ev (d + 4) mX12_kindHere [.inr (54, 0)] (am_hM h M) (.inl (some (am_I v), am_hM h M')) := by
  unfold f_X12_kindHere at hyp
  refine am_Ev.mk (by decide +kernel) rfl rfl (Nat.le_refl _) (Nat.le_refl _) ?_
  change am_At _ _ _ 0 [_] [] _ _
  refine am_aload_n dX12_kindHere_0 rfl ?_
  refine am_iconst 2 (v := 2) dX12_kindHere_1 (by decide) ?_
  refine am_bipush 15 (v := 15) dX12_kindHere_2 (by decide) ?_
  refine am_iconst 1 (v := 1) dX12_kindHere_4 (by decide) ?_
  refine am_bipush 18 (v := 18) dX12_kindHere_5 (by decide) ?_
  refine am_iconst 4 (v := 4) dX12_kindHere_7 (by decide) ?_
  refine am_iconst 0 (v := 0) dX12_kindHere_8 (by decide) ?_
  obtain ⟨⟨v1, M1⟩, hk1, hyp⟩ := bd_some hyp
  try dsimp only at hyp
  refine am_callV [_, _, _, _, _, _] dX12_kindHere_9 ml_X12_152 vm_X12_isWord (sh_54 g) rfl (fun _ => Nat.le_of_ble_eq_true rfl) (by omega) rfl (ef_X12_isWord (d := d + 0) (h := h) g hk1) rfl ?_
  change am_At _ _ _ 12 [_] [_] _ _
  refine am_if_eq (5) 17 dX12_kindHere_12 rfl ?_ ?_
  · intro hc2
    have hc2 : v1 = 0 := hc2
    replace hyp := it_pos hc2 hyp
    refine am_aload_n dX12_kindHere_17 rfl ?_
    refine am_iconst 2 (v := 2) dX12_kindHere_18 (by decide) ?_
    refine am_iconst 1 (v := 1) dX12_kindHere_19 (by decide) ?_
    refine am_bipush 18 (v := 18) dX12_kindHere_20 (by decide) ?_
    refine am_bipush 7 (v := 7) dX12_kindHere_22 (by decide) ?_
    refine am_iconst 5 (v := 5) dX12_kindHere_24 (by decide) ?_
    refine am_iconst 0 (v := 0) dX12_kindHere_25 (by decide) ?_
    obtain ⟨⟨v3, M3⟩, hk3, hyp⟩ := bd_some hyp
    try dsimp only at hyp
    refine am_callV [_, _, _, _, _, _] dX12_kindHere_26 ml_X12_152 vm_X12_isWord (sh_54 g) rfl (fun _ => Nat.le_of_ble_eq_true rfl) (by omega) rfl (ef_X12_isWord (d := d + 0) (h := h) g hk3) rfl ?_
    change am_At _ _ _ 29 [_] [_] _ _
    refine am_if_eq (5) 34 dX12_kindHere_29 rfl ?_ ?_
    · intro hc4
      have hc4 : v3 = 0 := hc4
      replace hyp := it_pos hc4 hyp
      refine am_aload_n dX12_kindHere_34 rfl ?_
      refine am_bipush 19 (v := 19) dX12_kindHere_35 (by decide) ?_
      refine am_bipush 20 (v := 20) dX12_kindHere_37 (by decide) ?_
      refine am_bipush 18 (v := 18) dX12_kindHere_39 (by decide) ?_
      refine am_iconst 5 (v := 5) dX12_kindHere_41 (by decide) ?_
      refine am_iconst 5 (v := 5) dX12_kindHere_42 (by decide) ?_
      refine am_bipush 20 (v := 20) dX12_kindHere_43 (by decide) ?_
      obtain ⟨⟨v5, M5⟩, hk5, hyp⟩ := bd_some hyp
      try dsimp only at hyp
      refine am_callV [_, _, _, _, _, _] dX12_kindHere_45 ml_X12_152 vm_X12_isWord (sh_54 g) rfl (fun _ => Nat.le_of_ble_eq_true rfl) (by omega) rfl (ef_X12_isWord (d := d + 0) (h := h) g hk5) rfl ?_
      change am_At _ _ _ 48 [_] [_] _ _
      refine am_if_eq (5) 53 dX12_kindHere_48 rfl ?_ ?_
      · intro hc6
        have hc6 : v5 = 0 := hc6
        replace hyp := it_pos hc6 hyp
        refine am_aload_n dX12_kindHere_53 rfl ?_
        refine am_bipush 6 (v := 6) dX12_kindHere_54 (by decide) ?_
        refine am_bipush 12 (v := 12) dX12_kindHere_56 (by decide) ?_
        refine am_bipush 15 (v := 15) dX12_kindHere_58 (by decide) ?_
        refine am_bipush 23 (v := 23) dX12_kindHere_60 (by decide) ?_
        refine am_iconst 0 (v := 0) dX12_kindHere_62 (by decide) ?_
        refine am_iconst 0 (v := 0) dX12_kindHere_63 (by decide) ?_
        obtain ⟨⟨v7, M7⟩, hk7, hyp⟩ := bd_some hyp
        try dsimp only at hyp
        refine am_callV [_, _, _, _, _, _] dX12_kindHere_64 ml_X12_152 vm_X12_isWord (sh_54 g) rfl (fun _ => Nat.le_of_ble_eq_true rfl) (by omega) rfl (ef_X12_isWord (d := d + 0) (h := h) g hk7) rfl ?_
        change am_At _ _ _ 67 [_] [_] _ _
        refine am_if_eq (5) 72 dX12_kindHere_67 rfl ?_ ?_
        · intro hc8
          have hc8 : v7 = 0 := hc8
          replace hyp := it_pos hc8 hyp
          refine am_aload_n dX12_kindHere_72 rfl ?_
          refine am_bipush 19 (v := 19) dX12_kindHere_73 (by decide) ?_
          refine am_bipush 13 (v := 13) dX12_kindHere_75 (by decide) ?_
          refine am_iconst 5 (v := 5) dX12_kindHere_77 (by decide) ?_
          refine am_bipush 12 (v := 12) dX12_kindHere_78 (by decide) ?_
          refine am_bipush 12 (v := 12) dX12_kindHere_80 (by decide) ?_
          refine am_iconst 0 (v := 0) dX12_kindHere_82 (by decide) ?_
          obtain ⟨⟨v9, M9⟩, hk9, hyp⟩ := bd_some hyp
          try dsimp only at hyp
          refine am_callV [_, _, _, _, _, _] dX12_kindHere_83 ml_X12_152 vm_X12_isWord (sh_54 g) rfl (fun _ => Nat.le_of_ble_eq_true rfl) (by omega) rfl (ef_X12_isWord (d := d + 0) (h := h) g hk9) rfl ?_
          change am_At _ _ _ 86 [_] [_] _ _
          refine am_if_eq (5) 91 dX12_kindHere_86 rfl ?_ ?_
          · intro hc10
            have hc10 : v9 = 0 := hc10
            replace hyp := it_pos hc10 hyp
            refine am_aload_n dX12_kindHere_91 rfl ?_
            refine am_bipush 6 (v := 6) dX12_kindHere_92 (by decide) ?_
            refine am_bipush 9 (v := 9) dX12_kindHere_94 (by decide) ?_
            refine am_bipush 19 (v := 19) dX12_kindHere_96 (by decide) ?_
            refine am_bipush 8 (v := 8) dX12_kindHere_98 (by decide) ?_
            refine am_iconst 0 (v := 0) dX12_kindHere_100 (by decide) ?_
            refine am_iconst 0 (v := 0) dX12_kindHere_101 (by decide) ?_
            obtain ⟨⟨v11, M11⟩, hk11, hyp⟩ := bd_some hyp
            try dsimp only at hyp
            refine am_callV [_, _, _, _, _, _] dX12_kindHere_102 ml_X12_152 vm_X12_isWord (sh_54 g) rfl (fun _ => Nat.le_of_ble_eq_true rfl) (by omega) rfl (ef_X12_isWord (d := d + 0) (h := h) g hk11) rfl ?_
            change am_At _ _ _ 105 [_] [_] _ _
            refine am_if_eq (7) 112 dX12_kindHere_105 rfl ?_ ?_
            · intro hc12
              have hc12 : v11 = 0 := hc12
              replace hyp := it_pos hc12 hyp
              refine am_iconst (-1) (v := (-1)) dX12_kindHere_112 (by decide) ?_
              cases hyp
              exact am_iret dX12_kindHere_113 rfl
            · intro hc12n
              have hc12n : ¬ (v11 = 0) := hc12n
              replace hyp := it_neg hc12n hyp
              refine am_iconst 5 (v := 5) dX12_kindHere_108 (by decide) ?_
              refine am_goto (4) 113 dX12_kindHere_109 rfl ?_
              cases hyp
              exact am_iret dX12_kindHere_113 rfl
          · intro hc10n
            have hc10n : ¬ (v9 = 0) := hc10n
            replace hyp := it_neg hc10n hyp
            refine am_iconst 4 (v := 4) dX12_kindHere_89 (by decide) ?_
            cases hyp
            exact am_iret dX12_kindHere_90 rfl
        · intro hc8n
          have hc8n : ¬ (v7 = 0) := hc8n
          replace hyp := it_neg hc8n hyp
          refine am_iconst 3 (v := 3) dX12_kindHere_70 (by decide) ?_
          cases hyp
          exact am_iret dX12_kindHere_71 rfl
      · intro hc6n
        have hc6n : ¬ (v5 = 0) := hc6n
        replace hyp := it_neg hc6n hyp
        refine am_iconst 2 (v := 2) dX12_kindHere_51 (by decide) ?_
        cases hyp
        exact am_iret dX12_kindHere_52 rfl
    · intro hc4n
      have hc4n : ¬ (v3 = 0) := hc4n
      replace hyp := it_neg hc4n hyp
      refine am_iconst 1 (v := 1) dX12_kindHere_32 (by decide) ?_
      cases hyp
      exact am_iret dX12_kindHere_33 rfl
  · intro hc2n
    have hc2n : ¬ (v1 = 0) := hc2n
    replace hyp := it_neg hc2n hyp
    refine am_iconst 0 (v := 0) dX12_kindHere_15 (by decide) ?_
    cases hyp
    exact am_iret dX12_kindHere_16 rfl
theorem ef_X12_stepHere {d : Nat} {h : am_H} (g : lay h) {M : Mem} {v : Int32} {M' : Mem} (hyp : f_X12_stepHere M = some (v, M')) : am_Ev (d + 4) mX12_stepHere [.inr (54, 0)] (am_hM h M) (.inl (some (am_I v), am_hM h M')) := by
  unfold f_X12_stepHere at hyp
  refine am_Ev.mk (by decide +kernel) rfl rfl (Nat.le_refl _) (Nat.le_refl _) ?_
  change am_At _ _ _ 0 [_] [] _ _
  refine am_aload_n dX12_stepHere_0 rfl ?_
  refine am_bipush 12 (v := 12) dX12_stepHere_1 (by decide) ?_
  refine am_bipush 9 (v := 9) dX12_stepHere_3 (by decide) ?_
  refine am_bipush 6 (v := 6) dX12_stepHere_5 (by decide) ?_
  refine am_bipush 20 (v := 20) dX12_stepHere_7 (by decide) ?_
  refine am_iconst 0 (v := 0) dX12_stepHere_9 (by decide) ?_
  refine am_iconst 0 (v := 0) dX12_stepHere_10 (by decide) ?_
  obtain ⟨⟨v1, M1⟩, hk1, hyp⟩ := bd_some hyp
  try dsimp only at hyp
  refine am_callV [_, _, _, _, _, _] dX12_stepHere_11 ml_X12_152 vm_X12_isWord (sh_54 g) rfl (fun _ => Nat.le_of_ble_eq_true rfl) (by omega) rfl (ef_X12_isWord (d := d + 0) (h := h) g hk1) rfl ?_
  change am_At _ _ _ 14 [_] [_] _ _
  refine am_if_eq (5) 19 dX12_stepHere_14 rfl ?_ ?_
  · intro hc2
    have hc2 : v1 = 0 := hc2
    replace hyp := it_pos hc2 hyp
    refine am_aload_n dX12_stepHere_19 rfl ?_
    refine am_bipush 19 (v := 19) dX12_stepHere_20 (by decide) ?_
    refine am_bipush 8 (v := 8) dX12_stepHere_22 (by decide) ?_
    refine am_bipush 21 (v := 21) dX12_stepHere_24 (by decide) ?_
    refine am_bipush 20 (v := 20) dX12_stepHere_26 (by decide) ?_
    refine am_iconst 0 (v := 0) dX12_stepHere_28 (by decide) ?_
    refine am_iconst 0 (v := 0) dX12_stepHere_29 (by decide) ?_
    obtain ⟨⟨v3, M3⟩, hk3, hyp⟩ := bd_some hyp
    try dsimp only at hyp
    refine am_callV [_, _, _, _, _, _] dX12_stepHere_30 ml_X12_152 vm_X12_isWord (sh_54 g) rfl (fun _ => Nat.le_of_ble_eq_true rfl) (by omega) rfl (ef_X12_isWord (d := d + 0) (h := h) g hk3) rfl ?_
    change am_At _ _ _ 33 [_] [_] _ _
    refine am_if_eq (5) 38 dX12_stepHere_33 rfl ?_ ?_
    · intro hc4
      have hc4 : v3 = 0 := hc4
      replace hyp := it_pos hc4 hyp
      refine am_aload_n dX12_stepHere_38 rfl ?_
      refine am_bipush 12 (v := 12) dX12_stepHere_39 (by decide) ?_
      refine am_iconst 5 (v := 5) dX12_stepHere_41 (by decide) ?_
      refine am_iconst 1 (v := 1) dX12_stepHere_42 (by decide) ?_
      refine am_bipush 22 (v := 22) dX12_stepHere_43 (by decide) ?_
      refine am_iconst 5 (v := 5) dX12_stepHere_45 (by decide) ?_
      refine am_iconst 0 (v := 0) dX12_stepHere_46 (by decide) ?_
      obtain ⟨⟨v5, M5⟩, hk5, hyp⟩ := bd_some hyp
      try dsimp only at hyp
      refine am_callV [_, _, _, _, _, _] dX12_stepHere_47 ml_X12_152 vm_X12_isWord (sh_54 g) rfl (fun _ => Nat.le_of_ble_eq_true rfl) (by omega) rfl (ef_X12_isWord (d := d + 0) (h := h) g hk5) rfl ?_
      change am_At _ _ _ 50 [_] [_] _ _
      refine am_if_eq (5) 55 dX12_stepHere_50 rfl ?_ ?_
      · intro hc6
        have hc6 : v5 = 0 := hc6
        replace hyp := it_pos hc6 hyp
        refine am_aload_n dX12_stepHere_55 rfl ?_
        refine am_bipush 8 (v := 8) dX12_stepHere_56 (by decide) ?_
        refine am_bipush 15 (v := 15) dX12_stepHere_58 (by decide) ?_
        refine am_bipush 21 (v := 21) dX12_stepHere_60 (by decide) ?_
        refine am_bipush 18 (v := 18) dX12_stepHere_62 (by decide) ?_
        refine am_iconst 0 (v := 0) dX12_stepHere_64 (by decide) ?_
        refine am_iconst 0 (v := 0) dX12_stepHere_65 (by decide) ?_
        obtain ⟨⟨v7, M7⟩, hk7, hyp⟩ := bd_some hyp
        try dsimp only at hyp
        refine am_callV [_, _, _, _, _, _] dX12_stepHere_66 ml_X12_152 vm_X12_isWord (sh_54 g) rfl (fun _ => Nat.le_of_ble_eq_true rfl) (by omega) rfl (ef_X12_isWord (d := d + 0) (h := h) g hk7) rfl ?_
        change am_At _ _ _ 69 [_] [_] _ _
        refine am_if_eq (5) 74 dX12_stepHere_69 rfl ?_ ?_
        · intro hc8
          have hc8 : v7 = 0 := hc8
          replace hyp := it_pos hc8 hyp
          refine am_aload_n dX12_stepHere_74 rfl ?_
          refine am_iconst 1 (v := 1) dX12_stepHere_75 (by decide) ?_
          refine am_bipush 7 (v := 7) dX12_stepHere_76 (by decide) ?_
          refine am_iconst 1 (v := 1) dX12_stepHere_78 (by decide) ?_
          refine am_bipush 9 (v := 9) dX12_stepHere_79 (by decide) ?_
          refine am_bipush 14 (v := 14) dX12_stepHere_81 (by decide) ?_
          refine am_iconst 0 (v := 0) dX12_stepHere_83 (by decide) ?_
          obtain ⟨⟨v9, M9⟩, hk9, hyp⟩ := bd_some hyp
          try dsimp only at hyp
          refine am_callV [_, _, _, _, _, _] dX12_stepHere_84 ml_X12_152 vm_X12_isWord (sh_54 g) rfl (fun _ => Nat.le_of_ble_eq_true rfl) (by omega) rfl (ef_X12_isWord (d := d + 0) (h := h) g hk9) rfl ?_
          change am_At _ _ _ 87 [_] [_] _ _
          refine am_if_eq (7) 94 dX12_stepHere_87 rfl ?_ ?_
          · intro hc10
            have hc10 : v9 = 0 := hc10
            replace hyp := it_pos hc10 hyp
            refine am_iconst (-1) (v := (-1)) dX12_stepHere_94 (by decide) ?_
            cases hyp
            exact am_iret dX12_stepHere_95 rfl
          · intro hc10n
            have hc10n : ¬ (v9 = 0) := hc10n
            replace hyp := it_neg hc10n hyp
            refine am_iconst 4 (v := 4) dX12_stepHere_90 (by decide) ?_
            refine am_goto (4) 95 dX12_stepHere_91 rfl ?_
            cases hyp
            exact am_iret dX12_stepHere_95 rfl
        · intro hc8n
          have hc8n : ¬ (v7 = 0) := hc8n
          replace hyp := it_neg hc8n hyp
          refine am_iconst 3 (v := 3) dX12_stepHere_72 (by decide) ?_
          cases hyp
          exact am_iret dX12_stepHere_73 rfl
      · intro hc6n
        have hc6n : ¬ (v5 = 0) := hc6n
        replace hyp := it_neg hc6n hyp
        refine am_iconst 2 (v := 2) dX12_stepHere_53 (by decide) ?_
        cases hyp
        exact am_iret dX12_stepHere_54 rfl
    · intro hc4n
      have hc4n : ¬ (v3 = 0) := hc4n
      replace hyp := it_neg hc4n hyp
      refine am_iconst 1 (v := 1) dX12_stepHere_36 (by decide) ?_
      cases hyp
      exact am_iret dX12_stepHere_37 rfl
  · intro hc2n
    have hc2n : ¬ (v1 = 0) := hc2n
    replace hyp := it_neg hc2n hyp
    refine am_iconst 0 (v := 0) dX12_stepHere_17 (by decide) ?_
    cases hyp
    exact am_iret dX12_stepHere_18 rfl
theorem ef_X12_takes {d : Nat} {h : am_H} (g : lay h) {x1 x2 x3 x4 x5 x6 : Int32} {M : Mem} {v : Int32} {M' : Mem} (hyp : f_X12_takes x1 x2 x3 x4 x5 x6 M = some (v, M')) : am_Ev (d + 4) mX12_takes [.inr (54, 0), am_I x1, am_I x2, am_I x3, am_I x4, am_I x5, am_I x6] (am_hM h M) (.inl (some (am_I v), am_hM h M')) := by
  unfold f_X12_takes at hyp
  refine am_Ev.mk (by decide +kernel) rfl rfl (Nat.le_refl _) (Nat.le_refl _) ?_
  change am_At _ _ _ 0 [_, _, _, _, _, _, _, _] [] _ _
  refine am_aload_n dX12_takes_0 rfl ?_
  refine am_iload_n dX12_takes_1 rfl ?_
  refine am_iload_n dX12_takes_2 rfl ?_
  refine am_iload_n dX12_takes_3 rfl ?_
  refine am_iload dX12_takes_4 rfl ?_
  refine am_iload dX12_takes_6 rfl ?_
  refine am_iload dX12_takes_8 rfl ?_
  obtain ⟨⟨v1, M1⟩, hk1, hyp⟩ := bd_some hyp
  try dsimp only at hyp
  refine am_callV [_, _, _, _, _, _] dX12_takes_10 ml_X12_152 vm_X12_isWord (sh_54 g) rfl (fun _ => Nat.le_of_ble_eq_true rfl) (by omega) rfl (ef_X12_isWord (d := d + 0) (h := h) g hk1) rfl ?_
  change am_At _ _ _ 13 [_, _, _, _, _, _, _, _] [_] _ _
  refine am_istore dX12_takes_13 (am_lb rfl) ?_
  change am_At _ _ _ 15 [_, _, _, _, _, _, _, _] [] _ _
  refine am_iload dX12_takes_15 rfl ?_
  refine am_if_eq (7) 24 dX12_takes_17 rfl ?_ ?_
  · intro hc2
    have hc2 : v1 = 0 := hc2
    replace hyp := it_pos hc2 hyp
    refine am_iload dX12_takes_24 rfl ?_
    obtain ⟨hg3, hyp⟩ := gd_some hyp
    cases hyp
    exact am_zret dX12_takes_26 rfl (isb_nf hg3).1
  · intro hc2n
    have hc2n : ¬ (v1 = 0) := hc2n
    replace hyp := it_neg hc2n hyp
    refine am_aload_n dX12_takes_20 rfl ?_
    obtain ⟨M4, hk4, hyp⟩ := bd_some hyp
    try dsimp only at hyp
    refine am_callV [] dX12_takes_21 ml_X12_156 vm_X12_skipWord (sh_54 g) rfl (fun _ => Nat.le_of_ble_eq_true rfl) (by omega) rfl (ef_X12_skipWord (d := d + 2) (h := h) g hk4) rfl ?_
    change am_At _ _ _ 24 [_, _, _, _, _, _, _, _] [] _ _
    refine am_iload dX12_takes_24 rfl ?_
    obtain ⟨hg5, hyp⟩ := gd_some hyp
    cases hyp
    exact am_zret dX12_takes_26 rfl (isb_nf hg5).1
theorem eL_X1_read_35 {d : Nat} {h : am_H} (g : lay h) {r : am_R} (n : Nat) : ∀ (s : Int32 × Mem) (e : Mem), wh (L_X1_read_35) n s = some e → ((fun (M : Mem) => am_At am_X0 (d + 6) mX1_read 91 [some (.inr (13, 0)), some (.inr (1, 0)), none, none] [] (am_hM h M) r) e) → (match s with | (x2, M) => am_At am_X0 (d + 6) mX1_read 35 [some (.inr (13, 0)), some (.inr (1, 0)), some (am_I (x2)), none] [] (am_hM h M) r) := by
  refine am_wh (At := fun (s : Int32 × Mem) => match s with | (x2, M) => am_At am_X0 (d + 6) mX1_read 35 [some (.inr (13, 0)), some (.inr (1, 0)), some (am_I (x2)), none] [] (am_hM h M) r) (Ex := fun (e : Mem) => (fun (M : Mem) => am_At am_X0 (d + 6) mX1_read 91 [some (.inr (13, 0)), some (.inr (1, 0)), none, none] [] (am_hM h M) r) e) ?_ n
  rintro ⟨x2, M⟩ y hyp hx
  unfold L_X1_read_35 at hyp
  try dsimp only at hyp
  change am_At _ _ _ 35 [_, _, _, _] [] _ _
  refine am_iload_n dX1_read_35 rfl ?_
  refine am_bipush 60 (v := 60) dX1_read_36 (by decide) ?_
  refine am_icmp_gt (53) 91 dX1_read_38 rfl ?_ ?_
  · intro hc1
    have hc1 : (60 : Int32) < x2 := hc1
    replace hyp := it_pos hc1 hyp
    cases hyp
    refine am_At.drop 2 ?_
    exact hx
  · intro hc1n
    have hc1n : ¬ ((60 : Int32) < x2) := hc1n
    replace hyp := it_neg hc1n hyp
    refine am_aload_n dX1_read_41 rfl ?_
    refine am_callV [] dX1_read_42 ml_X1_67 vm_X10_isFaulty (sh_1 g) rfl (fun _ => Nat.le_of_ble_eq_true rfl) (by omega) rfl (ef_X10_isFaulty (d := d + 5) (h := h) g  (M := M) rfl) rfl ?_
    change am_At _ _ _ 45 [_, _, _, _] [_] _ _
    refine am_if_ne (46) 91 dX1_read_45 rfl ?_ ?_
    · intro hc2n
      have hc2n : ¬ ((f_X10_isFaulty M) = 0) := hc2n
      replace hyp := it_neg hc2n hyp
      cases hyp
      refine am_At.drop 2 ?_
      exact hx
    · intro hc2
      have hc2 : (f_X10_isFaulty M) = 0 := hc2
      replace hyp := it_pos hc2 hyp
      refine am_aload_n dX1_read_48 rfl ?_
      obtain ⟨⟨v3, M3⟩, hk3, hyp⟩ := bd_some hyp
      try dsimp only at hyp
      refine am_callV [] dX1_read_49 ml_X1_73 vm_X10_isAtEnd (sh_1 g) rfl (fun _ => Nat.le_of_ble_eq_true rfl) (by omega) rfl (ef_X10_isAtEnd (d := d + 4) (h := h) g hk3) rfl ?_
      change am_At _ _ _ 52 [_, _, _, _] [_] _ _
      refine am_if_ne (39) 91 dX1_read_52 rfl ?_ ?_
      · intro hc4n
        have hc4n : ¬ (v3 = 0) := hc4n
        replace hyp := it_neg hc4n hyp
        cases hyp
        refine am_At.drop 2 ?_
        exact hx
      · intro hc4
        have hc4 : v3 = 0 := hc4
        replace hyp := it_pos hc4 hyp
        refine am_aload_n dX1_read_55 rfl ?_
        refine am_ldcS (k9 := 0) (text := "board barge flow street fish smell") dX1_read_56 (by decide) ?_
        obtain ⟨⟨v5, M5⟩, hk5, hyp⟩ := bd_some hyp
        try dsimp only at hyp
        refine am_callV [_] dX1_read_58 ml_X1_78 vm_X10_word (sh_1 g) rfl (fun _ => Nat.le_of_ble_eq_true rfl) (by omega) rfl (ef_X10_word (d := d + 0) (h := h) g (k1 := 0) (by decide)  hk5) rfl ?_
        change am_At _ _ _ 61 [_, _, _, _] [_] _ _
        refine am_istore_n dX1_read_61 (am_lb rfl) ?_
        change am_At _ _ _ 62 [_, _, _, _] [] _ _
        refine am_iload_n dX1_read_62 rfl ?_
        refine am_bipush 60 (v := 60) dX1_read_63 (by decide) ?_
        refine am_icmp_ne (8) 73 dX1_read_65 rfl ?_ ?_
        · intro hc6n
          have hc6n : ¬ (x2 = (60 : Int32)) := hc6n
          replace hyp := it_neg hc6n hyp
          refine am_aload_n dX1_read_73 rfl ?_
          refine am_aload_n dX1_read_74 rfl ?_
          refine am_iload_n dX1_read_75 rfl ?_
          obtain ⟨M7, hk7, hyp⟩ := bd_some hyp
          try dsimp only at hyp
          refine am_callV [_, _] dX1_read_76 ml_X1_86 vm_X1_readClause (sh_13 g) rfl (fun _ => Nat.le_of_ble_eq_true rfl) (by omega) rfl (ef_X1_readClause (d := d + 2) (h := h) g hk7) rfl ?_
          change am_At _ _ _ 79 [_, _, _, _] [] _ _
          refine am_aload_n dX1_read_79 rfl ?_
          refine am_bipush 59 (v := 59) dX1_read_80 (by decide) ?_
          obtain ⟨M8, hk8, hyp⟩ := bd_some hyp
          try dsimp only at hyp
          refine am_callV [_] dX1_read_82 ml_X1_90 vm_X10_expect (sh_1 g) rfl (fun _ => Nat.le_of_ble_eq_true rfl) (by omega) rfl (ef_X10_expect (d := d + 4) (h := h) g hk8) rfl ?_
          change am_At _ _ _ 85 [_, _, _, _] [] _ _
          refine am_iinc dX1_read_85 rfl (am_ix _) ?_
          change am_At _ _ _ 88 [_, _, _, _] [] _ _
          refine am_goto (-53) 35 dX1_read_88 rfl ?_
          cases hyp
          refine am_At.drop 3 ?_
          exact hx
        · intro hc6
          have hc6 : x2 = (60 : Int32) := hc6
          replace hyp := it_pos hc6 hyp
          refine am_aload_n dX1_read_68 rfl ?_
          refine am_iconst 3 (v := 3) dX1_read_69 (by decide) ?_
          refine am_callV [_] dX1_read_70 ml_X1_82 vm_X10_blameToken (sh_1 g) rfl (fun _ => Nat.le_of_ble_eq_true rfl) (by omega) rfl (ef_X10_blameToken (d := d + 4) (h := h) g (x1 := (3 : Int32)) (M := M5) rfl) rfl ?_
          change am_At _ _ _ 73 [_, _, _, _] [] _ _
          refine am_aload_n dX1_read_73 rfl ?_
          refine am_aload_n dX1_read_74 rfl ?_
          refine am_iload_n dX1_read_75 rfl ?_
          obtain ⟨M9, hk9, hyp⟩ := bd_some hyp
          try dsimp only at hyp
          refine am_callV [_, _] dX1_read_76 ml_X1_86 vm_X1_readClause (sh_13 g) rfl (fun _ => Nat.le_of_ble_eq_true rfl) (by omega) rfl (ef_X1_readClause (d := d + 2) (h := h) g hk9) rfl ?_
          change am_At _ _ _ 79 [_, _, _, _] [] _ _
          refine am_aload_n dX1_read_79 rfl ?_
          refine am_bipush 59 (v := 59) dX1_read_80 (by decide) ?_
          obtain ⟨M10, hk10, hyp⟩ := bd_some hyp
          try dsimp only at hyp
          refine am_callV [_] dX1_read_82 ml_X1_90 vm_X10_expect (sh_1 g) rfl (fun _ => Nat.le_of_ble_eq_true rfl) (by omega) rfl (ef_X10_expect (d := d + 4) (h := h) g hk10) rfl ?_
          change am_At _ _ _ 85 [_, _, _, _] [] _ _
          refine am_iinc dX1_read_85 rfl (am_ix _) ?_
          change am_At _ _ _ 88 [_, _, _, _] [] _ _
          refine am_goto (-53) 35 dX1_read_88 rfl ?_
          cases hyp
          refine am_At.drop 3 ?_
          exact hx
theorem ef_X1_read {d : Nat} {h : am_H} (g : lay h) {M : Mem} {M' : Mem} (hyp : f_X1_read M = some M') : am_Ev (d + 6) mX1_read [.inr (13, 0), .inr (1, 0)] (am_hM h M) (.inl (none, am_hM h M')) := by
  unfold f_X1_read at hyp
  refine am_Ev.mk (by decide +kernel) rfl rfl (Nat.le_refl _) (Nat.le_refl _) ?_
  change am_At _ _ _ 0 [_, _, _, _] [] _ _
  refine am_aload_n dX1_read_0 rfl ?_
  refine am_iconst 0 (v := 0) dX1_read_1 (by decide) ?_
  refine am_putI 1 0 dX1_read_2 (Or.inl fp_X1_46) (sh_13 g) (by decide) rfl rfl rfl ?_
  refine am_aload_n dX1_read_5 rfl ?_
  refine am_iconst 0 (v := 0) dX1_read_6 (by decide) ?_
  refine am_putI 1 5 dX1_read_7 (Or.inl fp_X1_49) (sh_13 g) (by decide) rfl rfl rfl ?_
  refine am_aload_n dX1_read_10 rfl ?_
  refine am_iconst 0 (v := 0) dX1_read_11 (by decide) ?_
  refine am_putI 1 8 dX1_read_12 (Or.inl fp_X1_52) (sh_13 g) (by decide) rfl rfl rfl ?_
  refine am_aload_n dX1_read_15 rfl ?_
  refine am_iconst 2 (v := 2) dX1_read_16 (by decide) ?_
  refine am_putI 1 12 dX1_read_17 (Or.inl fp_X1_39) (sh_13 g) (by decide) rfl rfl rfl ?_
  refine am_aload_n dX1_read_20 rfl ?_
  refine am_iconst 2 (v := 2) dX1_read_21 (by decide) ?_
  refine am_putI 1 13 dX1_read_22 (Or.inl fp_X1_43) (sh_13 g) (by decide) rfl rfl rfl ?_
  refine am_aload_n dX1_read_25 rfl ?_
  refine am_getR 1 4 17 dX1_read_26 fg_X1_21 (sh_13 g) (by decide) rfl (rf_13_4 g) ?_
  refine am_iconst 0 (v := 0) dX1_read_29 (by decide) ?_
  refine am_callS (c := 0) (k := 0) (n := 0) (w := 0) [_, _] dX1_read_30 ml_X1_61 sm_J7_fill_53178 rfl (fun _ => Nat.le_of_ble_eq_true rfl) (by omega) rfl (ev_fill (d := d + 5) (h := am_hM h (am_u3 (am_u3 (am_u3 (am_u3 (am_u3 M 13 0 0 (0 : Int32)) 13 0 5 (0 : Int32)) 13 0 8 (0 : Int32)) 13 0 12 (2 : Int32)) 13 0 13 (2 : Int32))) (v := (0 : Int32)) (sh_17 g) (by decide)) rfl ?_
  change am_At _ _ _ 33 [_, _, _, _] [] _ _
  refine am_iconst 0 (v := 0) dX1_read_33 (by decide) ?_
  refine am_istore_n dX1_read_34 (am_lb rfl) ?_
  change am_At _ _ _ 35 [_, _, _, _] [] _ _
  obtain ⟨M11, hw11, hyp⟩ := bd_some hyp
  try dsimp only at hyp
  refine eL_X1_read_35 (d := d) (h := h) g  FU ((0 : Int32), (fillM (am_u3 (am_u3 (am_u3 (am_u3 (am_u3 M 13 0 0 (0 : Int32)) 13 0 5 (0 : Int32)) 13 0 8 (0 : Int32)) 13 0 12 (2 : Int32)) 13 0 13 (2 : Int32)) 17 16 (0 : Int32))) M11 hw11 ?_
  change am_At _ _ _ 91 [_, _, _, _] [] _ _
  cases hyp
  exact am_vret dX1_read_91 rfl
theorem eL_X5_boardsIn_4 {d : Nat} {h : am_H} (g : lay h) {x1 : Int32} {M : Mem} {r : am_R} (n : Nat) : ∀ (s : Int32 × Int32) (e : Int32), wh (L_X5_boardsIn_4 x1 M) n s = some e → ((fun (x2 : Int32) => am_At am_X0 (d + 2) mX5_boardsIn 47 [some (.inr (45, 0)), some (am_I (x1)), some (am_I (x2)), none] [] (am_hM h M) r) e) → (match s with | (x2, x3) => am_At am_X0 (d + 2) mX5_boardsIn 4 [some (.inr (45, 0)), some (am_I (x1)), some (am_I (x2)), some (am_I (x3))] [] (am_hM h M) r) := by
  refine am_wh (At := fun (s : Int32 × Int32) => match s with | (x2, x3) => am_At am_X0 (d + 2) mX5_boardsIn 4 [some (.inr (45, 0)), some (am_I (x1)), some (am_I (x2)), some (am_I (x3))] [] (am_hM h M) r) (Ex := fun (e : Int32) => (fun (x2 : Int32) => am_At am_X0 (d + 2) mX5_boardsIn 47 [some (.inr (45, 0)), some (am_I (x1)), some (am_I (x2)), none] [] (am_hM h M) r) e) ?_ n
  rintro ⟨x2, x3⟩ y hyp hx
  unfold L_X5_boardsIn_4 at hyp
  try dsimp only at hyp
  change am_At _ _ _ 4 [_, _, _, _] [] _ _
  refine am_iload_n dX5_boardsIn_4 rfl ?_
  refine am_aload_n dX5_boardsIn_5 rfl ?_
  refine am_getR 5 0 3 dX5_boardsIn_6 fg_X5_27 (sh_45 g) (by decide) rfl (rf_45_0 g) ?_
  refine am_getI 1 0 dX5_boardsIn_9 fg_X5_57 (sh_3 g) (by decide) rfl ?_
  refine am_icmp_ge (35) 47 dX5_boardsIn_12 rfl ?_ ?_
  · intro hc1
    have hc1 : (M 3 0 0) ≤ x3 := hc1
    replace hyp := it_pos hc1 hyp
    cases hyp
    refine am_At.drop 3 ?_
    exact hx
  · intro hc1n
    have hc1n : ¬ ((M 3 0 0) ≤ x3) := hc1n
    replace hyp := it_neg hc1n hyp
    refine am_aload_n dX5_boardsIn_15 rfl ?_
    refine am_getI 5 7 dX5_boardsIn_16 fg_X5_96 (sh_45 g) (by decide) rfl ?_
    refine am_if_le (28) 47 dX5_boardsIn_19 rfl ?_ ?_
    · intro hc2
      have hc2 : (M 45 0 7) ≤ 0 := hc2
      replace hyp := it_pos hc2 hyp
      cases hyp
      refine am_At.drop 3 ?_
      exact hx
    · intro hc2n
      have hc2n : ¬ ((M 45 0 7) ≤ 0) := hc2n
      replace hyp := it_neg hc2n hyp
      refine am_iload_n dX5_boardsIn_22 rfl ?_
      refine am_aload_n dX5_boardsIn_23 rfl ?_
      refine am_iload_n dX5_boardsIn_24 rfl ?_
      obtain ⟨v3, hk3, hyp⟩ := bd_some hyp
      try dsimp only at hyp
      refine am_callV [_] dX5_boardsIn_25 ml_X5_114 vm_X5_setsWith (sh_45 g) rfl (fun _ => Nat.le_of_ble_eq_true rfl) (by omega) rfl (ef_X5_setsWith (d := d + 0) (h := h) g hk3) rfl ?_
      change am_At _ _ _ 28 [_, _, _, _] [_, _] _ _
      refine am_iload_n dX5_boardsIn_28 rfl ?_
      refine am_icmp_ne (9) 38 dX5_boardsIn_29 rfl ?_ ?_
      · intro hc4n
        have hc4n : ¬ (v3 = x1) := hc4n
        replace hyp := it_neg hc4n hyp
        refine am_iconst 0 (v := 0) dX5_boardsIn_38 (by decide) ?_
        refine am_ior dX5_boardsIn_39 ?_
        refine am_istore_n dX5_boardsIn_40 (am_lb rfl) ?_
        change am_At _ _ _ 41 [_, _, _, _] [] _ _
        refine am_iinc dX5_boardsIn_41 rfl (am_ix _) ?_
        change am_At _ _ _ 44 [_, _, _, _] [] _ _
        refine am_goto (-40) 4 dX5_boardsIn_44 rfl ?_
        cases hyp
        exact hx
      · intro hc4
        have hc4 : v3 = x1 := hc4
        replace hyp := it_pos hc4 hyp
        refine am_iconst 1 (v := 1) dX5_boardsIn_32 (by decide) ?_
        refine am_iload_n dX5_boardsIn_33 rfl ?_
        refine am_ishl dX5_boardsIn_34 ?_
        refine am_goto (4) 39 dX5_boardsIn_35 rfl ?_
        refine am_ior dX5_boardsIn_39 ?_
        refine am_istore_n dX5_boardsIn_40 (am_lb rfl) ?_
        change am_At _ _ _ 41 [_, _, _, _] [] _ _
        refine am_iinc dX5_boardsIn_41 rfl (am_ix _) ?_
        change am_At _ _ _ 44 [_, _, _, _] [] _ _
        refine am_goto (-40) 4 dX5_boardsIn_44 rfl ?_
        cases hyp
        exact hx
theorem ef_X5_boardsIn {d : Nat} {h : am_H} (g : lay h) {x1 : Int32} {M : Mem} {v : Int32} (hyp : f_X5_boardsIn x1 M = some v) : am_Ev (d + 2) mX5_boardsIn [.inr (45, 0), am_I x1] (am_hM h M) (.inl (some (am_I v), am_hM h M)) := by
  unfold f_X5_boardsIn at hyp
  refine am_Ev.mk (by decide +kernel) rfl rfl (Nat.le_refl _) (Nat.le_refl _) ?_
  change am_At _ _ _ 0 [_, _, _, _] [] _ _
  refine am_iconst 0 (v := 0) dX5_boardsIn_0 (by decide) ?_
  refine am_istore_n dX5_boardsIn_1 (am_lb rfl) ?_
  change am_At _ _ _ 2 [_, _, _, _] [] _ _
  refine am_iconst 0 (v := 0) dX5_boardsIn_2 (by decide) ?_
  refine am_istore_n dX5_boardsIn_3 (am_lb rfl) ?_
  change am_At _ _ _ 4 [_, _, _, _] [] _ _
  obtain ⟨x2_5, hw5, hyp⟩ := bd_some hyp
  try dsimp only at hyp
  refine eL_X5_boardsIn_4 (d := d) (h := h) g (M := M) FU ((0 : Int32), (0 : Int32)) x2_5 hw5 ?_
  change am_At _ _ _ 47 [_, _, _, _] [] _ _
  refine am_iload_n dX5_boardsIn_47 rfl ?_
  cases hyp
  exact am_iret dX5_boardsIn_48 rfl
theorem ef_X5_boardsInAll {d : Nat} {h : am_H} (g : lay h) {M : Mem} {v : Int32} (hyp : f_X5_boardsInAll M = some v) : am_Ev (d + 3) mX5_boardsInAll [.inr (45, 0)] (am_hM h M) (.inl (some (am_I v), am_hM h M)) := by
  unfold f_X5_boardsInAll at hyp
  refine am_Ev.mk (by decide +kernel) rfl rfl (Nat.le_refl _) (Nat.le_refl _) ?_
  change am_At _ _ _ 0 [_] [] _ _
  refine am_aload_n dX5_boardsInAll_0 rfl ?_
  refine am_aload_n dX5_boardsInAll_1 rfl ?_
  refine am_getI 5 7 dX5_boardsInAll_2 fg_X5_96 (sh_45 g) (by decide) rfl ?_
  obtain ⟨v1, hk1, hyp⟩ := bd_some hyp
  try dsimp only at hyp
  refine am_callV [_] dX5_boardsInAll_5 ml_X5_111 vm_X5_boardsIn (sh_45 g) rfl (fun _ => Nat.le_of_ble_eq_true rfl) (by omega) rfl (ef_X5_boardsIn (d := d + 0) (h := h) g hk1) rfl ?_
  change am_At _ _ _ 8 [_] [_] _ _
  cases hyp
  exact am_iret dX5_boardsInAll_8 rfl
theorem ef_X5_boardsInNone {d : Nat} {h : am_H} (g : lay h) {M : Mem} {v : Int32} (hyp : f_X5_boardsInNone M = some v) : am_Ev (d + 3) mX5_boardsInNone [.inr (45, 0)] (am_hM h M) (.inl (some (am_I v), am_hM h M)) := by
  unfold f_X5_boardsInNone at hyp
  refine am_Ev.mk (by decide +kernel) rfl rfl (Nat.le_refl _) (Nat.le_refl _) ?_
  change am_At _ _ _ 0 [_] [] _ _
  refine am_aload_n dX5_boardsInNone_0 rfl ?_
  refine am_iconst 0 (v := 0) dX5_boardsInNone_1 (by decide) ?_
  obtain ⟨v1, hk1, hyp⟩ := bd_some hyp
  try dsimp only at hyp
  refine am_callV [_] dX5_boardsInNone_2 ml_X5_111 vm_X5_boardsIn (sh_45 g) rfl (fun _ => Nat.le_of_ble_eq_true rfl) (by omega) rfl (ef_X5_boardsIn (d := d + 0) (h := h) g hk1) rfl ?_
  change am_At _ _ _ 5 [_] [_] _ _
  cases hyp
  exact am_iret dX5_boardsInNone_5 rfl
theorem eL_X5_firstSet_26 {d : Nat} {h : am_H} (g : lay h) {M : Mem} {r : am_R} (n : Nat) : ∀ (s : Int32 × Int32 × Int32) (e : Int32), wh (L_X5_firstSet_26 M) n s = some e → ((fun (x1 : Int32) => am_At am_X0 (d + 2) mX5_firstSet 87 [some (.inr (45, 0)), some (am_I (x1)), none, none] [] (am_hM h M) r) e) → (match s with | (x1, x2, x3) => am_At am_X0 (d + 2) mX5_firstSet 26 [some (.inr (45, 0)), some (am_I (x1)), some (am_I (x2)), some (am_I (x3))] [] (am_hM h M) r) := by
  refine am_wh (At := fun (s : Int32 × Int32 × Int32) => match s with | (x1, x2, x3) => am_At am_X0 (d + 2) mX5_firstSet 26 [some (.inr (45, 0)), some (am_I (x1)), some (am_I (x2)), some (am_I (x3))] [] (am_hM h M) r) (Ex := fun (e : Int32) => (fun (x1 : Int32) => am_At am_X0 (d + 2) mX5_firstSet 87 [some (.inr (45, 0)), some (am_I (x1)), none, none] [] (am_hM h M) r) e) ?_ n
  rintro ⟨x1, x2, x3⟩ y hyp hx
  unfold L_X5_firstSet_26 at hyp
  try dsimp only at hyp
  change am_At _ _ _ 26 [_, _, _, _] [] _ _
  refine am_iload_n dX5_firstSet_26 rfl ?_
  refine am_if_lt (60) 87 dX5_firstSet_27 rfl ?_ ?_
  · intro hc3
    have hc3 : x3 < 0 := hc3
    replace hyp := it_pos hc3 hyp
    cases hyp
    refine am_At.drop 2 ?_
    refine am_At.drop 3 ?_
    exact hx
  · intro hc3n
    have hc3n : ¬ (x3 < 0) := hc3n
    replace hyp := it_neg hc3n hyp
    refine am_iload_n dX5_firstSet_30 rfl ?_
    refine am_iload_n dX5_firstSet_31 rfl ?_
    refine am_aload_n dX5_firstSet_32 rfl ?_
    refine am_getR 5 0 3 dX5_firstSet_33 fg_X5_27 (sh_45 g) (by decide) rfl (rf_45_0 g) ?_
    refine am_getI 1 13 dX5_firstSet_36 fg_X5_74 (sh_3 g) (by decide) rfl ?_
    refine am_ishr dX5_firstSet_39 ?_
    refine am_iconst 1 (v := 1) dX5_firstSet_40 (by decide) ?_
    refine am_iand dX5_firstSet_41 ?_
    refine am_iload_n dX5_firstSet_42 rfl ?_
    refine am_ishl dX5_firstSet_43 ?_
    refine am_ior dX5_firstSet_44 ?_
    refine am_istore_n dX5_firstSet_45 (am_lb rfl) ?_
    change am_At _ _ _ 46 [_, _, _, _] [] _ _
    refine am_iload_n dX5_firstSet_46 rfl ?_
    refine am_iconst 1 (v := 1) dX5_firstSet_47 (by decide) ?_
    refine am_ishl dX5_firstSet_48 ?_
    refine am_aload_n dX5_firstSet_49 rfl ?_
    refine am_callV [] dX5_firstSet_50 ml_X5_77 vm_X5_windows (sh_45 g) rfl (fun _ => Nat.le_of_ble_eq_true rfl) (by omega) rfl (ef_X5_windows (d := d + 1) (h := h) g  (M := M) rfl) rfl ?_
    change am_At _ _ _ 53 [_, _, _, _] [_, _] _ _
    refine am_iconst 1 (v := 1) dX5_firstSet_53 (by decide) ?_
    refine am_isub dX5_firstSet_54 ?_
    refine am_iand dX5_firstSet_55 ?_
    refine am_istore_n dX5_firstSet_56 (am_lb rfl) ?_
    change am_At _ _ _ 57 [_, _, _, _] [] _ _
    refine am_iload_n dX5_firstSet_57 rfl ?_
    refine am_if_le (23) 81 dX5_firstSet_58 rfl ?_ ?_
    · intro hc4
      have hc4 : x3 ≤ 0 := hc4
      replace hyp := it_pos hc4 hyp
      refine am_iinc dX5_firstSet_81 rfl (am_dx _) ?_
      change am_At _ _ _ 84 [_, _, _, _] [] _ _
      refine am_goto (-58) 26 dX5_firstSet_84 rfl ?_
      cases hyp
      exact hx
    · intro hc4n
      have hc4n : ¬ (x3 ≤ 0) := hc4n
      replace hyp := it_neg hc4n hyp
      refine am_aload_n dX5_firstSet_61 rfl ?_
      refine am_getR 5 4 48 dX5_firstSet_62 fg_X5_18 (sh_45 g) (by decide) rfl (rf_45_4 g) ?_
      refine am_iload_n dX5_firstSet_65 rfl ?_
      refine am_iconst 1 (v := 1) dX5_firstSet_66 (by decide) ?_
      refine am_isub dX5_firstSet_67 ?_
      refine am_bipush 32 (v := 32) dX5_firstSet_68 (by decide) ?_
      refine am_imul dX5_firstSet_70 ?_
      refine am_iload_n dX5_firstSet_71 rfl ?_
      refine am_iadd dX5_firstSet_72 ?_
      obtain ⟨hg5, hyp⟩ := gd_some hyp
      refine am_iald dX5_firstSet_73 (am_ia.one (sh_48 g)) (am_lit hg5) ?_
      refine am_if_ne (7) 81 dX5_firstSet_74 rfl ?_ ?_
      · intro hc6n
        have hc6n : ¬ ((M 48 0 ((((x3 - (1 : Int32)) * (32 : Int32)) + ((x2 <<< ((1 : Int32) &&& 31)) &&& (((2 : Int32) <<< ((M 3 0 13) &&& 31)) - (1 : Int32)))).toNatClampNeg)) = 0) := hc6n
        replace hyp := it_neg hc6n hyp
        refine am_iinc dX5_firstSet_81 rfl (am_dx _) ?_
        change am_At _ _ _ 84 [_, _, _, _] [] _ _
        refine am_goto (-58) 26 dX5_firstSet_84 rfl ?_
        cases hyp
        exact hx
      · intro hc6
        have hc6 : (M 48 0 ((((x3 - (1 : Int32)) * (32 : Int32)) + ((x2 <<< ((1 : Int32) &&& 31)) &&& (((2 : Int32) <<< ((M 3 0 13) &&& 31)) - (1 : Int32)))).toNatClampNeg)) = 0 := hc6
        replace hyp := it_pos hc6 hyp
        refine am_iload_n dX5_firstSet_77 rfl ?_
        refine am_iconst 1 (v := 1) dX5_firstSet_78 (by decide) ?_
        refine am_ior dX5_firstSet_79 ?_
        refine am_istore_n dX5_firstSet_80 (am_lb rfl) ?_
        change am_At _ _ _ 81 [_, _, _, _] [] _ _
        refine am_iinc dX5_firstSet_81 rfl (am_dx _) ?_
        change am_At _ _ _ 84 [_, _, _, _] [] _ _
        refine am_goto (-58) 26 dX5_firstSet_84 rfl ?_
        cases hyp
        exact hx
theorem ef_X5_firstSet {d : Nat} {h : am_H} (g : lay h) {M : Mem} {v : Int32} (hyp : f_X5_firstSet M = some v) : am_Ev (d + 2) mX5_firstSet [.inr (45, 0)] (am_hM h M) (.inl (some (am_I v), am_hM h M)) := by
  unfold f_X5_firstSet at hyp
  refine am_Ev.mk (by decide +kernel) rfl rfl (Nat.le_refl _) (Nat.le_refl _) ?_
  change am_At _ _ _ 0 [_, _, _, _] [] _ _
  refine am_aload_n dX5_firstSet_0 rfl ?_
  refine am_getI 5 7 dX5_firstSet_1 fg_X5_96 (sh_45 g) (by decide) rfl ?_
  refine am_if_ne (5) 9 dX5_firstSet_4 rfl ?_ ?_
  · intro hc1n
    have hc1n : ¬ ((M 45 0 7) = 0) := hc1n
    replace hyp := it_neg hc1n hyp
    refine am_iconst 0 (v := 0) dX5_firstSet_9 (by decide) ?_
    refine am_istore_n dX5_firstSet_10 (am_lb rfl) ?_
    change am_At _ _ _ 11 [_, _, _, _] [] _ _
    refine am_aload_n dX5_firstSet_11 rfl ?_
    obtain ⟨v2, hk2, hyp⟩ := bd_some hyp
    try dsimp only at hyp
    refine am_callV [] dX5_firstSet_12 ml_X5_108 vm_X5_leastWindow (sh_45 g) rfl (fun _ => Nat.le_of_ble_eq_true rfl) (by omega) rfl (ef_X5_leastWindow (d := d + 0) (h := h) g hk2) rfl ?_
    change am_At _ _ _ 15 [_, _, _, _] [_] _ _
    refine am_istore_n dX5_firstSet_15 (am_lb rfl) ?_
    change am_At _ _ _ 16 [_, _, _, _] [] _ _
    refine am_aload_n dX5_firstSet_16 rfl ?_
    refine am_getR 5 0 3 dX5_firstSet_17 fg_X5_27 (sh_45 g) (by decide) rfl (rf_45_0 g) ?_
    refine am_getI 1 0 dX5_firstSet_20 fg_X5_57 (sh_3 g) (by decide) rfl ?_
    refine am_iconst 1 (v := 1) dX5_firstSet_23 (by decide) ?_
    refine am_isub dX5_firstSet_24 ?_
    refine am_istore_n dX5_firstSet_25 (am_lb rfl) ?_
    change am_At _ _ _ 26 [_, _, _, _] [] _ _
    obtain ⟨x1_7, hw7, hyp⟩ := bd_some hyp
    try dsimp only at hyp
    refine eL_X5_firstSet_26 (d := d) (h := h) g (M := M) FU ((0 : Int32), v2, (M 3 0 0) - (1 : Int32)) x1_7 hw7 ?_
    change am_At _ _ _ 87 [_, _, _, _] [] _ _
    refine am_iload_n dX5_firstSet_87 rfl ?_
    cases hyp
    exact am_iret dX5_firstSet_88 rfl
  · intro hc1
    have hc1 : (M 45 0 7) = 0 := hc1
    replace hyp := it_pos hc1 hyp
    refine am_iconst (-1) (v := (-1)) dX5_firstSet_7 (by decide) ?_
    cases hyp
    exact am_iret dX5_firstSet_8 rfl
theorem eL_X5_weigh_31_46 {d : Nat} {h : am_H} (g : lay h) (hN : h.2.2 45 1 = some 46 ∧ h.2.2 45 2 = some 47) {x1 : Int32} {r : am_R} (n : Nat) : ∀ (s : Int32 × Mem) (e : Mem), wh (L_X5_weigh_31 46 47 x1) n s = some e → ((fun (M : Mem) => am_At am_X0 (d + 4) mX5_weigh 51 [some (.inr (45, 0)), some (am_I (x1)), none] [] (am_hM h M) r) e) → (match s with | (x2, M) => am_At am_X0 (d + 4) mX5_weigh 31 [some (.inr (45, 0)), some (am_I (x1)), some (am_I (x2))] [] (am_hM h M) r) := by
  refine am_wh (At := fun (s : Int32 × Mem) => match s with | (x2, M) => am_At am_X0 (d + 4) mX5_weigh 31 [some (.inr (45, 0)), some (am_I (x1)), some (am_I (x2))] [] (am_hM h M) r) (Ex := fun (e : Mem) => (fun (M : Mem) => am_At am_X0 (d + 4) mX5_weigh 51 [some (.inr (45, 0)), some (am_I (x1)), none] [] (am_hM h M) r) e) ?_ n
  rintro ⟨x2, M⟩ y hyp hx
  unfold L_X5_weigh_31 at hyp
  try dsimp only at hyp
  change am_At _ _ _ 31 [_, _, _] [] _ _
  refine am_iload_n dX5_weigh_31 rfl ?_
  refine am_aload_n dX5_weigh_32 rfl ?_
  refine am_callV [] dX5_weigh_33 ml_X5_77 vm_X5_windows (sh_45 g) rfl (fun _ => Nat.le_of_ble_eq_true rfl) (by omega) rfl (ef_X5_windows (d := d + 3) (h := h) g  (M := M) rfl) rfl ?_
  change am_At _ _ _ 36 [_, _, _] [_, _] _ _
  refine am_icmp_ge (15) 51 dX5_weigh_36 rfl ?_ ?_
  · intro hc2
    have hc2 : ((2 : Int32) <<< ((M 3 0 13) &&& 31)) ≤ x2 := hc2
    replace hyp := it_pos hc2 hyp
    cases hyp
    refine am_At.drop 2 ?_
    exact hx
  · intro hc2n
    have hc2n : ¬ (((2 : Int32) <<< ((M 3 0 13) &&& 31)) ≤ x2) := hc2n
    replace hyp := it_neg hc2n hyp
    refine am_aload_n dX5_weigh_39 rfl ?_
    refine am_iload_n dX5_weigh_40 rfl ?_
    refine am_iload_n dX5_weigh_41 rfl ?_
    obtain ⟨M3, hk3, hyp⟩ := bd_some hyp
    try dsimp only at hyp
    refine am_callV [_, _] dX5_weigh_42 ml_X5_89 vm_X5_weighTo (sh_45 g) rfl (fun _ => Nat.le_of_ble_eq_true rfl) (by omega) rfl (ef_X5_weighTo_46 (d := d + 0) (h := h) g hN hk3) rfl ?_
    change am_At _ _ _ 45 [_, _, _] [] _ _
    refine am_iinc dX5_weigh_45 rfl (am_ix _) ?_
    change am_At _ _ _ 48 [_, _, _] [] _ _
    refine am_goto (-17) 31 dX5_weigh_48 rfl ?_
    cases hyp
    exact hx
theorem eL_X5_weigh_18_46 {d : Nat} {h : am_H} (g : lay h) (hN : h.2.2 45 1 = some 46 ∧ h.2.2 45 2 = some 47) {r : am_R} (n : Nat) : ∀ (s : Int32 × Mem) (e : Mem), wh (L_X5_weigh_18 46 47) n s = some e → ((fun (M : Mem) => am_At am_X0 (d + 4) mX5_weigh 57 [some (.inr (45, 0)), none, none] [] (am_hM h M) r) e) → (match s with | (x1, M) => am_At am_X0 (d + 4) mX5_weigh 18 [some (.inr (45, 0)), some (am_I (x1)), none] [] (am_hM h M) r) := by
  refine am_wh (At := fun (s : Int32 × Mem) => match s with | (x1, M) => am_At am_X0 (d + 4) mX5_weigh 18 [some (.inr (45, 0)), some (am_I (x1)), none] [] (am_hM h M) r) (Ex := fun (e : Mem) => (fun (M : Mem) => am_At am_X0 (d + 4) mX5_weigh 57 [some (.inr (45, 0)), none, none] [] (am_hM h M) r) e) ?_ n
  rintro ⟨x1, M⟩ y hyp hx
  unfold L_X5_weigh_18 at hyp
  try dsimp only at hyp
  change am_At _ _ _ 18 [_, _, _] [] _ _
  refine am_iload_n dX5_weigh_18 rfl ?_
  refine am_aload_n dX5_weigh_19 rfl ?_
  refine am_getR 5 0 3 dX5_weigh_20 fg_X5_27 (sh_45 g) (by decide) rfl (rf_45_0 g) ?_
  refine am_getI 1 0 dX5_weigh_23 fg_X5_57 (sh_3 g) (by decide) rfl ?_
  refine am_icmp_ge (31) 57 dX5_weigh_26 rfl ?_ ?_
  · intro hc1
    have hc1 : (M 3 0 0) ≤ x1 := hc1
    replace hyp := it_pos hc1 hyp
    cases hyp
    refine am_At.drop 1 ?_
    exact hx
  · intro hc1n
    have hc1n : ¬ ((M 3 0 0) ≤ x1) := hc1n
    replace hyp := it_neg hc1n hyp
    refine am_iconst 0 (v := 0) dX5_weigh_29 (by decide) ?_
    refine am_istore_n dX5_weigh_30 (am_lb rfl) ?_
    change am_At _ _ _ 31 [_, _, _] [] _ _
    obtain ⟨M4, hw4, hyp⟩ := bd_some hyp
    try dsimp only at hyp
    refine eL_X5_weigh_31_46 (d := d) (h := h) g hN  FU ((0 : Int32), M) M4 hw4 ?_
    change am_At _ _ _ 51 [_, _, _] [] _ _
    refine am_iinc dX5_weigh_51 rfl (am_ix _) ?_
    change am_At _ _ _ 54 [_, _, _] [] _ _
    refine am_goto (-36) 18 dX5_weigh_54 rfl ?_
    cases hyp
    exact hx
theorem eL_X5_weigh_73_46 {d : Nat} {h : am_H} (g : lay h) (hN : h.2.2 45 1 = some 46 ∧ h.2.2 45 2 = some 47) {x1 : Int32} {r : am_R} (n : Nat) : ∀ (s : Int32 × Mem) (e : Mem), wh (L_X5_weigh_73 46 47 x1) n s = some e → ((fun (M : Mem) => am_At am_X0 (d + 4) mX5_weigh 93 [some (.inr (45, 0)), some (am_I (x1)), none] [] (am_hM h M) r) e) → (match s with | (x2, M) => am_At am_X0 (d + 4) mX5_weigh 73 [some (.inr (45, 0)), some (am_I (x1)), some (am_I (x2))] [] (am_hM h M) r) := by
  refine am_wh (At := fun (s : Int32 × Mem) => match s with | (x2, M) => am_At am_X0 (d + 4) mX5_weigh 73 [some (.inr (45, 0)), some (am_I (x1)), some (am_I (x2))] [] (am_hM h M) r) (Ex := fun (e : Mem) => (fun (M : Mem) => am_At am_X0 (d + 4) mX5_weigh 93 [some (.inr (45, 0)), some (am_I (x1)), none] [] (am_hM h M) r) e) ?_ n
  rintro ⟨x2, M⟩ y hyp hx
  unfold L_X5_weigh_73 at hyp
  try dsimp only at hyp
  change am_At _ _ _ 73 [_, _, _] [] _ _
  refine am_iload_n dX5_weigh_73 rfl ?_
  refine am_aload_n dX5_weigh_74 rfl ?_
  refine am_callV [] dX5_weigh_75 ml_X5_77 vm_X5_windows (sh_45 g) rfl (fun _ => Nat.le_of_ble_eq_true rfl) (by omega) rfl (ef_X5_windows (d := d + 3) (h := h) g  (M := M) rfl) rfl ?_
  change am_At _ _ _ 78 [_, _, _] [_, _] _ _
  refine am_icmp_ge (15) 93 dX5_weigh_78 rfl ?_ ?_
  · intro hc7
    have hc7 : ((2 : Int32) <<< ((M 3 0 13) &&& 31)) ≤ x2 := hc7
    replace hyp := it_pos hc7 hyp
    cases hyp
    refine am_At.drop 2 ?_
    exact hx
  · intro hc7n
    have hc7n : ¬ (((2 : Int32) <<< ((M 3 0 13) &&& 31)) ≤ x2) := hc7n
    replace hyp := it_neg hc7n hyp
    refine am_aload_n dX5_weigh_81 rfl ?_
    refine am_iload_n dX5_weigh_82 rfl ?_
    refine am_iload_n dX5_weigh_83 rfl ?_
    obtain ⟨M8, hk8, hyp⟩ := bd_some hyp
    try dsimp only at hyp
    refine am_callV [_, _] dX5_weigh_84 ml_X5_93 vm_X5_weighOn (sh_45 g) rfl (fun _ => Nat.le_of_ble_eq_true rfl) (by omega) rfl (ef_X5_weighOn_46 (d := d + 0) (h := h) g hN hk8) rfl ?_
    change am_At _ _ _ 87 [_, _, _] [] _ _
    refine am_iinc dX5_weigh_87 rfl (am_ix _) ?_
    change am_At _ _ _ 90 [_, _, _] [] _ _
    refine am_goto (-17) 73 dX5_weigh_90 rfl ?_
    cases hyp
    exact hx
theorem eL_X5_weigh_67_46 {d : Nat} {h : am_H} (g : lay h) (hN : h.2.2 45 1 = some 46 ∧ h.2.2 45 2 = some 47) {r : am_R} (n : Nat) : ∀ (s : Int32 × Mem) (e : Mem), wh (L_X5_weigh_67 46 47) n s = some e → ((fun (M : Mem) => am_At am_X0 (d + 4) mX5_weigh 99 [some (.inr (45, 0)), none, none] [] (am_hM h M) r) e) → (match s with | (x1, M) => am_At am_X0 (d + 4) mX5_weigh 67 [some (.inr (45, 0)), some (am_I (x1)), none] [] (am_hM h M) r) := by
  refine am_wh (At := fun (s : Int32 × Mem) => match s with | (x1, M) => am_At am_X0 (d + 4) mX5_weigh 67 [some (.inr (45, 0)), some (am_I (x1)), none] [] (am_hM h M) r) (Ex := fun (e : Mem) => (fun (M : Mem) => am_At am_X0 (d + 4) mX5_weigh 99 [some (.inr (45, 0)), none, none] [] (am_hM h M) r) e) ?_ n
  rintro ⟨x1, M⟩ y hyp hx
  unfold L_X5_weigh_67 at hyp
  try dsimp only at hyp
  change am_At _ _ _ 67 [_, _, _] [] _ _
  refine am_iload_n dX5_weigh_67 rfl ?_
  refine am_if_lt (31) 99 dX5_weigh_68 rfl ?_ ?_
  · intro hc6
    have hc6 : x1 < 0 := hc6
    replace hyp := it_pos hc6 hyp
    cases hyp
    refine am_At.drop 1 ?_
    exact hx
  · intro hc6n
    have hc6n : ¬ (x1 < 0) := hc6n
    replace hyp := it_neg hc6n hyp
    refine am_iconst 0 (v := 0) dX5_weigh_71 (by decide) ?_
    refine am_istore_n dX5_weigh_72 (am_lb rfl) ?_
    change am_At _ _ _ 73 [_, _, _] [] _ _
    obtain ⟨M9, hw9, hyp⟩ := bd_some hyp
    try dsimp only at hyp
    refine eL_X5_weigh_73_46 (d := d) (h := h) g hN  FU ((0 : Int32), M) M9 hw9 ?_
    change am_At _ _ _ 93 [_, _, _] [] _ _
    refine am_iinc dX5_weigh_93 rfl (am_dx _) ?_
    change am_At _ _ _ 96 [_, _, _] [] _ _
    refine am_goto (-29) 67 dX5_weigh_96 rfl ?_
    cases hyp
    exact hx
theorem eL_X5_weigh_120_46 {d : Nat} {h : am_H} (g : lay h) (hN : h.2.2 45 1 = some 46 ∧ h.2.2 45 2 = some 47) {r : am_R} (n : Nat) : ∀ (s : Int32 × Mem) (e : Mem), wh (L_X5_weigh_120 46 47) n s = some e → ((fun (M : Mem) => am_At am_X0 (d + 4) mX5_weigh 167 [some (.inr (45, 0)), none, none] [] (am_hM h M) r) e) → (match s with | (x1, M) => am_At am_X0 (d + 4) mX5_weigh 120 [some (.inr (45, 0)), some (am_I (x1)), none] [] (am_hM h M) r) := by
  refine am_wh (At := fun (s : Int32 × Mem) => match s with | (x1, M) => am_At am_X0 (d + 4) mX5_weigh 120 [some (.inr (45, 0)), some (am_I (x1)), none] [] (am_hM h M) r) (Ex := fun (e : Mem) => (fun (M : Mem) => am_At am_X0 (d + 4) mX5_weigh 167 [some (.inr (45, 0)), none, none] [] (am_hM h M) r) e) ?_ n
  rintro ⟨x1, M⟩ y hyp hx
  unfold L_X5_weigh_120 at hyp
  try dsimp only at hyp
  change am_At _ _ _ 120 [_, _, _] [] _ _
  refine am_aload_n dX5_weigh_120 rfl ?_
  refine am_getR 5 0 3 dX5_weigh_121 fg_X5_27 (sh_45 g) (by decide) rfl (rf_45_0 g) ?_
  refine am_getI 1 0 dX5_weigh_124 fg_X5_57 (sh_3 g) (by decide) rfl ?_
  refine am_if_le (40) 167 dX5_weigh_127 rfl ?_ ?_
  · intro hc12
    have hc12 : (M 3 0 0) ≤ 0 := hc12
    replace hyp := it_pos hc12 hyp
    cases hyp
    refine am_At.drop 1 ?_
    exact hx
  · intro hc12n
    have hc12n : ¬ ((M 3 0 0) ≤ 0) := hc12n
    replace hyp := it_neg hc12n hyp
    refine am_iload_n dX5_weigh_130 rfl ?_
    refine am_aload_n dX5_weigh_131 rfl ?_
    refine am_callV [] dX5_weigh_132 ml_X5_77 vm_X5_windows (sh_45 g) rfl (fun _ => Nat.le_of_ble_eq_true rfl) (by omega) rfl (ef_X5_windows (d := d + 3) (h := h) g  (M := M) rfl) rfl ?_
    change am_At _ _ _ 135 [_, _, _] [_, _] _ _
    refine am_icmp_ge (32) 167 dX5_weigh_135 rfl ?_ ?_
    · intro hc13
      have hc13 : ((2 : Int32) <<< ((M 3 0 13) &&& 31)) ≤ x1 := hc13
      replace hyp := it_pos hc13 hyp
      cases hyp
      refine am_At.drop 1 ?_
      exact hx
    · intro hc13n
      have hc13n : ¬ (((2 : Int32) <<< ((M 3 0 13) &&& 31)) ≤ x1) := hc13n
      replace hyp := it_neg hc13n hyp
      refine am_aload_n dX5_weigh_138 rfl ?_
      refine am_dup dX5_weigh_139 (fun _ => rfl) ?_
      refine am_getI 5 7 dX5_weigh_140 fg_X5_96 (sh_45 g) (by decide) rfl ?_
      refine am_aload_n dX5_weigh_143 rfl ?_
      refine am_aload_n dX5_weigh_144 rfl ?_
      refine am_getR 5 0 3 dX5_weigh_145 fg_X5_27 (sh_45 g) (by decide) rfl (rf_45_0 g) ?_
      refine am_getI 1 0 dX5_weigh_148 fg_X5_57 (sh_3 g) (by decide) rfl ?_
      refine am_iconst 1 (v := 1) dX5_weigh_151 (by decide) ?_
      refine am_isub dX5_weigh_152 ?_
      refine am_iload_n dX5_weigh_153 rfl ?_
      obtain ⟨v14, hk14, hyp⟩ := bd_some hyp
      try dsimp only at hyp
      refine am_callV [_, _] dX5_weigh_154 ml_X5_99 vm_X5_waysBy (sh_45 g) rfl (fun _ => Nat.le_of_ble_eq_true rfl) (by omega) rfl (ef_X5_waysBy (d := d + 3) (h := h) g hk14) rfl ?_
      change am_At _ _ _ 157 [_, _, _] [_, _, _] _ _
      refine am_iadd dX5_weigh_157 ?_
      refine am_putI 5 7 dX5_weigh_158 (Or.inl fp_X5_96) (sh_45 g) (by decide) rfl rfl rfl ?_
      refine am_iinc dX5_weigh_161 rfl (am_ix _) ?_
      change am_At _ _ _ 164 [_, _, _] [] _ _
      refine am_goto (-44) 120 dX5_weigh_164 rfl ?_
      cases hyp
      exact hx
theorem ef_X5_weigh_46 {d : Nat} {h : am_H} (g : lay h) (hN : h.2.2 45 1 = some 46 ∧ h.2.2 45 2 = some 47) {M : Mem} {M' : Mem} (hyp : f_X5_weigh 46 47 M = some M') : am_Ev (d + 4) mX5_weigh [.inr (45, 0)] (am_hM h M) (.inl (none, am_hM h M')) := by
  unfold f_X5_weigh at hyp
  refine am_Ev.mk (by decide +kernel) rfl rfl (Nat.le_refl _) (Nat.le_refl _) ?_
  change am_At _ _ _ 0 [_, _, _] [] _ _
  refine am_aload_n dX5_weigh_0 rfl ?_
  refine am_getR 5 4 48 dX5_weigh_1 fg_X5_18 (sh_45 g) (by decide) rfl (rf_45_4 g) ?_
  refine am_iconst 0 (v := 0) dX5_weigh_4 (by decide) ?_
  refine am_callS (c := 0) (k := 0) (n := 0) (w := 0) [_, _] dX5_weigh_5 ml_X5_34 sm_J7_fill_53178 rfl (fun _ => Nat.le_of_ble_eq_true rfl) (by omega) rfl (ev_fill (d := d + 3) (h := am_hM h M) (v := (0 : Int32)) (sh_48 g) (by decide)) rfl ?_
  change am_At _ _ _ 8 [_, _, _] [] _ _
  refine am_aload_n dX5_weigh_8 rfl ?_
  refine am_getR 5 5 49 dX5_weigh_9 fg_X5_21 (sh_45 g) (by decide) rfl (rf_45_5 g) ?_
  refine am_iconst 0 (v := 0) dX5_weigh_12 (by decide) ?_
  refine am_callS (c := 0) (k := 0) (n := 0) (w := 0) [_, _] dX5_weigh_13 ml_X5_34 sm_J7_fill_53178 rfl (fun _ => Nat.le_of_ble_eq_true rfl) (by omega) rfl (ev_fill (d := d + 3) (h := am_hM h (fillM M 48 512 (0 : Int32))) (v := (0 : Int32)) (sh_49 g) (by decide)) rfl ?_
  change am_At _ _ _ 16 [_, _, _] [] _ _
  refine am_iconst 0 (v := 0) dX5_weigh_16 (by decide) ?_
  refine am_istore_n dX5_weigh_17 (am_lb rfl) ?_
  change am_At _ _ _ 18 [_, _, _] [] _ _
  obtain ⟨M5, hw5, hyp⟩ := bd_some hyp
  try dsimp only at hyp
  refine eL_X5_weigh_18_46 (d := d) (h := h) g hN  FU ((0 : Int32), (fillM (fillM M 48 512 (0 : Int32)) 49 512 (0 : Int32))) M5 hw5 ?_
  change am_At _ _ _ 57 [_, _, _] [] _ _
  refine am_aload_n dX5_weigh_57 rfl ?_
  refine am_getR 5 0 3 dX5_weigh_58 fg_X5_27 (sh_45 g) (by decide) rfl (rf_45_0 g) ?_
  refine am_getI 1 0 dX5_weigh_61 fg_X5_57 (sh_3 g) (by decide) rfl ?_
  refine am_iconst 1 (v := 1) dX5_weigh_64 (by decide) ?_
  refine am_isub dX5_weigh_65 ?_
  refine am_istore_n dX5_weigh_66 (am_lb rfl) ?_
  change am_At _ _ _ 67 [_, _, _] [] _ _
  obtain ⟨M10, hw10, hyp⟩ := bd_some hyp
  try dsimp only at hyp
  refine eL_X5_weigh_67_46 (d := d) (h := h) g hN  FU ((M5 3 0 0) - (1 : Int32), M5) M10 hw10 ?_
  change am_At _ _ _ 99 [_, _, _] [] _ _
  refine am_aload_n dX5_weigh_99 rfl ?_
  refine am_aload_n dX5_weigh_100 rfl ?_
  refine am_getR 5 0 3 dX5_weigh_101 fg_X5_27 (sh_45 g) (by decide) rfl (rf_45_0 g) ?_
  refine am_getI 1 0 dX5_weigh_104 fg_X5_57 (sh_3 g) (by decide) rfl ?_
  refine am_if_ne (7) 114 dX5_weigh_107 rfl ?_ ?_
  · intro hc11n
    have hc11n : ¬ ((M10 3 0 0) = 0) := hc11n
    replace hyp := it_neg hc11n hyp
    refine am_iconst 0 (v := 0) dX5_weigh_114 (by decide) ?_
    refine am_putI 5 7 dX5_weigh_115 (Or.inl fp_X5_96) (sh_45 g) (by decide) rfl rfl rfl ?_
    refine am_iconst 0 (v := 0) dX5_weigh_118 (by decide) ?_
    refine am_istore_n dX5_weigh_119 (am_lb rfl) ?_
    change am_At _ _ _ 120 [_, _, _] [] _ _
    obtain ⟨M15, hw15, hyp⟩ := bd_some hyp
    try dsimp only at hyp
    refine eL_X5_weigh_120_46 (d := d) (h := h) g hN  FU ((0 : Int32), (am_u3 M10 45 0 7 (0 : Int32))) M15 hw15 ?_
    change am_At _ _ _ 167 [_, _, _] [] _ _
    cases hyp
    exact am_vret dX5_weigh_167 rfl
  · intro hc11
    have hc11 : (M10 3 0 0) = 0 := hc11
    replace hyp := it_pos hc11 hyp
    refine am_iconst 1 (v := 1) dX5_weigh_110 (by decide) ?_
    refine am_goto (4) 115 dX5_weigh_111 rfl ?_
    refine am_putI 5 7 dX5_weigh_115 (Or.inl fp_X5_96) (sh_45 g) (by decide) rfl rfl rfl ?_
    refine am_iconst 0 (v := 0) dX5_weigh_118 (by decide) ?_
    refine am_istore_n dX5_weigh_119 (am_lb rfl) ?_
    change am_At _ _ _ 120 [_, _, _] [] _ _
    obtain ⟨M16, hw16, hyp⟩ := bd_some hyp
    try dsimp only at hyp
    refine eL_X5_weigh_120_46 (d := d) (h := h) g hN  FU ((0 : Int32), (am_u3 M10 45 0 7 (1 : Int32))) M16 hw16 ?_
    change am_At _ _ _ 167 [_, _, _] [] _ _
    cases hyp
    exact am_vret dX5_weigh_167 rfl
theorem eL_X5_weigh_31_47 {d : Nat} {h : am_H} (g : lay h) (hN : h.2.2 45 1 = some 47 ∧ h.2.2 45 2 = some 46) {x1 : Int32} {r : am_R} (n : Nat) : ∀ (s : Int32 × Mem) (e : Mem), wh (L_X5_weigh_31 47 46 x1) n s = some e → ((fun (M : Mem) => am_At am_X0 (d + 4) mX5_weigh 51 [some (.inr (45, 0)), some (am_I (x1)), none] [] (am_hM h M) r) e) → (match s with | (x2, M) => am_At am_X0 (d + 4) mX5_weigh 31 [some (.inr (45, 0)), some (am_I (x1)), some (am_I (x2))] [] (am_hM h M) r) := by
  refine am_wh (At := fun (s : Int32 × Mem) => match s with | (x2, M) => am_At am_X0 (d + 4) mX5_weigh 31 [some (.inr (45, 0)), some (am_I (x1)), some (am_I (x2))] [] (am_hM h M) r) (Ex := fun (e : Mem) => (fun (M : Mem) => am_At am_X0 (d + 4) mX5_weigh 51 [some (.inr (45, 0)), some (am_I (x1)), none] [] (am_hM h M) r) e) ?_ n
  rintro ⟨x2, M⟩ y hyp hx
  unfold L_X5_weigh_31 at hyp
  try dsimp only at hyp
  change am_At _ _ _ 31 [_, _, _] [] _ _
  refine am_iload_n dX5_weigh_31 rfl ?_
  refine am_aload_n dX5_weigh_32 rfl ?_
  refine am_callV [] dX5_weigh_33 ml_X5_77 vm_X5_windows (sh_45 g) rfl (fun _ => Nat.le_of_ble_eq_true rfl) (by omega) rfl (ef_X5_windows (d := d + 3) (h := h) g  (M := M) rfl) rfl ?_
  change am_At _ _ _ 36 [_, _, _] [_, _] _ _
  refine am_icmp_ge (15) 51 dX5_weigh_36 rfl ?_ ?_
  · intro hc2
    have hc2 : ((2 : Int32) <<< ((M 3 0 13) &&& 31)) ≤ x2 := hc2
    replace hyp := it_pos hc2 hyp
    cases hyp
    refine am_At.drop 2 ?_
    exact hx
  · intro hc2n
    have hc2n : ¬ (((2 : Int32) <<< ((M 3 0 13) &&& 31)) ≤ x2) := hc2n
    replace hyp := it_neg hc2n hyp
    refine am_aload_n dX5_weigh_39 rfl ?_
    refine am_iload_n dX5_weigh_40 rfl ?_
    refine am_iload_n dX5_weigh_41 rfl ?_
    obtain ⟨M3, hk3, hyp⟩ := bd_some hyp
    try dsimp only at hyp
    refine am_callV [_, _] dX5_weigh_42 ml_X5_89 vm_X5_weighTo (sh_45 g) rfl (fun _ => Nat.le_of_ble_eq_true rfl) (by omega) rfl (ef_X5_weighTo_47 (d := d + 0) (h := h) g hN hk3) rfl ?_
    change am_At _ _ _ 45 [_, _, _] [] _ _
    refine am_iinc dX5_weigh_45 rfl (am_ix _) ?_
    change am_At _ _ _ 48 [_, _, _] [] _ _
    refine am_goto (-17) 31 dX5_weigh_48 rfl ?_
    cases hyp
    exact hx
theorem eL_X5_weigh_18_47 {d : Nat} {h : am_H} (g : lay h) (hN : h.2.2 45 1 = some 47 ∧ h.2.2 45 2 = some 46) {r : am_R} (n : Nat) : ∀ (s : Int32 × Mem) (e : Mem), wh (L_X5_weigh_18 47 46) n s = some e → ((fun (M : Mem) => am_At am_X0 (d + 4) mX5_weigh 57 [some (.inr (45, 0)), none, none] [] (am_hM h M) r) e) → (match s with | (x1, M) => am_At am_X0 (d + 4) mX5_weigh 18 [some (.inr (45, 0)), some (am_I (x1)), none] [] (am_hM h M) r) := by
  refine am_wh (At := fun (s : Int32 × Mem) => match s with | (x1, M) => am_At am_X0 (d + 4) mX5_weigh 18 [some (.inr (45, 0)), some (am_I (x1)), none] [] (am_hM h M) r) (Ex := fun (e : Mem) => (fun (M : Mem) => am_At am_X0 (d + 4) mX5_weigh 57 [some (.inr (45, 0)), none, none] [] (am_hM h M) r) e) ?_ n
  rintro ⟨x1, M⟩ y hyp hx
  unfold L_X5_weigh_18 at hyp
  try dsimp only at hyp
  change am_At _ _ _ 18 [_, _, _] [] _ _
  refine am_iload_n dX5_weigh_18 rfl ?_
  refine am_aload_n dX5_weigh_19 rfl ?_
  refine am_getR 5 0 3 dX5_weigh_20 fg_X5_27 (sh_45 g) (by decide) rfl (rf_45_0 g) ?_
  refine am_getI 1 0 dX5_weigh_23 fg_X5_57 (sh_3 g) (by decide) rfl ?_
  refine am_icmp_ge (31) 57 dX5_weigh_26 rfl ?_ ?_
  · intro hc1
    have hc1 : (M 3 0 0) ≤ x1 := hc1
    replace hyp := it_pos hc1 hyp
    cases hyp
    refine am_At.drop 1 ?_
    exact hx
  · intro hc1n
    have hc1n : ¬ ((M 3 0 0) ≤ x1) := hc1n
    replace hyp := it_neg hc1n hyp
    refine am_iconst 0 (v := 0) dX5_weigh_29 (by decide) ?_
    refine am_istore_n dX5_weigh_30 (am_lb rfl) ?_
    change am_At _ _ _ 31 [_, _, _] [] _ _
    obtain ⟨M4, hw4, hyp⟩ := bd_some hyp
    try dsimp only at hyp
    refine eL_X5_weigh_31_47 (d := d) (h := h) g hN  FU ((0 : Int32), M) M4 hw4 ?_
    change am_At _ _ _ 51 [_, _, _] [] _ _
    refine am_iinc dX5_weigh_51 rfl (am_ix _) ?_
    change am_At _ _ _ 54 [_, _, _] [] _ _
    refine am_goto (-36) 18 dX5_weigh_54 rfl ?_
    cases hyp
    exact hx
theorem eL_X5_weigh_73_47 {d : Nat} {h : am_H} (g : lay h) (hN : h.2.2 45 1 = some 47 ∧ h.2.2 45 2 = some 46) {x1 : Int32} {r : am_R} (n : Nat) : ∀ (s : Int32 × Mem) (e : Mem), wh (L_X5_weigh_73 47 46 x1) n s = some e → ((fun (M : Mem) => am_At am_X0 (d + 4) mX5_weigh 93 [some (.inr (45, 0)), some (am_I (x1)), none] [] (am_hM h M) r) e) → (match s with | (x2, M) => am_At am_X0 (d + 4) mX5_weigh 73 [some (.inr (45, 0)), some (am_I (x1)), some (am_I (x2))] [] (am_hM h M) r) := by
  refine am_wh (At := fun (s : Int32 × Mem) => match s with | (x2, M) => am_At am_X0 (d + 4) mX5_weigh 73 [some (.inr (45, 0)), some (am_I (x1)), some (am_I (x2))] [] (am_hM h M) r) (Ex := fun (e : Mem) => (fun (M : Mem) => am_At am_X0 (d + 4) mX5_weigh 93 [some (.inr (45, 0)), some (am_I (x1)), none] [] (am_hM h M) r) e) ?_ n
  rintro ⟨x2, M⟩ y hyp hx
  unfold L_X5_weigh_73 at hyp
  try dsimp only at hyp
  change am_At _ _ _ 73 [_, _, _] [] _ _
  refine am_iload_n dX5_weigh_73 rfl ?_
  refine am_aload_n dX5_weigh_74 rfl ?_
  refine am_callV [] dX5_weigh_75 ml_X5_77 vm_X5_windows (sh_45 g) rfl (fun _ => Nat.le_of_ble_eq_true rfl) (by omega) rfl (ef_X5_windows (d := d + 3) (h := h) g  (M := M) rfl) rfl ?_
  change am_At _ _ _ 78 [_, _, _] [_, _] _ _
  refine am_icmp_ge (15) 93 dX5_weigh_78 rfl ?_ ?_
  · intro hc7
    have hc7 : ((2 : Int32) <<< ((M 3 0 13) &&& 31)) ≤ x2 := hc7
    replace hyp := it_pos hc7 hyp
    cases hyp
    refine am_At.drop 2 ?_
    exact hx
  · intro hc7n
    have hc7n : ¬ (((2 : Int32) <<< ((M 3 0 13) &&& 31)) ≤ x2) := hc7n
    replace hyp := it_neg hc7n hyp
    refine am_aload_n dX5_weigh_81 rfl ?_
    refine am_iload_n dX5_weigh_82 rfl ?_
    refine am_iload_n dX5_weigh_83 rfl ?_
    obtain ⟨M8, hk8, hyp⟩ := bd_some hyp
    try dsimp only at hyp
    refine am_callV [_, _] dX5_weigh_84 ml_X5_93 vm_X5_weighOn (sh_45 g) rfl (fun _ => Nat.le_of_ble_eq_true rfl) (by omega) rfl (ef_X5_weighOn_47 (d := d + 0) (h := h) g hN hk8) rfl ?_
    change am_At _ _ _ 87 [_, _, _] [] _ _
    refine am_iinc dX5_weigh_87 rfl (am_ix _) ?_
    change am_At _ _ _ 90 [_, _, _] [] _ _
    refine am_goto (-17) 73 dX5_weigh_90 rfl ?_
    cases hyp
    exact hx
theorem eL_X5_weigh_67_47 {d : Nat} {h : am_H} (g : lay h) (hN : h.2.2 45 1 = some 47 ∧ h.2.2 45 2 = some 46) {r : am_R} (n : Nat) : ∀ (s : Int32 × Mem) (e : Mem), wh (L_X5_weigh_67 47 46) n s = some e → ((fun (M : Mem) => am_At am_X0 (d + 4) mX5_weigh 99 [some (.inr (45, 0)), none, none] [] (am_hM h M) r) e) → (match s with | (x1, M) => am_At am_X0 (d + 4) mX5_weigh 67 [some (.inr (45, 0)), some (am_I (x1)), none] [] (am_hM h M) r) := by
  refine am_wh (At := fun (s : Int32 × Mem) => match s with | (x1, M) => am_At am_X0 (d + 4) mX5_weigh 67 [some (.inr (45, 0)), some (am_I (x1)), none] [] (am_hM h M) r) (Ex := fun (e : Mem) => (fun (M : Mem) => am_At am_X0 (d + 4) mX5_weigh 99 [some (.inr (45, 0)), none, none] [] (am_hM h M) r) e) ?_ n
  rintro ⟨x1, M⟩ y hyp hx
  unfold L_X5_weigh_67 at hyp
  try dsimp only at hyp
  change am_At _ _ _ 67 [_, _, _] [] _ _
  refine am_iload_n dX5_weigh_67 rfl ?_
  refine am_if_lt (31) 99 dX5_weigh_68 rfl ?_ ?_
  · intro hc6
    have hc6 : x1 < 0 := hc6
    replace hyp := it_pos hc6 hyp
    cases hyp
    refine am_At.drop 1 ?_
    exact hx
  · intro hc6n
    have hc6n : ¬ (x1 < 0) := hc6n
    replace hyp := it_neg hc6n hyp
    refine am_iconst 0 (v := 0) dX5_weigh_71 (by decide) ?_
    refine am_istore_n dX5_weigh_72 (am_lb rfl) ?_
    change am_At _ _ _ 73 [_, _, _] [] _ _
    obtain ⟨M9, hw9, hyp⟩ := bd_some hyp
    try dsimp only at hyp
    refine eL_X5_weigh_73_47 (d := d) (h := h) g hN  FU ((0 : Int32), M) M9 hw9 ?_
    change am_At _ _ _ 93 [_, _, _] [] _ _
    refine am_iinc dX5_weigh_93 rfl (am_dx _) ?_
    change am_At _ _ _ 96 [_, _, _] [] _ _
    refine am_goto (-29) 67 dX5_weigh_96 rfl ?_
    cases hyp
    exact hx
theorem eL_X5_weigh_120_47 {d : Nat} {h : am_H} (g : lay h) (hN : h.2.2 45 1 = some 47 ∧ h.2.2 45 2 = some 46) {r : am_R} (n : Nat) : ∀ (s : Int32 × Mem) (e : Mem), wh (L_X5_weigh_120 47 46) n s = some e → ((fun (M : Mem) => am_At am_X0 (d + 4) mX5_weigh 167 [some (.inr (45, 0)), none, none] [] (am_hM h M) r) e) → (match s with | (x1, M) => am_At am_X0 (d + 4) mX5_weigh 120 [some (.inr (45, 0)), some (am_I (x1)), none] [] (am_hM h M) r) := by
  refine am_wh (At := fun (s : Int32 × Mem) => match s with | (x1, M) => am_At am_X0 (d + 4) mX5_weigh 120 [some (.inr (45, 0)), some (am_I (x1)), none] [] (am_hM h M) r) (Ex := fun (e : Mem) => (fun (M : Mem) => am_At am_X0 (d + 4) mX5_weigh 167 [some (.inr (45, 0)), none, none] [] (am_hM h M) r) e) ?_ n
  rintro ⟨x1, M⟩ y hyp hx
  unfold L_X5_weigh_120 at hyp
  try dsimp only at hyp
  change am_At _ _ _ 120 [_, _, _] [] _ _
  refine am_aload_n dX5_weigh_120 rfl ?_
  refine am_getR 5 0 3 dX5_weigh_121 fg_X5_27 (sh_45 g) (by decide) rfl (rf_45_0 g) ?_
  refine am_getI 1 0 dX5_weigh_124 fg_X5_57 (sh_3 g) (by decide) rfl ?_
  refine am_if_le (40) 167 dX5_weigh_127 rfl ?_ ?_
  · intro hc12
    have hc12 : (M 3 0 0) ≤ 0 := hc12
    replace hyp := it_pos hc12 hyp
    cases hyp
    refine am_At.drop 1 ?_
    exact hx
  · intro hc12n
    have hc12n : ¬ ((M 3 0 0) ≤ 0) := hc12n
    replace hyp := it_neg hc12n hyp
    refine am_iload_n dX5_weigh_130 rfl ?_
    refine am_aload_n dX5_weigh_131 rfl ?_
    refine am_callV [] dX5_weigh_132 ml_X5_77 vm_X5_windows (sh_45 g) rfl (fun _ => Nat.le_of_ble_eq_true rfl) (by omega) rfl (ef_X5_windows (d := d + 3) (h := h) g  (M := M) rfl) rfl ?_
    change am_At _ _ _ 135 [_, _, _] [_, _] _ _
    refine am_icmp_ge (32) 167 dX5_weigh_135 rfl ?_ ?_
    · intro hc13
      have hc13 : ((2 : Int32) <<< ((M 3 0 13) &&& 31)) ≤ x1 := hc13
      replace hyp := it_pos hc13 hyp
      cases hyp
      refine am_At.drop 1 ?_
      exact hx
    · intro hc13n
      have hc13n : ¬ (((2 : Int32) <<< ((M 3 0 13) &&& 31)) ≤ x1) := hc13n
      replace hyp := it_neg hc13n hyp
      refine am_aload_n dX5_weigh_138 rfl ?_
      refine am_dup dX5_weigh_139 (fun _ => rfl) ?_
      refine am_getI 5 7 dX5_weigh_140 fg_X5_96 (sh_45 g) (by decide) rfl ?_
      refine am_aload_n dX5_weigh_143 rfl ?_
      refine am_aload_n dX5_weigh_144 rfl ?_
      refine am_getR 5 0 3 dX5_weigh_145 fg_X5_27 (sh_45 g) (by decide) rfl (rf_45_0 g) ?_
      refine am_getI 1 0 dX5_weigh_148 fg_X5_57 (sh_3 g) (by decide) rfl ?_
      refine am_iconst 1 (v := 1) dX5_weigh_151 (by decide) ?_
      refine am_isub dX5_weigh_152 ?_
      refine am_iload_n dX5_weigh_153 rfl ?_
      obtain ⟨v14, hk14, hyp⟩ := bd_some hyp
      try dsimp only at hyp
      refine am_callV [_, _] dX5_weigh_154 ml_X5_99 vm_X5_waysBy (sh_45 g) rfl (fun _ => Nat.le_of_ble_eq_true rfl) (by omega) rfl (ef_X5_waysBy (d := d + 3) (h := h) g hk14) rfl ?_
      change am_At _ _ _ 157 [_, _, _] [_, _, _] _ _
      refine am_iadd dX5_weigh_157 ?_
      refine am_putI 5 7 dX5_weigh_158 (Or.inl fp_X5_96) (sh_45 g) (by decide) rfl rfl rfl ?_
      refine am_iinc dX5_weigh_161 rfl (am_ix _) ?_
      change am_At _ _ _ 164 [_, _, _] [] _ _
      refine am_goto (-44) 120 dX5_weigh_164 rfl ?_
      cases hyp
      exact hx
theorem ef_X5_weigh_47 {d : Nat} {h : am_H} (g : lay h) (hN : h.2.2 45 1 = some 47 ∧ h.2.2 45 2 = some 46) {M : Mem} {M' : Mem} (hyp : f_X5_weigh 47 46 M = some M') : am_Ev (d + 4) mX5_weigh [.inr (45, 0)] (am_hM h M) (.inl (none, am_hM h M')) := by
  unfold f_X5_weigh at hyp
  refine am_Ev.mk (by decide +kernel) rfl rfl (Nat.le_refl _) (Nat.le_refl _) ?_
  change am_At _ _ _ 0 [_, _, _] [] _ _
  refine am_aload_n dX5_weigh_0 rfl ?_
  refine am_getR 5 4 48 dX5_weigh_1 fg_X5_18 (sh_45 g) (by decide) rfl (rf_45_4 g) ?_
  refine am_iconst 0 (v := 0) dX5_weigh_4 (by decide) ?_
  refine am_callS (c := 0) (k := 0) (n := 0) (w := 0) [_, _] dX5_weigh_5 ml_X5_34 sm_J7_fill_53178 rfl (fun _ => Nat.le_of_ble_eq_true rfl) (by omega) rfl (ev_fill (d := d + 3) (h := am_hM h M) (v := (0 : Int32)) (sh_48 g) (by decide)) rfl ?_
  change am_At _ _ _ 8 [_, _, _] [] _ _
  refine am_aload_n dX5_weigh_8 rfl ?_
  refine am_getR 5 5 49 dX5_weigh_9 fg_X5_21 (sh_45 g) (by decide) rfl (rf_45_5 g) ?_
  refine am_iconst 0 (v := 0) dX5_weigh_12 (by decide) ?_
  refine am_callS (c := 0) (k := 0) (n := 0) (w := 0) [_, _] dX5_weigh_13 ml_X5_34 sm_J7_fill_53178 rfl (fun _ => Nat.le_of_ble_eq_true rfl) (by omega) rfl (ev_fill (d := d + 3) (h := am_hM h (fillM M 48 512 (0 : Int32))) (v := (0 : Int32)) (sh_49 g) (by decide)) rfl ?_
  change am_At _ _ _ 16 [_, _, _] [] _ _
  refine am_iconst 0 (v := 0) dX5_weigh_16 (by decide) ?_
  refine am_istore_n dX5_weigh_17 (am_lb rfl) ?_
  change am_At _ _ _ 18 [_, _, _] [] _ _
  obtain ⟨M5, hw5, hyp⟩ := bd_some hyp
  try dsimp only at hyp
  refine eL_X5_weigh_18_47 (d := d) (h := h) g hN  FU ((0 : Int32), (fillM (fillM M 48 512 (0 : Int32)) 49 512 (0 : Int32))) M5 hw5 ?_
  change am_At _ _ _ 57 [_, _, _] [] _ _
  refine am_aload_n dX5_weigh_57 rfl ?_
  refine am_getR 5 0 3 dX5_weigh_58 fg_X5_27 (sh_45 g) (by decide) rfl (rf_45_0 g) ?_
  refine am_getI 1 0 dX5_weigh_61 fg_X5_57 (sh_3 g) (by decide) rfl ?_
  refine am_iconst 1 (v := 1) dX5_weigh_64 (by decide) ?_
  refine am_isub dX5_weigh_65 ?_
  refine am_istore_n dX5_weigh_66 (am_lb rfl) ?_
  change am_At _ _ _ 67 [_, _, _] [] _ _
  obtain ⟨M10, hw10, hyp⟩ := bd_some hyp
  try dsimp only at hyp
  refine eL_X5_weigh_67_47 (d := d) (h := h) g hN  FU ((M5 3 0 0) - (1 : Int32), M5) M10 hw10 ?_
  change am_At _ _ _ 99 [_, _, _] [] _ _
  refine am_aload_n dX5_weigh_99 rfl ?_
  refine am_aload_n dX5_weigh_100 rfl ?_
  refine am_getR 5 0 3 dX5_weigh_101 fg_X5_27 (sh_45 g) (by decide) rfl (rf_45_0 g) ?_
  refine am_getI 1 0 dX5_weigh_104 fg_X5_57 (sh_3 g) (by decide) rfl ?_
  refine am_if_ne (7) 114 dX5_weigh_107 rfl ?_ ?_
  · intro hc11n
    have hc11n : ¬ ((M10 3 0 0) = 0) := hc11n
    replace hyp := it_neg hc11n hyp
    refine am_iconst 0 (v := 0) dX5_weigh_114 (by decide) ?_
    refine am_putI 5 7 dX5_weigh_115 (Or.inl fp_X5_96) (sh_45 g) (by decide) rfl rfl rfl ?_
    refine am_iconst 0 (v := 0) dX5_weigh_118 (by decide) ?_
    refine am_istore_n dX5_weigh_119 (am_lb rfl) ?_
    change am_At _ _ _ 120 [_, _, _] [] _ _
    obtain ⟨M15, hw15, hyp⟩ := bd_some hyp
    try dsimp only at hyp
    refine eL_X5_weigh_120_47 (d := d) (h := h) g hN  FU ((0 : Int32), (am_u3 M10 45 0 7 (0 : Int32))) M15 hw15 ?_
    change am_At _ _ _ 167 [_, _, _] [] _ _
    cases hyp
    exact am_vret dX5_weigh_167 rfl
  · intro hc11
    have hc11 : (M10 3 0 0) = 0 := hc11
    replace hyp := it_pos hc11 hyp
    refine am_iconst 1 (v := 1) dX5_weigh_110 (by decide) ?_
    refine am_goto (4) 115 dX5_weigh_111 rfl ?_
    refine am_putI 5 7 dX5_weigh_115 (Or.inl fp_X5_96) (sh_45 g) (by decide) rfl rfl rfl ?_
    refine am_iconst 0 (v := 0) dX5_weigh_118 (by decide) ?_
    refine am_istore_n dX5_weigh_119 (am_lb rfl) ?_
    change am_At _ _ _ 120 [_, _, _] [] _ _
    obtain ⟨M16, hw16, hyp⟩ := bd_some hyp
    try dsimp only at hyp
    refine eL_X5_weigh_120_47 (d := d) (h := h) g hN  FU ((0 : Int32), (am_u3 M10 45 0 7 (1 : Int32))) M16 hw16 ?_
    change am_At _ _ _ 167 [_, _, _] [] _ _
    cases hyp
    exact am_vret dX5_weigh_167 rfl
theorem ef_X6_finesSince {d : Nat} {h : am_H} (g : lay h) {M : Mem} {v : Int32} (hyp : f_X6_finesSince M = some v) : am_Ev (d + 2) mX6_finesSince [.inr (38, 0)] (am_hM h M) (.inl (some (am_I v), am_hM h M)) := by
  unfold f_X6_finesSince at hyp
  refine am_Ev.mk (by decide +kernel) rfl rfl (Nat.le_refl _) (Nat.le_refl _) ?_
  change am_At _ _ _ 0 [_] [] _ _
  refine am_aload_n dX6_finesSince_0 rfl ?_
  refine am_getR 6 3 39 dX6_finesSince_1 fg_X6_12 (sh_38 g) (by decide) rfl (rf_38_3 g) ?_
  obtain ⟨v1, hk1, hyp⟩ := bd_some hyp
  try dsimp only at hyp
  refine am_callV [] dX6_finesSince_4 ml_X6_137 vm_X8_allFines (sh_39 g) rfl (fun _ => Nat.le_of_ble_eq_true rfl) (by omega) rfl (ef_X8_allFines_40 (d := d + 0) (h := h) g hk1) rfl ?_
  change am_At _ _ _ 7 [_] [_] _ _
  refine am_aload_n dX6_finesSince_7 rfl ?_
  refine am_getR 6 2 29 dX6_finesSince_8 fg_X6_33 (sh_38 g) (by decide) rfl (rf_38_2 g) ?_
  obtain ⟨v2, hk2, hyp⟩ := bd_some hyp
  try dsimp only at hyp
  refine am_callV [] dX6_finesSince_11 ml_X6_137 vm_X8_allFines (sh_29 g) rfl (fun _ => Nat.le_of_ble_eq_true rfl) (by omega) rfl (ef_X8_allFines_30 (d := d + 0) (h := h) g hk2) rfl ?_
  change am_At _ _ _ 14 [_] [_, _] _ _
  refine am_isub dX6_finesSince_14 ?_
  cases hyp
  exact am_iret dX6_finesSince_15 rfl
theorem ef_X6_knocksSince {d : Nat} {h : am_H} (g : lay h) {M : Mem} {v : Int32} (hyp : f_X6_knocksSince M = some v) : am_Ev (d + 2) mX6_knocksSince [.inr (38, 0)] (am_hM h M) (.inl (some (am_I v), am_hM h M)) := by
  unfold f_X6_knocksSince at hyp
  refine am_Ev.mk (by decide +kernel) rfl rfl (Nat.le_refl _) (Nat.le_refl _) ?_
  change am_At _ _ _ 0 [_] [] _ _
  refine am_aload_n dX6_knocksSince_0 rfl ?_
  refine am_getR 6 3 39 dX6_knocksSince_1 fg_X6_12 (sh_38 g) (by decide) rfl (rf_38_3 g) ?_
  obtain ⟨v1, hk1, hyp⟩ := bd_some hyp
  try dsimp only at hyp
  refine am_callV [] dX6_knocksSince_4 ml_X6_134 vm_X8_allKnocks (sh_39 g) rfl (fun _ => Nat.le_of_ble_eq_true rfl) (by omega) rfl (ef_X8_allKnocks_40 (d := d + 0) (h := h) g hk1) rfl ?_
  change am_At _ _ _ 7 [_] [_] _ _
  refine am_aload_n dX6_knocksSince_7 rfl ?_
  refine am_getR 6 2 29 dX6_knocksSince_8 fg_X6_33 (sh_38 g) (by decide) rfl (rf_38_2 g) ?_
  obtain ⟨v2, hk2, hyp⟩ := bd_some hyp
  try dsimp only at hyp
  refine am_callV [] dX6_knocksSince_11 ml_X6_134 vm_X8_allKnocks (sh_29 g) rfl (fun _ => Nat.le_of_ble_eq_true rfl) (by omega) rfl (ef_X8_allKnocks_30 (d := d + 0) (h := h) g hk2) rfl ?_
  change am_At _ _ _ 14 [_] [_, _] _ _
  refine am_isub dX6_knocksSince_14 ?_
  cases hyp
  exact am_iret dX6_knocksSince_15 rfl
theorem ef_X9_read {d : Nat} {h : am_H} (g : lay h) {x2 : Int32} {M : Mem} {M' : Mem} (hyp : f_X9_read x2 M = some M') : am_Ev (d + 36) mX9_read [.inr (34, 0), .inr (1, 0), am_I x2] (am_hM h M) (.inl (none, am_hM h M')) := by
  unfold f_X9_read at hyp
  refine am_Ev.mk (by decide +kernel) rfl rfl (Nat.le_refl _) (Nat.le_refl _) ?_
  change am_At _ _ _ 0 [_, _, _] [] _ _
  refine am_aload_n dX9_read_0 rfl ?_
  refine am_iconst 0 (v := 0) dX9_read_1 (by decide) ?_
  refine am_putI 9 3 dX9_read_2 (Or.inl fp_X9_21) (sh_34 g) (by decide) rfl rfl rfl ?_
  refine am_aload_n dX9_read_5 rfl ?_
  refine am_aload_n dX9_read_6 rfl ?_
  refine am_iload_n dX9_read_7 rfl ?_
  refine am_iconst 0 (v := 0) dX9_read_8 (by decide) ?_
  obtain ⟨M1, hk1, hyp⟩ := bd_some hyp
  try dsimp only at hyp
  refine am_callV [_, _, _] dX9_read_9 ml_X9_25 vm_X9_readRow (sh_34 g) rfl (fun _ => Nat.le_of_ble_eq_true rfl) (by omega) rfl (ef_X9_readRow (d := d + 0) (h := h) g hk1) rfl ?_
  change am_At _ _ _ 12 [_, _, _] [] _ _
  refine am_aload_n dX9_read_12 rfl ?_
  obtain ⟨M2, hk2, hyp⟩ := bd_some hyp
  try dsimp only at hyp
  refine am_callV [] dX9_read_13 ml_X9_29 vm_X10_expectEnd (sh_1 g) rfl (fun _ => Nat.le_of_ble_eq_true rfl) (by omega) rfl (ef_X10_expectEnd (d := d + 33) (h := h) g hk2) rfl ?_
  change am_At _ _ _ 16 [_, _, _] [] _ _
  cases hyp
  exact am_vret dX9_read_16 rfl
theorem ef_X9_run_24 {d : Nat} {h : am_H} (g : lay h) (hW : h.2.2 23 0 = some 24 ∧ h.2.2 23 2 = some 25) {M : Mem} {v : Int32} {M' : Mem} (hyp : f_X9_run 24 25 M = some (v, M')) : am_Ev (d + 35) mX9_run [.inr (34, 0), .inr (29, 0), .inr (28, 0)] (am_hM h M) (.inl (some (am_I v), am_hM h M')) := by
  unfold f_X9_run at hyp
  refine am_Ev.mk (by decide +kernel) rfl rfl (Nat.le_refl _) (Nat.le_refl _) ?_
  change am_At _ _ _ 0 [_, _, _] [] _ _
  refine am_aload_n dX9_run_0 rfl ?_
  refine am_iconst 0 (v := 0) dX9_run_1 (by decide) ?_
  refine am_putI 9 4 dX9_run_2 (Or.inl fp_X9_66) (sh_34 g) (by decide) rfl rfl rfl ?_
  refine am_aload_n dX9_run_5 rfl ?_
  refine am_iconst 0 (v := 0) dX9_run_6 (by decide) ?_
  refine am_putI 9 5 dX9_run_7 (Or.inl fp_X9_69) (sh_34 g) (by decide) rfl rfl rfl ?_
  refine am_aload_n dX9_run_10 rfl ?_
  refine am_iconst 0 (v := 0) dX9_run_11 (by decide) ?_
  refine am_putI 9 6 dX9_run_12 (Or.inl fp_X9_72) (sh_34 g) (by decide) rfl rfl rfl ?_
  refine am_aload_n dX9_run_15 rfl ?_
  refine am_aload_n dX9_run_16 rfl ?_
  refine am_aload_n dX9_run_17 rfl ?_
  refine am_iconst 0 (v := 0) dX9_run_18 (by decide) ?_
  refine am_aload_n dX9_run_19 rfl ?_
  refine am_getI 9 3 dX9_run_20 fg_X9_21 (sh_34 g) (by decide) rfl ?_
  obtain ⟨M1, hk1, hyp⟩ := bd_some hyp
  try dsimp only at hyp
  refine am_callV [_, _, _, _] dX9_run_23 ml_X9_75 vm_X9_runRow (sh_34 g) rfl (fun _ => Nat.le_of_ble_eq_true rfl) (by omega) rfl (ef_X9_runRow_24 (d := d + 0) (h := h) g hW hk1) rfl ?_
  change am_At _ _ _ 26 [_, _, _] [] _ _
  refine am_aload_n dX9_run_26 rfl ?_
  refine am_getI 9 5 dX9_run_27 fg_X9_69 (sh_34 g) (by decide) rfl ?_
  cases hyp
  exact am_iret dX9_run_30 rfl
theorem ef_X9_run_25 {d : Nat} {h : am_H} (g : lay h) (hW : h.2.2 23 0 = some 25 ∧ h.2.2 23 2 = some 24) {M : Mem} {v : Int32} {M' : Mem} (hyp : f_X9_run 25 24 M = some (v, M')) : am_Ev (d + 35) mX9_run [.inr (34, 0), .inr (29, 0), .inr (28, 0)] (am_hM h M) (.inl (some (am_I v), am_hM h M')) := by
  unfold f_X9_run at hyp
  refine am_Ev.mk (by decide +kernel) rfl rfl (Nat.le_refl _) (Nat.le_refl _) ?_
  change am_At _ _ _ 0 [_, _, _] [] _ _
  refine am_aload_n dX9_run_0 rfl ?_
  refine am_iconst 0 (v := 0) dX9_run_1 (by decide) ?_
  refine am_putI 9 4 dX9_run_2 (Or.inl fp_X9_66) (sh_34 g) (by decide) rfl rfl rfl ?_
  refine am_aload_n dX9_run_5 rfl ?_
  refine am_iconst 0 (v := 0) dX9_run_6 (by decide) ?_
  refine am_putI 9 5 dX9_run_7 (Or.inl fp_X9_69) (sh_34 g) (by decide) rfl rfl rfl ?_
  refine am_aload_n dX9_run_10 rfl ?_
  refine am_iconst 0 (v := 0) dX9_run_11 (by decide) ?_
  refine am_putI 9 6 dX9_run_12 (Or.inl fp_X9_72) (sh_34 g) (by decide) rfl rfl rfl ?_
  refine am_aload_n dX9_run_15 rfl ?_
  refine am_aload_n dX9_run_16 rfl ?_
  refine am_aload_n dX9_run_17 rfl ?_
  refine am_iconst 0 (v := 0) dX9_run_18 (by decide) ?_
  refine am_aload_n dX9_run_19 rfl ?_
  refine am_getI 9 3 dX9_run_20 fg_X9_21 (sh_34 g) (by decide) rfl ?_
  obtain ⟨M1, hk1, hyp⟩ := bd_some hyp
  try dsimp only at hyp
  refine am_callV [_, _, _, _] dX9_run_23 ml_X9_75 vm_X9_runRow (sh_34 g) rfl (fun _ => Nat.le_of_ble_eq_true rfl) (by omega) rfl (ef_X9_runRow_25 (d := d + 0) (h := h) g hW hk1) rfl ?_
  change am_At _ _ _ 26 [_, _, _] [] _ _
  refine am_aload_n dX9_run_26 rfl ?_
  refine am_getI 9 5 dX9_run_27 fg_X9_69 (sh_34 g) (by decide) rfl ?_
  cases hyp
  exact am_iret dX9_run_30 rfl
theorem ef_X12_opensIn_72 {d : Nat} {h : am_H} (g : lay h) {x2 : Int32} {M : Mem} {v : Int32} {M' : Mem} (hyp : f_X12_opensIn 72 x2 M = some (v, M')) : am_Ev (d + 5) mX12_opensIn [.inr (54, 0), .inr (72, 0), am_I x2] (am_hM h M) (.inl (some (am_I v), am_hM h M')) := by
  unfold f_X12_opensIn at hyp
  refine am_Ev.mk (by decide +kernel) rfl rfl (Nat.le_refl _) (Nat.le_refl _) ?_
  change am_At _ _ _ 0 [_, _, _] [] _ _
  refine am_aload_n dX12_opensIn_0 rfl ?_
  refine am_iconst 0 (v := 0) dX12_opensIn_1 (by decide) ?_
  refine am_iload_n dX12_opensIn_2 rfl ?_
  refine am_iadd dX12_opensIn_3 ?_
  obtain ⟨hg1, hyp⟩ := gd_some hyp
  refine am_iald dX12_opensIn_4 (am_ia.one (sh_72 g)) (am_lit hg1) ?_
  refine am_iconst 1 (v := 1) dX12_opensIn_5 (by decide) ?_
  refine am_icmp_eq (20) 26 dX12_opensIn_6 rfl ?_ ?_
  · intro hc2
    have hc2 : (M 72 0 (((0 : Int32) + x2).toNatClampNeg)) = (1 : Int32) := hc2
    replace hyp := it_pos hc2 hyp
    refine am_iconst 1 (v := 1) dX12_opensIn_26 (by decide) ?_
    refine am_goto (4) 31 dX12_opensIn_27 rfl ?_
    cases hyp
    exact am_zret dX12_opensIn_31 rfl rfl
  · intro hc2n
    have hc2n : ¬ ((M 72 0 (((0 : Int32) + x2).toNatClampNeg)) = (1 : Int32)) := hc2n
    replace hyp := it_neg hc2n hyp
    refine am_aload_n dX12_opensIn_9 rfl ?_
    refine am_iconst 0 (v := 0) dX12_opensIn_10 (by decide) ?_
    refine am_iload_n dX12_opensIn_11 rfl ?_
    refine am_iadd dX12_opensIn_12 ?_
    refine am_iald dX12_opensIn_13 (am_ia.one (sh_72 g)) (am_lit hg1) ?_
    refine am_if_ne (16) 30 dX12_opensIn_14 rfl ?_ ?_
    · intro hc3n
      have hc3n : ¬ ((M 72 0 (((0 : Int32) + x2).toNatClampNeg)) = 0) := hc3n
      replace hyp := it_neg hc3n hyp
      refine am_iconst 0 (v := 0) dX12_opensIn_30 (by decide) ?_
      cases hyp
      exact am_zret dX12_opensIn_31 rfl rfl
    · intro hc3
      have hc3 : (M 72 0 (((0 : Int32) + x2).toNatClampNeg)) = 0 := hc3
      replace hyp := it_pos hc3 hyp
      refine am_aload_n dX12_opensIn_17 rfl ?_
      refine am_aload_n dX12_opensIn_18 rfl ?_
      refine am_iload_n dX12_opensIn_19 rfl ?_
      obtain ⟨⟨v4, M4⟩, hk4, hyp⟩ := bd_some hyp
      try dsimp only at hyp
      refine am_callV [_, _] dX12_opensIn_20 ml_X12_269 vm_X12_isLawfulNow (sh_54 g) rfl (fun _ => Nat.le_of_ble_eq_true rfl) (by omega) rfl (ef_X12_isLawfulNow_72 (d := d + 0) (h := h) g hk4) rfl ?_
      change am_At _ _ _ 23 [_, _, _] [_] _ _
      refine am_if_eq (7) 30 dX12_opensIn_23 rfl ?_ ?_
      · intro hc5
        have hc5 : v4 = 0 := hc5
        replace hyp := it_pos hc5 hyp
        refine am_iconst 0 (v := 0) dX12_opensIn_30 (by decide) ?_
        cases hyp
        exact am_zret dX12_opensIn_31 rfl rfl
      · intro hc5n
        have hc5n : ¬ (v4 = 0) := hc5n
        replace hyp := it_neg hc5n hyp
        refine am_iconst 1 (v := 1) dX12_opensIn_26 (by decide) ?_
        refine am_goto (4) 31 dX12_opensIn_27 rfl ?_
        cases hyp
        exact am_zret dX12_opensIn_31 rfl rfl
theorem ef_X12_opensIn_73 {d : Nat} {h : am_H} (g : lay h) {x2 : Int32} {M : Mem} {v : Int32} {M' : Mem} (hyp : f_X12_opensIn 73 x2 M = some (v, M')) : am_Ev (d + 5) mX12_opensIn [.inr (54, 0), .inr (73, 0), am_I x2] (am_hM h M) (.inl (some (am_I v), am_hM h M')) := by
  unfold f_X12_opensIn at hyp
  refine am_Ev.mk (by decide +kernel) rfl rfl (Nat.le_refl _) (Nat.le_refl _) ?_
  change am_At _ _ _ 0 [_, _, _] [] _ _
  refine am_aload_n dX12_opensIn_0 rfl ?_
  refine am_iconst 0 (v := 0) dX12_opensIn_1 (by decide) ?_
  refine am_iload_n dX12_opensIn_2 rfl ?_
  refine am_iadd dX12_opensIn_3 ?_
  obtain ⟨hg1, hyp⟩ := gd_some hyp
  refine am_iald dX12_opensIn_4 (am_ia.one (sh_73 g)) (am_lit hg1) ?_
  refine am_iconst 1 (v := 1) dX12_opensIn_5 (by decide) ?_
  refine am_icmp_eq (20) 26 dX12_opensIn_6 rfl ?_ ?_
  · intro hc2
    have hc2 : (M 73 0 (((0 : Int32) + x2).toNatClampNeg)) = (1 : Int32) := hc2
    replace hyp := it_pos hc2 hyp
    refine am_iconst 1 (v := 1) dX12_opensIn_26 (by decide) ?_
    refine am_goto (4) 31 dX12_opensIn_27 rfl ?_
    cases hyp
    exact am_zret dX12_opensIn_31 rfl rfl
  · intro hc2n
    have hc2n : ¬ ((M 73 0 (((0 : Int32) + x2).toNatClampNeg)) = (1 : Int32)) := hc2n
    replace hyp := it_neg hc2n hyp
    refine am_aload_n dX12_opensIn_9 rfl ?_
    refine am_iconst 0 (v := 0) dX12_opensIn_10 (by decide) ?_
    refine am_iload_n dX12_opensIn_11 rfl ?_
    refine am_iadd dX12_opensIn_12 ?_
    refine am_iald dX12_opensIn_13 (am_ia.one (sh_73 g)) (am_lit hg1) ?_
    refine am_if_ne (16) 30 dX12_opensIn_14 rfl ?_ ?_
    · intro hc3n
      have hc3n : ¬ ((M 73 0 (((0 : Int32) + x2).toNatClampNeg)) = 0) := hc3n
      replace hyp := it_neg hc3n hyp
      refine am_iconst 0 (v := 0) dX12_opensIn_30 (by decide) ?_
      cases hyp
      exact am_zret dX12_opensIn_31 rfl rfl
    · intro hc3
      have hc3 : (M 73 0 (((0 : Int32) + x2).toNatClampNeg)) = 0 := hc3
      replace hyp := it_pos hc3 hyp
      refine am_aload_n dX12_opensIn_17 rfl ?_
      refine am_aload_n dX12_opensIn_18 rfl ?_
      refine am_iload_n dX12_opensIn_19 rfl ?_
      obtain ⟨⟨v4, M4⟩, hk4, hyp⟩ := bd_some hyp
      try dsimp only at hyp
      refine am_callV [_, _] dX12_opensIn_20 ml_X12_269 vm_X12_isLawfulNow (sh_54 g) rfl (fun _ => Nat.le_of_ble_eq_true rfl) (by omega) rfl (ef_X12_isLawfulNow_73 (d := d + 0) (h := h) g hk4) rfl ?_
      change am_At _ _ _ 23 [_, _, _] [_] _ _
      refine am_if_eq (7) 30 dX12_opensIn_23 rfl ?_ ?_
      · intro hc5
        have hc5 : v4 = 0 := hc5
        replace hyp := it_pos hc5 hyp
        refine am_iconst 0 (v := 0) dX12_opensIn_30 (by decide) ?_
        cases hyp
        exact am_zret dX12_opensIn_31 rfl rfl
      · intro hc5n
        have hc5n : ¬ (v4 = 0) := hc5n
        replace hyp := it_neg hc5n hyp
        refine am_iconst 1 (v := 1) dX12_opensIn_26 (by decide) ?_
        refine am_goto (4) 31 dX12_opensIn_27 rfl ?_
        cases hyp
        exact am_zret dX12_opensIn_31 rfl rfl
theorem eL_X12_openBits_4_72 {d : Nat} {h : am_H} (g : lay h) {r : am_R} (n : Nat) : ∀ (s : Int32 × Int32 × Mem) (e : Int32 × Mem), wh (L_X12_openBits_4 72) n s = some e → (match e with | (x2, M) => am_At am_X0 (d + 6) mX12_openBits 39 [some (.inr (54, 0)), some (.inr (72, 0)), some (am_I (x2)), none] [] (am_hM h M) r) → (match s with | (x2, x3, M) => am_At am_X0 (d + 6) mX12_openBits 4 [some (.inr (54, 0)), some (.inr (72, 0)), some (am_I (x2)), some (am_I (x3))] [] (am_hM h M) r) := by
  refine am_wh (At := fun (s : Int32 × Int32 × Mem) => match s with | (x2, x3, M) => am_At am_X0 (d + 6) mX12_openBits 4 [some (.inr (54, 0)), some (.inr (72, 0)), some (am_I (x2)), some (am_I (x3))] [] (am_hM h M) r) (Ex := fun (e : Int32 × Mem) => match e with | (x2, M) => am_At am_X0 (d + 6) mX12_openBits 39 [some (.inr (54, 0)), some (.inr (72, 0)), some (am_I (x2)), none] [] (am_hM h M) r) ?_ n
  rintro ⟨x2, x3, M⟩ y hyp hx
  unfold L_X12_openBits_4 at hyp
  try dsimp only at hyp
  change am_At _ _ _ 4 [_, _, _, _] [] _ _
  refine am_iload_n dX12_openBits_4 rfl ?_
  refine am_aload_n dX12_openBits_5 rfl ?_
  refine am_getR 12 12 58 dX12_openBits_6 fg_X12_23 (sh_54 g) (by decide) rfl (rf_54_12 g) ?_
  refine am_iconst 0 (v := 0) dX12_openBits_9 (by decide) ?_
  refine am_iald dX12_openBits_10 (am_ia.one (sh_58 g)) (am_lit rfl) ?_
  refine am_icmp_ge (28) 39 dX12_openBits_11 rfl ?_ ?_
  · intro hc1
    have hc1 : (M 58 0 0) ≤ x3 := hc1
    replace hyp := it_pos hc1 hyp
    cases hyp
    refine am_At.drop 3 ?_
    exact hx
  · intro hc1n
    have hc1n : ¬ ((M 58 0 0) ≤ x3) := hc1n
    replace hyp := it_neg hc1n hyp
    refine am_iload_n dX12_openBits_14 rfl ?_
    refine am_aload_n dX12_openBits_15 rfl ?_
    refine am_aload_n dX12_openBits_16 rfl ?_
    refine am_iload_n dX12_openBits_17 rfl ?_
    obtain ⟨⟨v2, M2⟩, hk2, hyp⟩ := bd_some hyp
    try dsimp only at hyp
    refine am_callV [_, _] dX12_openBits_18 ml_X12_273 vm_X12_opensIn (sh_54 g) rfl (fun _ => Nat.le_of_ble_eq_true rfl) (by omega) rfl (ef_X12_opensIn_72 (d := d + 0) (h := h) g hk2) rfl ?_
    change am_At _ _ _ 21 [_, _, _, _] [_, _] _ _
    refine am_if_eq (9) 30 dX12_openBits_21 rfl ?_ ?_
    · intro hc3
      have hc3 : v2 = 0 := hc3
      replace hyp := it_pos hc3 hyp
      refine am_iconst 0 (v := 0) dX12_openBits_30 (by decide) ?_
      refine am_ior dX12_openBits_31 ?_
      refine am_istore_n dX12_openBits_32 (am_lb rfl) ?_
      change am_At _ _ _ 33 [_, _, _, _] [] _ _
      refine am_iinc dX12_openBits_33 rfl (am_ix _) ?_
      change am_At _ _ _ 36 [_, _, _, _] [] _ _
      refine am_goto (-32) 4 dX12_openBits_36 rfl ?_
      cases hyp
      exact hx
    · intro hc3n
      have hc3n : ¬ (v2 = 0) := hc3n
      replace hyp := it_neg hc3n hyp
      refine am_iconst 1 (v := 1) dX12_openBits_24 (by decide) ?_
      refine am_iload_n dX12_openBits_25 rfl ?_
      refine am_ishl dX12_openBits_26 ?_
      refine am_goto (4) 31 dX12_openBits_27 rfl ?_
      refine am_ior dX12_openBits_31 ?_
      refine am_istore_n dX12_openBits_32 (am_lb rfl) ?_
      change am_At _ _ _ 33 [_, _, _, _] [] _ _
      refine am_iinc dX12_openBits_33 rfl (am_ix _) ?_
      change am_At _ _ _ 36 [_, _, _, _] [] _ _
      refine am_goto (-32) 4 dX12_openBits_36 rfl ?_
      cases hyp
      exact hx
theorem ef_X12_openBits_72 {d : Nat} {h : am_H} (g : lay h) {M : Mem} {v : Int32} {M' : Mem} (hyp : f_X12_openBits 72 M = some (v, M')) : am_Ev (d + 6) mX12_openBits [.inr (54, 0), .inr (72, 0)] (am_hM h M) (.inl (some (am_I v), am_hM h M')) := by
  unfold f_X12_openBits at hyp
  refine am_Ev.mk (by decide +kernel) rfl rfl (Nat.le_refl _) (Nat.le_refl _) ?_
  change am_At _ _ _ 0 [_, _, _, _] [] _ _
  refine am_iconst 0 (v := 0) dX12_openBits_0 (by decide) ?_
  refine am_istore_n dX12_openBits_1 (am_lb rfl) ?_
  change am_At _ _ _ 2 [_, _, _, _] [] _ _
  refine am_iconst 0 (v := 0) dX12_openBits_2 (by decide) ?_
  refine am_istore_n dX12_openBits_3 (am_lb rfl) ?_
  change am_At _ _ _ 4 [_, _, _, _] [] _ _
  obtain ⟨⟨x2_4, M4⟩, hw4, hyp⟩ := bd_some hyp
  try dsimp only at hyp
  refine eL_X12_openBits_4_72 (d := d) (h := h) g  FU ((0 : Int32), (0 : Int32), M) (x2_4, M4) hw4 ?_
  change am_At _ _ _ 39 [_, _, _, _] [] _ _
  refine am_iload_n dX12_openBits_39 rfl ?_
  cases hyp
  exact am_iret dX12_openBits_40 rfl
theorem eL_X12_openBits_4_73 {d : Nat} {h : am_H} (g : lay h) {r : am_R} (n : Nat) : ∀ (s : Int32 × Int32 × Mem) (e : Int32 × Mem), wh (L_X12_openBits_4 73) n s = some e → (match e with | (x2, M) => am_At am_X0 (d + 6) mX12_openBits 39 [some (.inr (54, 0)), some (.inr (73, 0)), some (am_I (x2)), none] [] (am_hM h M) r) → (match s with | (x2, x3, M) => am_At am_X0 (d + 6) mX12_openBits 4 [some (.inr (54, 0)), some (.inr (73, 0)), some (am_I (x2)), some (am_I (x3))] [] (am_hM h M) r) := by
  refine am_wh (At := fun (s : Int32 × Int32 × Mem) => match s with | (x2, x3, M) => am_At am_X0 (d + 6) mX12_openBits 4 [some (.inr (54, 0)), some (.inr (73, 0)), some (am_I (x2)), some (am_I (x3))] [] (am_hM h M) r) (Ex := fun (e : Int32 × Mem) => match e with | (x2, M) => am_At am_X0 (d + 6) mX12_openBits 39 [some (.inr (54, 0)), some (.inr (73, 0)), some (am_I (x2)), none] [] (am_hM h M) r) ?_ n
  rintro ⟨x2, x3, M⟩ y hyp hx
  unfold L_X12_openBits_4 at hyp
  try dsimp only at hyp
  change am_At _ _ _ 4 [_, _, _, _] [] _ _
  refine am_iload_n dX12_openBits_4 rfl ?_
  refine am_aload_n dX12_openBits_5 rfl ?_
  refine am_getR 12 12 58 dX12_openBits_6 fg_X12_23 (sh_54 g) (by decide) rfl (rf_54_12 g) ?_
  refine am_iconst 0 (v := 0) dX12_openBits_9 (by decide) ?_
  refine am_iald dX12_openBits_10 (am_ia.one (sh_58 g)) (am_lit rfl) ?_
  refine am_icmp_ge (28) 39 dX12_openBits_11 rfl ?_ ?_
  · intro hc1
    have hc1 : (M 58 0 0) ≤ x3 := hc1
    replace hyp := it_pos hc1 hyp
    cases hyp
    refine am_At.drop 3 ?_
    exact hx
  · intro hc1n
    have hc1n : ¬ ((M 58 0 0) ≤ x3) := hc1n
    replace hyp := it_neg hc1n hyp
    refine am_iload_n dX12_openBits_14 rfl ?_
    refine am_aload_n dX12_openBits_15 rfl ?_
    refine am_aload_n dX12_openBits_16 rfl ?_
    refine am_iload_n dX12_openBits_17 rfl ?_
    obtain ⟨⟨v2, M2⟩, hk2, hyp⟩ := bd_some hyp
    try dsimp only at hyp
    refine am_callV [_, _] dX12_openBits_18 ml_X12_273 vm_X12_opensIn (sh_54 g) rfl (fun _ => Nat.le_of_ble_eq_true rfl) (by omega) rfl (ef_X12_opensIn_73 (d := d + 0) (h := h) g hk2) rfl ?_
    change am_At _ _ _ 21 [_, _, _, _] [_, _] _ _
    refine am_if_eq (9) 30 dX12_openBits_21 rfl ?_ ?_
    · intro hc3
      have hc3 : v2 = 0 := hc3
      replace hyp := it_pos hc3 hyp
      refine am_iconst 0 (v := 0) dX12_openBits_30 (by decide) ?_
      refine am_ior dX12_openBits_31 ?_
      refine am_istore_n dX12_openBits_32 (am_lb rfl) ?_
      change am_At _ _ _ 33 [_, _, _, _] [] _ _
      refine am_iinc dX12_openBits_33 rfl (am_ix _) ?_
      change am_At _ _ _ 36 [_, _, _, _] [] _ _
      refine am_goto (-32) 4 dX12_openBits_36 rfl ?_
      cases hyp
      exact hx
    · intro hc3n
      have hc3n : ¬ (v2 = 0) := hc3n
      replace hyp := it_neg hc3n hyp
      refine am_iconst 1 (v := 1) dX12_openBits_24 (by decide) ?_
      refine am_iload_n dX12_openBits_25 rfl ?_
      refine am_ishl dX12_openBits_26 ?_
      refine am_goto (4) 31 dX12_openBits_27 rfl ?_
      refine am_ior dX12_openBits_31 ?_
      refine am_istore_n dX12_openBits_32 (am_lb rfl) ?_
      change am_At _ _ _ 33 [_, _, _, _] [] _ _
      refine am_iinc dX12_openBits_33 rfl (am_ix _) ?_
      change am_At _ _ _ 36 [_, _, _, _] [] _ _
      refine am_goto (-32) 4 dX12_openBits_36 rfl ?_
      cases hyp
      exact hx
theorem ef_X12_openBits_73 {d : Nat} {h : am_H} (g : lay h) {M : Mem} {v : Int32} {M' : Mem} (hyp : f_X12_openBits 73 M = some (v, M')) : am_Ev (d + 6) mX12_openBits [.inr (54, 0), .inr (73, 0)] (am_hM h M) (.inl (some (am_I v), am_hM h M')) := by
  unfold f_X12_openBits at hyp
  refine am_Ev.mk (by decide +kernel) rfl rfl (Nat.le_refl _) (Nat.le_refl _) ?_
  change am_At _ _ _ 0 [_, _, _, _] [] _ _
  refine am_iconst 0 (v := 0) dX12_openBits_0 (by decide) ?_
  refine am_istore_n dX12_openBits_1 (am_lb rfl) ?_
  change am_At _ _ _ 2 [_, _, _, _] [] _ _
  refine am_iconst 0 (v := 0) dX12_openBits_2 (by decide) ?_
  refine am_istore_n dX12_openBits_3 (am_lb rfl) ?_
  change am_At _ _ _ 4 [_, _, _, _] [] _ _
  obtain ⟨⟨x2_4, M4⟩, hw4, hyp⟩ := bd_some hyp
  try dsimp only at hyp
  refine eL_X12_openBits_4_73 (d := d) (h := h) g  FU ((0 : Int32), (0 : Int32), M) (x2_4, M4) hw4 ?_
  change am_At _ _ _ 39 [_, _, _, _] [] _ _
  refine am_iload_n dX12_openBits_39 rfl ?_
  cases hyp
  exact am_iret dX12_openBits_40 rfl
