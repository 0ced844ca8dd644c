theorem eL_X12_lays_k_10 {d : Nat} {h : am_H} (g : lay h) {x2 x3 : Int32} {r : am_R} (n : Nat) : ∀ (s : Int32 × Mem) (e : Mem), wh (L_X12_lays_k_10 x3) n s = some e → ((fun (M : Mem) => am_At am_X0 (d + 0) mX12_lays 37 [some (.inr (68, 0)), some (.inr (67, 0)), some (am_I (x2)), some (am_I (x3)), none] [] (am_hM h M) r) e) → (match s with | (x4, M) => am_At am_X0 (d + 0) mX12_lays 10 [some (.inr (68, 0)), some (.inr (67, 0)), some (am_I (x2)), some (am_I (x3)), some (am_I (x4))] [] (am_hM h M) r) := by
  refine am_wh (At := fun (s : Int32 × Mem) => match s with | (x4, M) => am_At am_X0 (d + 0) mX12_lays 10 [some (.inr (68, 0)), some (.inr (67, 0)), some (am_I (x2)), some (am_I (x3)), some (am_I (x4))] [] (am_hM h M) r) (Ex := fun (e : Mem) => (fun (M : Mem) => am_At am_X0 (d + 0) mX12_lays 37 [some (.inr (68, 0)), some (.inr (67, 0)), some (am_I (x2)), some (am_I (x3)), none] [] (am_hM h M) r) e) ?_ n
  rintro ⟨x4, M⟩ y hyp hx
  unfold L_X12_lays_k_10 at hyp
  try dsimp only at hyp
  change am_At _ _ _ 10 [_, _, _, _, _] [] _ _
  refine am_iload dX12_lays_10 rfl ?_
  refine am_aload_n dX12_lays_12 rfl ?_
  refine am_iload_n dX12_lays_13 rfl ?_
  obtain ⟨hg2, hyp⟩ := gd_some hyp
  refine am_aald dX12_lays_14 (sh_67 g) (am_lit hg2) ?_
  refine am_alen dX12_lays_15 (am_ia.row (sh_67 g) (by omega) (am_vlt (am_lit hg2))) rfl ?_
  refine am_icmp_ge (21) 37 dX12_lays_16 rfl ?_ ?_
  · intro hc3
    have hc3 : (2 : Int32) ≤ x4 := hc3
    replace hyp := it_pos hc3 hyp
    cases hyp
    refine am_At.drop 4 ?_
    exact hx
  · intro hc3n
    have hc3n : ¬ ((2 : Int32) ≤ x4) := hc3n
    replace hyp := it_neg hc3n hyp
    refine am_aload_n dX12_lays_19 rfl ?_
    refine am_iload_n dX12_lays_20 rfl ?_
    refine am_aald dX12_lays_21 (sh_67 g) (am_lit hg2) ?_
    refine am_iload dX12_lays_22 rfl ?_
    refine am_aload_n dX12_lays_24 rfl ?_
    refine am_iload_n dX12_lays_25 rfl ?_
    refine am_aald dX12_lays_26 (sh_68 g) (am_lit hg2) ?_
    refine am_iload dX12_lays_27 rfl ?_
    obtain ⟨hg4, hyp⟩ := gd_some hyp
    refine am_iald dX12_lays_29 (am_ia.row (sh_68 g) (by omega) (am_vlt (am_lit hg2))) (am_lit hg4) ?_
    refine am_iast dX12_lays_30 (am_ia.row (sh_67 g) (by omega) (am_vlt (am_lit hg2))) (am_lit hg4) ?_
    refine am_iinc dX12_lays_31 rfl (am_ix _) ?_
    change am_At _ _ _ 34 [_, _, _, _, _] [] _ _
    refine am_goto (-24) 10 dX12_lays_34 rfl ?_
    cases hyp
    exact hx
theorem eL_X12_lays_k_2 {d : Nat} {h : am_H} (g : lay h) {x2 : Int32} {r : am_R} (n : Nat) : ∀ (s : Int32 × Mem) (e : Mem), wh (L_X12_lays_k_2 x2) n s = some e → ((fun (M : Mem) => am_At am_X0 (d + 0) mX12_lays 43 [some (.inr (68, 0)), some (.inr (67, 0)), some (am_I (x2)), none, none] [] (am_hM h M) r) e) → (match s with | (x3, M) => am_At am_X0 (d + 0) mX12_lays 2 [some (.inr (68, 0)), some (.inr (67, 0)), some (am_I (x2)), some (am_I (x3)), none] [] (am_hM h M) r) := by
  refine am_wh (At := fun (s : Int32 × Mem) => match s with | (x3, M) => am_At am_X0 (d + 0) mX12_lays 2 [some (.inr (68, 0)), some (.inr (67, 0)), some (am_I (x2)), some (am_I (x3)), none] [] (am_hM h M) r) (Ex := fun (e : Mem) => (fun (M : Mem) => am_At am_X0 (d + 0) mX12_lays 43 [some (.inr (68, 0)), some (.inr (67, 0)), some (am_I (x2)), none, none] [] (am_hM h M) r) e) ?_ n
  rintro ⟨x3, M⟩ y hyp hx
  unfold L_X12_lays_k_2 at hyp
  try dsimp only at hyp
  change am_At _ _ _ 2 [_, _, _, _, _] [] _ _
  refine am_iload_n dX12_lays_2 rfl ?_
  refine am_iload_n dX12_lays_3 rfl ?_
  refine am_icmp_ge (39) 43 dX12_lays_4 rfl ?_ ?_
  · intro hc1
    have hc1 : x2 ≤ x3 := hc1
    replace hyp := it_pos hc1 hyp
    cases hyp
    refine am_At.drop 3 ?_
    exact hx
  · intro hc1n
    have hc1n : ¬ (x2 ≤ x3) := hc1n
    replace hyp := it_neg hc1n hyp
    refine am_iconst 0 (v := 0) dX12_lays_7 (by decide) ?_
    refine am_istore dX12_lays_8 (am_lb rfl) ?_
    change am_At _ _ _ 10 [_, _, _, _, _] [] _ _
    obtain ⟨M5, hw5, hyp⟩ := bd_some hyp
    try dsimp only at hyp
    refine eL_X12_lays_k_10 (d := d) (h := h) g  FU ((0 : Int32), M) M5 hw5 ?_
    change am_At _ _ _ 37 [_, _, _, _, _] [] _ _
    refine am_iinc dX12_lays_37 rfl (am_ix _) ?_
    change am_At _ _ _ 40 [_, _, _, _, _] [] _ _
    refine am_goto (-38) 2 dX12_lays_40 rfl ?_
    cases hyp
    exact hx
theorem ef_X12_lays_k {d : Nat} {h : am_H} (g : lay h) {x2 : Int32} {M : Mem} {M' : Mem} (hyp : f_X12_lays_k x2 M = some M') : am_Ev (d + 0) mX12_lays [.inr (68, 0), .inr (67, 0), am_I x2] (am_hM h M) (.inl (none, am_hM h M')) := by
  unfold f_X12_lays_k at hyp
  refine am_Ev.mk (by decide +kernel) rfl rfl (Nat.le_refl _) (Nat.le_refl _) ?_
  change am_At _ _ _ 0 [_, _, _, _, _] [] _ _
  refine am_iconst 0 (v := 0) dX12_lays_0 (by decide) ?_
  refine am_istore_n dX12_lays_1 (am_lb rfl) ?_
  change am_At _ _ _ 2 [_, _, _, _, _] [] _ _
  obtain ⟨M6, hw6, hyp⟩ := bd_some hyp
  try dsimp only at hyp
  refine eL_X12_lays_k_2 (d := d) (h := h) g  FU ((0 : Int32), M) M6 hw6 ?_
  change am_At _ _ _ 43 [_, _, _, _, _] [] _ _
  cases hyp
  exact am_vret dX12_lays_43 rfl
theorem ef_X12_puts {d : Nat} {h : am_H} (g : lay h) {r1 : Nat} (hr1 : 0 < r1 ∧ r1 ≤ 3) {x2 x3 : Int32} {M : Mem} {v : Int32} {M' : Mem} (hyp : f_X12_puts r1 x2 x3 M = some (v, M')) : am_Ev (d + 0) mX12_puts [.inr (54, 0), .inr (76, r1), am_I x2, am_I x3] (am_hM h M) (.inl (some (am_I v), am_hM h M')) := by
  unfold f_X12_puts at hyp
  refine am_Ev.mk (by decide +kernel) rfl rfl (Nat.le_refl _) (Nat.le_refl _) ?_
  change am_At _ _ _ 0 [_, _, _, _] [] _ _
  refine am_iload_n dX12_puts_0 rfl ?_
  refine am_if_ne (10) 11 dX12_puts_1 rfl ?_ ?_
  · intro hc1n
    have hc1n : ¬ (x3 = 0) := hc1n
    replace hyp := it_neg hc1n hyp
    refine am_aload_n dX12_puts_11 rfl ?_
    refine am_dup dX12_puts_12 (fun _ => rfl) ?_
    refine am_getI 12 38 dX12_puts_13 fg_X12_383 (sh_54 g) (by decide) rfl ?_
    refine am_iconst 1 (v := 1) dX12_puts_16 (by decide) ?_
    refine am_iadd dX12_puts_17 ?_
    refine am_putI 12 38 dX12_puts_18 (Or.inl fp_X12_383) (sh_54 g) (by decide) rfl rfl rfl ?_
    refine am_aload_n dX12_puts_21 rfl ?_
    refine am_aload_n dX12_puts_22 rfl ?_
    refine am_getI 12 38 dX12_puts_23 fg_X12_383 (sh_54 g) (by decide) rfl ?_
    refine am_iconst 1 (v := 1) dX12_puts_26 (by decide) ?_
    refine am_isub dX12_puts_27 ?_
    obtain ⟨hg2, hyp⟩ := gd_some hyp
    refine am_iald dX12_puts_28 (am_ia.row (sh_76 g) (by omega) (by omega)) (am_lit hg2) ?_
    cases hyp
    exact am_iret dX12_puts_29 rfl
  · intro hc1
    have hc1 : x3 = 0 := hc1
    replace hyp := it_pos hc1 hyp
    refine am_aload_n dX12_puts_4 rfl ?_
    refine am_aload_n dX12_puts_5 rfl ?_
    refine am_getI 12 38 dX12_puts_6 fg_X12_383 (sh_54 g) (by decide) rfl ?_
    refine am_iload_n dX12_puts_9 rfl ?_
    obtain ⟨hg3, hyp⟩ := gd_some hyp
    refine am_iast dX12_puts_10 (am_ia.row (sh_76 g) (by omega) (by omega)) (am_lit hg3) ?_
    refine am_aload_n dX12_puts_11 rfl ?_
    refine am_dup dX12_puts_12 (fun _ => rfl) ?_
    refine am_getI 12 38 dX12_puts_13 fg_X12_383 (sh_54 g) (by decide) rfl ?_
    refine am_iconst 1 (v := 1) dX12_puts_16 (by decide) ?_
    refine am_iadd dX12_puts_17 ?_
    refine am_putI 12 38 dX12_puts_18 (Or.inl fp_X12_383) (sh_54 g) (by decide) rfl rfl rfl ?_
    refine am_aload_n dX12_puts_21 rfl ?_
    refine am_aload_n dX12_puts_22 rfl ?_
    refine am_getI 12 38 dX12_puts_23 fg_X12_383 (sh_54 g) (by decide) rfl ?_
    refine am_iconst 1 (v := 1) dX12_puts_26 (by decide) ?_
    refine am_isub dX12_puts_27 ?_
    obtain ⟨hg4, hyp⟩ := gd_some hyp
    refine am_iald dX12_puts_28 (am_ia.row (sh_76 g) (by omega) (by omega)) (am_lit hg4) ?_
    cases hyp
    exact am_iret dX12_puts_29 rfl
theorem eL_X12_putsAll_21 {d : Nat} {h : am_H} (g : lay h) {r1 : Nat} (hr1 : 0 < r1 ∧ r1 ≤ 3) {x2 : Int32} {r : am_R} (n : Nat) : ∀ (s : Int32 × Mem) (e : Mem), wh (L_X12_putsAll_21 r1 x2) n s = some e → ((fun (M : Mem) => am_At am_X0 (d + 1) mX12_putsAll 51 [some (.inr (54, 0)), some (.inr (76, r1)), some (am_I (x2)), none, none] [] (am_hM h M) r) e) → (match s with | (x3, M) => am_At am_X0 (d + 1) mX12_putsAll 21 [some (.inr (54, 0)), some (.inr (76, r1)), some (am_I (x2)), some (am_I (x3)), none] [] (am_hM h M) r) := by
  refine am_wh (At := fun (s : Int32 × Mem) => match s with | (x3, M) => am_At am_X0 (d + 1) mX12_putsAll 21 [some (.inr (54, 0)), some (.inr (76, r1)), some (am_I (x2)), some (am_I (x3)), none] [] (am_hM h M) r) (Ex := fun (e : Mem) => (fun (M : Mem) => am_At am_X0 (d + 1) mX12_putsAll 51 [some (.inr (54, 0)), some (.inr (76, r1)), some (am_I (x2)), none, none] [] (am_hM h M) r) e) ?_ n
  rintro ⟨x3, M⟩ y hyp hx
  unfold L_X12_putsAll_21 at hyp
  try dsimp only at hyp
  change am_At _ _ _ 21 [_, _, _, _, _] [] _ _
  refine am_iload_n dX12_putsAll_21 rfl ?_
  refine am_bipush 66 (v := 66) dX12_putsAll_22 (by decide) ?_
  refine am_icmp_ge (27) 51 dX12_putsAll_24 rfl ?_ ?_
  · intro hc2
    have hc2 : (66 : Int32) ≤ x3 := hc2
    replace hyp := it_pos hc2 hyp
    cases hyp
    refine am_At.drop 3 ?_
    exact hx
  · intro hc2n
    have hc2n : ¬ ((66 : Int32) ≤ x3) := hc2n
    replace hyp := it_neg hc2n hyp
    refine am_aload_n dX12_putsAll_27 rfl ?_
    refine am_getR 12 29 72 dX12_putsAll_28 fg_X12_67 (sh_54 g) (by decide) rfl (rf_54_29 g) ?_
    refine am_iload_n dX12_putsAll_31 rfl ?_
    refine am_aload_n dX12_putsAll_32 rfl ?_
    refine am_aload_n dX12_putsAll_33 rfl ?_
    refine am_aload_n dX12_putsAll_34 rfl ?_
    refine am_getR 12 29 72 dX12_putsAll_35 fg_X12_67 (sh_54 g) (by decide) rfl (rf_54_29 g) ?_
    refine am_iload_n dX12_putsAll_38 rfl ?_
    obtain ⟨hg3, hyp⟩ := gd_some hyp
    refine am_iald dX12_putsAll_39 (am_ia.one (sh_72 g)) (am_lit hg3) ?_
    refine am_iload_n dX12_putsAll_40 rfl ?_
    obtain ⟨⟨v4, M4⟩, hk4, hyp⟩ := bd_some hyp
    try dsimp only at hyp
    refine am_callV [_, _, _] dX12_putsAll_41 ml_X12_386 vm_X12_puts (sh_54 g) rfl (fun _ => Nat.le_of_ble_eq_true rfl) (by omega) rfl (ef_X12_puts (d := d + 0) (h := h) g hr1 hk4) rfl ?_
    change am_At _ _ _ 44 [_, _, _, _, _] [_, _, _] _ _
    refine am_iast dX12_putsAll_44 (am_ia.one (sh_72 g)) (am_lit hg3) ?_
    refine am_iinc dX12_putsAll_45 rfl (am_ix _) ?_
    change am_At _ _ _ 48 [_, _, _, _, _] [] _ _
    refine am_goto (-27) 21 dX12_putsAll_48 rfl ?_
    cases hyp
    exact hx
theorem eL_X12_putsAll_62 {d : Nat} {h : am_H} (g : lay h) {r1 : Nat} (hr1 : 0 < r1 ∧ r1 ≤ 3) {x2 x3 : Int32} {r : am_R} (n : Nat) : ∀ (s : Int32 × Mem) (e : Mem), wh (L_X12_putsAll_62 r1 x2 x3) n s = some e → ((fun (M : Mem) => am_At am_X0 (d + 1) mX12_putsAll 99 [some (.inr (54, 0)), some (.inr (76, r1)), some (am_I (x2)), some (am_I (x3)), none] [] (am_hM h M) r) e) → (match s with | (x4, M) => am_At am_X0 (d + 1) mX12_putsAll 62 [some (.inr (54, 0)), some (.inr (76, r1)), some (am_I (x2)), some (am_I (x3)), some (am_I (x4))] [] (am_hM h M) r) := by
  refine am_wh (At := fun (s : Int32 × Mem) => match s with | (x4, M) => am_At am_X0 (d + 1) mX12_putsAll 62 [some (.inr (54, 0)), some (.inr (76, r1)), some (am_I (x2)), some (am_I (x3)), some (am_I (x4))] [] (am_hM h M) r) (Ex := fun (e : Mem) => (fun (M : Mem) => am_At am_X0 (d + 1) mX12_putsAll 99 [some (.inr (54, 0)), some (.inr (76, r1)), some (am_I (x2)), some (am_I (x3)), none] [] (am_hM h M) r) e) ?_ n
  rintro ⟨x4, M⟩ y hyp hx
  unfold L_X12_putsAll_62 at hyp
  try dsimp only at hyp
  change am_At _ _ _ 62 [_, _, _, _, _] [] _ _
  refine am_iload dX12_putsAll_62 rfl ?_
  refine am_bipush 66 (v := 66) dX12_putsAll_64 (by decide) ?_
  refine am_icmp_ge (33) 99 dX12_putsAll_66 rfl ?_ ?_
  · intro hc7
    have hc7 : (66 : Int32) ≤ x4 := hc7
    replace hyp := it_pos hc7 hyp
    cases hyp
    refine am_At.drop 4 ?_
    exact hx
  · intro hc7n
    have hc7n : ¬ ((66 : Int32) ≤ x4) := hc7n
    replace hyp := it_neg hc7n hyp
    refine am_aload_n dX12_putsAll_69 rfl ?_
    refine am_getR 12 32 75 dX12_putsAll_70 fg_X12_76 (sh_54 g) (by decide) rfl (rf_54_32 g) ?_
    refine am_iload_n dX12_putsAll_73 rfl ?_
    obtain ⟨hg8, hyp⟩ := gd_some hyp
    refine am_aald dX12_putsAll_74 (sh_75 g) (am_lit hg8) ?_
    refine am_iload dX12_putsAll_75 rfl ?_
    refine am_aload_n dX12_putsAll_77 rfl ?_
    refine am_aload_n dX12_putsAll_78 rfl ?_
    refine am_aload_n dX12_putsAll_79 rfl ?_
    refine am_getR 12 32 75 dX12_putsAll_80 fg_X12_76 (sh_54 g) (by decide) rfl (rf_54_32 g) ?_
    refine am_iload_n dX12_putsAll_83 rfl ?_
    refine am_aald dX12_putsAll_84 (sh_75 g) (am_lit hg8) ?_
    refine am_iload dX12_putsAll_85 rfl ?_
    obtain ⟨hg9, hyp⟩ := gd_some hyp
    refine am_iald dX12_putsAll_87 (am_ia.row (sh_75 g) (by omega) (am_vlt (am_lit hg8))) (am_lit hg9) ?_
    refine am_iload_n dX12_putsAll_88 rfl ?_
    obtain ⟨⟨v10, M10⟩, hk10, hyp⟩ := bd_some hyp
    try dsimp only at hyp
    refine am_callV [_, _, _] dX12_putsAll_89 ml_X12_386 vm_X12_puts (sh_54 g) rfl (fun _ => Nat.le_of_ble_eq_true rfl) (by omega) rfl (ef_X12_puts (d := d + 0) (h := h) g hr1 hk10) rfl ?_
    change am_At _ _ _ 92 [_, _, _, _, _] [_, _, _] _ _
    refine am_iast dX12_putsAll_92 (am_ia.row (sh_75 g) (by omega) (am_vlt (am_lit hg8))) (am_lit hg9) ?_
    refine am_iinc dX12_putsAll_93 rfl (am_ix _) ?_
    change am_At _ _ _ 96 [_, _, _, _, _] [] _ _
    refine am_goto (-34) 62 dX12_putsAll_96 rfl ?_
    cases hyp
    exact hx
theorem eL_X12_putsAll_53 {d : Nat} {h : am_H} (g : lay h) {r1 : Nat} (hr1 : 0 < r1 ∧ r1 ≤ 3) {x2 : Int32} {r : am_R} (n : Nat) : ∀ (s : Int32 × Mem) (e : Mem), wh (L_X12_putsAll_53 r1 x2) n s = some e → ((fun (M : Mem) => am_At am_X0 (d + 1) mX12_putsAll 105 [some (.inr (54, 0)), some (.inr (76, r1)), some (am_I (x2)), none, none] [] (am_hM h M) r) e) → (match s with | (x3, M) => am_At am_X0 (d + 1) mX12_putsAll 53 [some (.inr (54, 0)), some (.inr (76, r1)), some (am_I (x2)), some (am_I (x3)), none] [] (am_hM h M) r) := by
  refine am_wh (At := fun (s : Int32 × Mem) => match s with | (x3, M) => am_At am_X0 (d + 1) mX12_putsAll 53 [some (.inr (54, 0)), some (.inr (76, r1)), some (am_I (x2)), some (am_I (x3)), none] [] (am_hM h M) r) (Ex := fun (e : Mem) => (fun (M : Mem) => am_At am_X0 (d + 1) mX12_putsAll 105 [some (.inr (54, 0)), some (.inr (76, r1)), some (am_I (x2)), none, none] [] (am_hM h M) r) e) ?_ n
  rintro ⟨x3, M⟩ y hyp hx
  unfold L_X12_putsAll_53 at hyp
  try dsimp only at hyp
  change am_At _ _ _ 53 [_, _, _, _, _] [] _ _
  refine am_iload_n dX12_putsAll_53 rfl ?_
  refine am_bipush 16 (v := 16) dX12_putsAll_54 (by decide) ?_
  refine am_icmp_ge (49) 105 dX12_putsAll_56 rfl ?_ ?_
  · intro hc6
    have hc6 : (16 : Int32) ≤ x3 := hc6
    replace hyp := it_pos hc6 hyp
    cases hyp
    refine am_At.drop 3 ?_
    exact hx
  · intro hc6n
    have hc6n : ¬ ((16 : Int32) ≤ x3) := hc6n
    replace hyp := it_neg hc6n hyp
    refine am_iconst 0 (v := 0) dX12_putsAll_59 (by decide) ?_
    refine am_istore dX12_putsAll_60 (am_lb rfl) ?_
    change am_At _ _ _ 62 [_, _, _, _, _] [] _ _
    obtain ⟨M11, hw11, hyp⟩ := bd_some hyp
    try dsimp only at hyp
    refine eL_X12_putsAll_62 (d := d) (h := h) g hr1  FU ((0 : Int32), M) M11 hw11 ?_
    change am_At _ _ _ 99 [_, _, _, _, _] [] _ _
    refine am_iinc dX12_putsAll_99 rfl (am_ix _) ?_
    change am_At _ _ _ 102 [_, _, _, _, _] [] _ _
    refine am_goto (-49) 53 dX12_putsAll_102 rfl ?_
    cases hyp
    exact hx
theorem ef_X12_putsAll {d : Nat} {h : am_H} (g : lay h) {r1 : Nat} (hr1 : 0 < r1 ∧ r1 ≤ 3) {x2 : Int32} {M : Mem} {M' : Mem} (hyp : f_X12_putsAll r1 x2 M = some M') : am_Ev (d + 1) mX12_putsAll [.inr (54, 0), .inr (76, r1), am_I x2] (am_hM h M) (.inl (none, am_hM h M')) := by
  unfold f_X12_putsAll at hyp
  refine am_Ev.mk (by decide +kernel) rfl rfl (Nat.le_refl _) (Nat.le_refl _) ?_
  change am_At _ _ _ 0 [_, _, _, _, _] [] _ _
  refine am_aload_n dX12_putsAll_0 rfl ?_
  refine am_iconst 0 (v := 0) dX12_putsAll_1 (by decide) ?_
  refine am_putI 12 38 dX12_putsAll_2 (Or.inl fp_X12_383) (sh_54 g) (by decide) rfl rfl rfl ?_
  refine am_aload_n dX12_putsAll_5 rfl ?_
  refine am_aload_n dX12_putsAll_6 rfl ?_
  refine am_aload_n dX12_putsAll_7 rfl ?_
  refine am_aload_n dX12_putsAll_8 rfl ?_
  refine am_getI 12 35 dX12_putsAll_9 fg_X12_202 (sh_54 g) (by decide) rfl ?_
  refine am_iload_n dX12_putsAll_12 rfl ?_
  obtain ⟨⟨v1, M1⟩, hk1, hyp⟩ := bd_some hyp
  try dsimp only at hyp
  refine am_callV [_, _, _] dX12_putsAll_13 ml_X12_386 vm_X12_puts (sh_54 g) rfl (fun _ => Nat.le_of_ble_eq_true rfl) (by omega) rfl (ef_X12_puts (d := d + 0) (h := h) g hr1 hk1) rfl ?_
  change am_At _ _ _ 16 [_, _, _, _, _] [_, _] _ _
  refine am_putI 12 35 dX12_putsAll_16 (Or.inl fp_X12_202) (sh_54 g) (by decide) rfl rfl rfl ?_
  refine am_iconst 0 (v := 0) dX12_putsAll_19 (by decide) ?_
  refine am_istore_n dX12_putsAll_20 (am_lb rfl) ?_
  change am_At _ _ _ 21 [_, _, _, _, _] [] _ _
  obtain ⟨M5, hw5, hyp⟩ := bd_some hyp
  try dsimp only at hyp
  refine eL_X12_putsAll_21 (d := d) (h := h) g hr1  FU ((0 : Int32), (am_u3 M1 54 0 35 v1)) M5 hw5 ?_
  change am_At _ _ _ 51 [_, _, _, _, _] [] _ _
  refine am_iconst 0 (v := 0) dX12_putsAll_51 (by decide) ?_
  refine am_istore_n dX12_putsAll_52 (am_lb rfl) ?_
  change am_At _ _ _ 53 [_, _, _, _, _] [] _ _
  obtain ⟨M12, hw12, hyp⟩ := bd_some hyp
  try dsimp only at hyp
  refine eL_X12_putsAll_53 (d := d) (h := h) g hr1  FU ((0 : Int32), M5) M12 hw12 ?_
  change am_At _ _ _ 105 [_, _, _, _, _] [] _ _
  cases hyp
  exact am_vret dX12_putsAll_105 rfl
theorem ef_X8_writeTo_t {d : Nat} {h : am_H} (g : lay h) {x2 : Int32} {M : Mem} {M' : Mem} (hyp : f_X8_writeTo_t x2 M = some M') : am_Ev (d + 0) mX8_writeTo [.inr (29, 0), .inr (40, 0), am_I x2] (am_hM h M) (.inl (none, am_hM h M')) := by
  unfold f_X8_writeTo_t at hyp
  refine am_Ev.mk (by decide +kernel) rfl rfl (Nat.le_refl _) (Nat.le_refl _) ?_
  change am_At _ _ _ 0 [_, _, _] [] _ _
  refine am_aload_n dX8_writeTo_0 rfl ?_
  refine am_getR 8 0 30 dX8_writeTo_1 fg_X8_11 (sh_29 g) (by decide) rfl (rf_29_0 g) ?_
  refine am_iconst 0 (v := 0) dX8_writeTo_4 (by decide) ?_
  refine am_aload_n dX8_writeTo_5 rfl ?_
  refine am_iload_n dX8_writeTo_6 rfl ?_
  refine am_bipush 47 (v := 47) dX8_writeTo_7 (by decide) ?_
  obtain ⟨hg1, hyp⟩ := gd_some hyp
  obtain ⟨hg2, hyp⟩ := gd_some hyp
  refine am_copy dX8_writeTo_9 ml_X8_21 (am_ia.one (sh_30 g)) (am_ia.one (sh_40 g)) (by decide) hg1 (by decide) (by decide) hg2 (fun _ => Nat.le_of_ble_eq_true rfl) ?_
  change am_At _ _ _ 12 [_, _, _] [] (am_hM h (am_cp M 30 0 0 40 0 (x2.toNatClampNeg) 47)) _
  cases hyp
  exact am_vret dX8_writeTo_12 rfl
theorem ef_X8_writeTo_p {d : Nat} {h : am_H} (g : lay h) {x2 : Int32} {M : Mem} {M' : Mem} (hyp : f_X8_writeTo_p x2 M = some M') : am_Ev (d + 0) mX8_writeTo [.inr (29, 0), .inr (32, 0), am_I x2] (am_hM h M) (.inl (none, am_hM h M')) := by
  unfold f_X8_writeTo_p at hyp
  refine am_Ev.mk (by decide +kernel) rfl rfl (Nat.le_refl _) (Nat.le_refl _) ?_
  change am_At _ _ _ 0 [_, _, _] [] _ _
  refine am_aload_n dX8_writeTo_0 rfl ?_
  refine am_getR 8 0 30 dX8_writeTo_1 fg_X8_11 (sh_29 g) (by decide) rfl (rf_29_0 g) ?_
  refine am_iconst 0 (v := 0) dX8_writeTo_4 (by decide) ?_
  refine am_aload_n dX8_writeTo_5 rfl ?_
  refine am_iload_n dX8_writeTo_6 rfl ?_
  refine am_bipush 47 (v := 47) dX8_writeTo_7 (by decide) ?_
  obtain ⟨hg1, hyp⟩ := gd_some hyp
  obtain ⟨hg2, hyp⟩ := gd_some hyp
  refine am_copy dX8_writeTo_9 ml_X8_21 (am_ia.one (sh_30 g)) (am_ia.one (sh_32 g)) (by decide) hg1 (by decide) (by decide) hg2 (fun _ => Nat.le_of_ble_eq_true rfl) ?_
  change am_At _ _ _ 12 [_, _, _] [] (am_hM h (am_cp M 30 0 0 32 0 (x2.toNatClampNeg) 47)) _
  cases hyp
  exact am_vret dX8_writeTo_12 rfl
theorem ef_X8_writeTo_i {d : Nat} {h : am_H} (g : lay h) {r1 : Nat} (hr1 : 0 < r1 ∧ r1 ≤ 3) {x2 : Int32} {M : Mem} {M' : Mem} (hyp : f_X8_writeTo_i r1 x2 M = some M') : am_Ev (d + 0) mX8_writeTo [.inr (29, 0), .inr (33, r1), am_I x2] (am_hM h M) (.inl (none, am_hM h M')) := by
  unfold f_X8_writeTo_i at hyp
  refine am_Ev.mk (by decide +kernel) rfl rfl (Nat.le_refl _) (Nat.le_refl _) ?_
  change am_At _ _ _ 0 [_, _, _] [] _ _
  refine am_aload_n dX8_writeTo_0 rfl ?_
  refine am_getR 8 0 30 dX8_writeTo_1 fg_X8_11 (sh_29 g) (by decide) rfl (rf_29_0 g) ?_
  refine am_iconst 0 (v := 0) dX8_writeTo_4 (by decide) ?_
  refine am_aload_n dX8_writeTo_5 rfl ?_
  refine am_iload_n dX8_writeTo_6 rfl ?_
  refine am_bipush 47 (v := 47) dX8_writeTo_7 (by decide) ?_
  obtain ⟨hg1, hyp⟩ := gd_some hyp
  obtain ⟨hg2, hyp⟩ := gd_some hyp
  refine am_copy dX8_writeTo_9 ml_X8_21 (am_ia.one (sh_30 g)) (am_ia.row (sh_33 g) (by omega) (by omega)) (by decide) hg1 (by decide) (by decide) hg2 (fun _ => Nat.le_of_ble_eq_true rfl) ?_
  change am_At _ _ _ 12 [_, _, _] [] (am_hM h (am_cp M 30 0 0 33 r1 (x2.toNatClampNeg) 47)) _
  cases hyp
  exact am_vret dX8_writeTo_12 rfl
theorem ef_X8_readFrom_p {d : Nat} {h : am_H} (g : lay h) {x2 : Int32} {M : Mem} {M' : Mem} (hyp : f_X8_readFrom_p x2 M = some M') : am_Ev (d + 0) mX8_readFrom [.inr (29, 0), .inr (32, 0), am_I x2] (am_hM h M) (.inl (none, am_hM h M')) := by
  unfold f_X8_readFrom_p at hyp
  refine am_Ev.mk (by decide +kernel) rfl rfl (Nat.le_refl _) (Nat.le_refl _) ?_
  change am_At _ _ _ 0 [_, _, _] [] _ _
  refine am_aload_n dX8_readFrom_0 rfl ?_
  refine am_iload_n dX8_readFrom_1 rfl ?_
  refine am_aload_n dX8_readFrom_2 rfl ?_
  refine am_getR 8 0 30 dX8_readFrom_3 fg_X8_11 (sh_29 g) (by decide) rfl (rf_29_0 g) ?_
  refine am_iconst 0 (v := 0) dX8_readFrom_6 (by decide) ?_
  refine am_bipush 47 (v := 47) dX8_readFrom_7 (by decide) ?_
  obtain ⟨hg1, hyp⟩ := gd_some hyp
  obtain ⟨hg2, hyp⟩ := gd_some hyp
  refine am_copy dX8_readFrom_9 ml_X8_21 (am_ia.one (sh_32 g)) (am_ia.one (sh_30 g)) hg1 (by decide) (by decide) hg2 (by decide) (fun _ => Nat.le_of_ble_eq_true rfl) ?_
  change am_At _ _ _ 12 [_, _, _] [] (am_hM h (am_cp M 32 0 (x2.toNatClampNeg) 30 0 0 47)) _
  cases hyp
  exact am_vret dX8_readFrom_12 rfl
theorem ef_X8_readFrom_i {d : Nat} {h : am_H} (g : lay h) {r1 : Nat} (hr1 : 0 < r1 ∧ r1 ≤ 3) {x2 : Int32} {M : Mem} {M' : Mem} (hyp : f_X8_readFrom_i r1 x2 M = some M') : am_Ev (d + 0) mX8_readFrom [.inr (29, 0), .inr (33, r1), am_I x2] (am_hM h M) (.inl (none, am_hM h M')) := by
  unfold f_X8_readFrom_i at hyp
  refine am_Ev.mk (by decide +kernel) rfl rfl (Nat.le_refl _) (Nat.le_refl _) ?_
  change am_At _ _ _ 0 [_, _, _] [] _ _
  refine am_aload_n dX8_readFrom_0 rfl ?_
  refine am_iload_n dX8_readFrom_1 rfl ?_
  refine am_aload_n dX8_readFrom_2 rfl ?_
  refine am_getR 8 0 30 dX8_readFrom_3 fg_X8_11 (sh_29 g) (by decide) rfl (rf_29_0 g) ?_
  refine am_iconst 0 (v := 0) dX8_readFrom_6 (by decide) ?_
  refine am_bipush 47 (v := 47) dX8_readFrom_7 (by decide) ?_
  obtain ⟨hg1, hyp⟩ := gd_some hyp
  obtain ⟨hg2, hyp⟩ := gd_some hyp
  refine am_copy dX8_readFrom_9 ml_X8_21 (am_ia.row (sh_33 g) (by omega) (by omega)) (am_ia.one (sh_30 g)) hg1 (by decide) (by decide) hg2 (by decide) (fun _ => Nat.le_of_ble_eq_true rfl) ?_
  change am_At _ _ _ 12 [_, _, _] [] (am_hM h (am_cp M 33 r1 (x2.toNatClampNeg) 30 0 0 47)) _
  cases hyp
  exact am_vret dX8_readFrom_12 rfl
theorem eL_X10_whichName_13 {d : Nat} {h : am_H} (g : lay h) {k1 : Nat} (hs1 : k1 < 8) {M : Mem} {r : am_R} (n : Nat) : ∀ (s : Int32 × Int32 × Int32 × Int32) (e : (Int32) ⊕ (Unit)), wh (L_X10_whichName_13 k1 M) n s = some e → (match e with | (Sum.inl x2) => am_At am_X0 (d + 4) mX10_whichName 55 [some (.inr (1, 0)), some (.inr (1000 + k1, 0)), some (am_I (x2)), none, none, none] [] (am_hM h M) r | (Sum.inr _) => am_At am_X0 (d + 4) mX10_whichName 115 [some (.inr (1, 0)), some (.inr (1000 + k1, 0)), none, none, none, none] [] (am_hM h M) r) → (match s with | (x2, x3, x4, x5) => am_At am_X0 (d + 4) mX10_whichName 13 [some (.inr (1, 0)), some (.inr (1000 + k1, 0)), some (am_I (x2)), some (am_I (x3)), some (am_I (x4)), some (am_I (x5))] [] (am_hM h M) r) := by
  refine am_wh (At := fun (s : Int32 × Int32 × Int32 × Int32) => match s with | (x2, x3, x4, x5) => am_At am_X0 (d + 4) mX10_whichName 13 [some (.inr (1, 0)), some (.inr (1000 + k1, 0)), some (am_I (x2)), some (am_I (x3)), some (am_I (x4)), some (am_I (x5))] [] (am_hM h M) r) (Ex := fun (e : (Int32) ⊕ (Unit)) => match e with | (Sum.inl x2) => am_At am_X0 (d + 4) mX10_whichName 55 [some (.inr (1, 0)), some (.inr (1000 + k1, 0)), some (am_I (x2)), none, none, none] [] (am_hM h M) r | (Sum.inr _) => am_At am_X0 (d + 4) mX10_whichName 115 [some (.inr (1, 0)), some (.inr (1000 + k1, 0)), none, none, none, none] [] (am_hM h M) r) ?_ n
  rintro ⟨x2, x3, x4, x5⟩ y hyp hx
  unfold L_X10_whichName_13 at hyp
  try dsimp only at hyp
  change am_At _ _ _ 13 [_, _, _, _, _, _] [] _ _
  refine am_iload dX10_whichName_13 rfl ?_
  refine am_aload_n dX10_whichName_15 rfl ?_
  refine am_callT hs1 [] dX10_whichName_16 ml_X10_52 tm_J0_length_8abf5 rfl (fun _ => Nat.le_of_ble_eq_true rfl) (by omega) rfl (ev_slen (d := d + 0) hs1) rfl ?_
  change am_At _ _ _ 19 [_, _, _, _, _, _] [_, _] _ _
  refine am_icmp_gt (96) 115 dX10_whichName_19 rfl ?_ ?_
  · intro hc1
    have hc1 : (sln k1) < x5 := hc1
    replace hyp := it_pos hc1 hyp
    cases hyp
    refine am_At.drop 2 ?_
    refine am_At.drop 3 ?_
    refine am_At.drop 4 ?_
    refine am_At.drop 5 ?_
    exact hx
  · intro hc1n
    have hc1n : ¬ ((sln k1) < x5) := hc1n
    replace hyp := it_neg hc1n hyp
    refine am_iload dX10_whichName_22 rfl ?_
    refine am_aload_n dX10_whichName_24 rfl ?_
    refine am_callT hs1 [] dX10_whichName_25 ml_X10_52 tm_J0_length_8abf5 rfl (fun _ => Nat.le_of_ble_eq_true rfl) (by omega) rfl (ev_slen (d := d + 0) hs1) rfl ?_
    change am_At _ _ _ 28 [_, _, _, _, _, _] [_, _] _ _
    refine am_icmp_eq (14) 42 dX10_whichName_28 rfl ?_ ?_
    · intro hc2
      have hc2 : x5 = (sln k1) := hc2
      replace hyp := it_pos hc2 hyp
      refine am_iload dX10_whichName_42 rfl ?_
      refine am_if_eq (13) 57 dX10_whichName_44 rfl ?_ ?_
      · intro hc3
        have hc3 : x4 = 0 := hc3
        replace hyp := it_pos hc3 hyp
        refine am_iinc dX10_whichName_57 rfl (am_ix _) ?_
        change am_At _ _ _ 60 [_, _, _, _, _, _] [] _ _
        refine am_aload_n dX10_whichName_60 rfl ?_
        refine am_getI 10 4 dX10_whichName_61 fg_X10_37 (sh_1 g) (by decide) rfl ?_
        refine am_istore_n dX10_whichName_64 (am_lb rfl) ?_
        change am_At _ _ _ 65 [_, _, _, _, _, _] [] _ _
        refine am_iconst 1 (v := 1) dX10_whichName_65 (by decide) ?_
        refine am_istore dX10_whichName_66 (am_lb rfl) ?_
        change am_At _ _ _ 68 [_, _, _, _, _, _] [] _ _
        refine am_goto (41) 109 dX10_whichName_68 rfl ?_
        refine am_iinc dX10_whichName_109 rfl (am_ix _) ?_
        change am_At _ _ _ 112 [_, _, _, _, _, _] [] _ _
        refine am_goto (-99) 13 dX10_whichName_112 rfl ?_
        cases hyp
        exact hx
      · intro hc3n
        have hc3n : ¬ (x4 = 0) := hc3n
        replace hyp := it_neg hc3n hyp
        refine am_iload_n dX10_whichName_47 rfl ?_
        refine am_aload_n dX10_whichName_48 rfl ?_
        refine am_getI 10 3 dX10_whichName_49 fg_X10_31 (sh_1 g) (by decide) rfl ?_
        refine am_icmp_ne (5) 57 dX10_whichName_52 rfl ?_ ?_
        · intro hc4n
          have hc4n : ¬ (x3 = (M 1 0 3)) := hc4n
          replace hyp := it_neg hc4n hyp
          refine am_iinc dX10_whichName_57 rfl (am_ix _) ?_
          change am_At _ _ _ 60 [_, _, _, _, _, _] [] _ _
          refine am_aload_n dX10_whichName_60 rfl ?_
          refine am_getI 10 4 dX10_whichName_61 fg_X10_37 (sh_1 g) (by decide) rfl ?_
          refine am_istore_n dX10_whichName_64 (am_lb rfl) ?_
          change am_At _ _ _ 65 [_, _, _, _, _, _] [] _ _
          refine am_iconst 1 (v := 1) dX10_whichName_65 (by decide) ?_
          refine am_istore dX10_whichName_66 (am_lb rfl) ?_
          change am_At _ _ _ 68 [_, _, _, _, _, _] [] _ _
          refine am_goto (41) 109 dX10_whichName_68 rfl ?_
          refine am_iinc dX10_whichName_109 rfl (am_ix _) ?_
          change am_At _ _ _ 112 [_, _, _, _, _, _] [] _ _
          refine am_goto (-99) 13 dX10_whichName_112 rfl ?_
          cases hyp
          exact hx
        · intro hc4
          have hc4 : x3 = (M 1 0 3) := hc4
          replace hyp := it_pos hc4 hyp
          cases hyp
          refine am_At.drop 3 ?_
          refine am_At.drop 4 ?_
          refine am_At.drop 5 ?_
          exact hx
    · intro hc2n
      have hc2n : ¬ (x5 = (sln k1)) := hc2n
      replace hyp := it_neg hc2n hyp
      refine am_aload_n dX10_whichName_31 rfl ?_
      refine am_iload dX10_whichName_32 rfl ?_
      obtain ⟨hg5, hyp⟩ := gd_some hyp
      refine am_callT hs1 [_] dX10_whichName_34 ml_X10_56 tm_J0_charAt_5068e rfl (fun _ => Nat.le_of_ble_eq_true rfl) (by omega) rfl (ev_schar (d := d + 0) hs1 (am_lit hg5)) rfl ?_
      change am_At _ _ _ 37 [_, _, _, _, _, _] [_] _ _
      refine am_bipush 32 (v := 32) dX10_whichName_37 (by decide) ?_
      refine am_icmp_ne (32) 71 dX10_whichName_39 rfl ?_ ?_
      · intro hc6n
        have hc6n : ¬ ((sch k1 x5) = (32 : Int32)) := hc6n
        replace hyp := it_neg hc6n hyp
        refine am_iload dX10_whichName_71 rfl ?_
        refine am_if_eq (30) 103 dX10_whichName_73 rfl ?_ ?_
        · intro hc7
          have hc7 : x4 = 0 := hc7
          replace hyp := it_pos hc7 hyp
          refine am_iconst 0 (v := 0) dX10_whichName_103 (by decide) ?_
          refine am_istore dX10_whichName_104 (am_lb rfl) ?_
          change am_At _ _ _ 106 [_, _, _, _, _, _] [] _ _
          refine am_iinc dX10_whichName_106 rfl (am_ix _) ?_
          change am_At _ _ _ 109 [_, _, _, _, _, _] [] _ _
          refine am_iinc dX10_whichName_109 rfl (am_ix _) ?_
          change am_At _ _ _ 112 [_, _, _, _, _, _] [] _ _
          refine am_goto (-99) 13 dX10_whichName_112 rfl ?_
          cases hyp
          exact hx
        · intro hc7n
          have hc7n : ¬ (x4 = 0) := hc7n
          replace hyp := it_neg hc7n hyp
          refine am_iload_n dX10_whichName_76 rfl ?_
          refine am_aload_n dX10_whichName_77 rfl ?_
          refine am_getI 10 3 dX10_whichName_78 fg_X10_31 (sh_1 g) (by decide) rfl ?_
          refine am_icmp_ge (22) 103 dX10_whichName_81 rfl ?_ ?_
          · intro hc8
            have hc8 : (M 1 0 3) ≤ x3 := hc8
            replace hyp := it_pos hc8 hyp
            refine am_iconst 0 (v := 0) dX10_whichName_103 (by decide) ?_
            refine am_istore dX10_whichName_104 (am_lb rfl) ?_
            change am_At _ _ _ 106 [_, _, _, _, _, _] [] _ _
            refine am_iinc dX10_whichName_106 rfl (am_ix _) ?_
            change am_At _ _ _ 109 [_, _, _, _, _, _] [] _ _
            refine am_iinc dX10_whichName_109 rfl (am_ix _) ?_
            change am_At _ _ _ 112 [_, _, _, _, _, _] [] _ _
            refine am_goto (-99) 13 dX10_whichName_112 rfl ?_
            cases hyp
            exact hx
          · intro hc8n
            have hc8n : ¬ ((M 1 0 3) ≤ x3) := hc8n
            replace hyp := it_neg hc8n hyp
            refine am_aload_n dX10_whichName_84 rfl ?_
            refine am_getR 10 0 2 dX10_whichName_85 fg_X10_9 (sh_1 g) (by decide) rfl (rf_1_0 g) ?_
            refine am_iload_n dX10_whichName_88 rfl ?_
            obtain ⟨hg9, hyp⟩ := gd_some hyp
            refine am_bald dX10_whichName_89 (sh_2 g) (am_lit hg9) ?_
            refine am_aload_n dX10_whichName_90 rfl ?_
            refine am_iload dX10_whichName_91 rfl ?_
            refine am_callT hs1 [_] dX10_whichName_93 ml_X10_56 tm_J0_charAt_5068e rfl (fun _ => Nat.le_of_ble_eq_true rfl) (by omega) rfl (ev_schar (d := d + 0) hs1 (am_lit hg5)) rfl ?_
            change am_At _ _ _ 96 [_, _, _, _, _, _] [_, _] _ _
            refine am_icmp_ne (7) 103 dX10_whichName_96 rfl ?_ ?_
            · intro hc10n
              have hc10n : ¬ ((M 2 0 x3.toNatClampNeg) = (sch k1 x5)) := hc10n
              replace hyp := it_neg hc10n hyp
              refine am_iconst 0 (v := 0) dX10_whichName_103 (by decide) ?_
              refine am_istore dX10_whichName_104 (am_lb rfl) ?_
              change am_At _ _ _ 106 [_, _, _, _, _, _] [] _ _
              refine am_iinc dX10_whichName_106 rfl (am_ix _) ?_
              change am_At _ _ _ 109 [_, _, _, _, _, _] [] _ _
              refine am_iinc dX10_whichName_109 rfl (am_ix _) ?_
              change am_At _ _ _ 112 [_, _, _, _, _, _] [] _ _
              refine am_goto (-99) 13 dX10_whichName_112 rfl ?_
              cases hyp
              exact hx
            · intro hc10
              have hc10 : (M 2 0 x3.toNatClampNeg) = (sch k1 x5) := hc10
              replace hyp := it_pos hc10 hyp
              refine am_iconst 1 (v := 1) dX10_whichName_99 (by decide) ?_
              refine am_goto (4) 104 dX10_whichName_100 rfl ?_
              refine am_istore dX10_whichName_104 (am_lb rfl) ?_
              change am_At _ _ _ 106 [_, _, _, _, _, _] [] _ _
              refine am_iinc dX10_whichName_106 rfl (am_ix _) ?_
              change am_At _ _ _ 109 [_, _, _, _, _, _] [] _ _
              refine am_iinc dX10_whichName_109 rfl (am_ix _) ?_
              change am_At _ _ _ 112 [_, _, _, _, _, _] [] _ _
              refine am_goto (-99) 13 dX10_whichName_112 rfl ?_
              cases hyp
              exact hx
      · intro hc6
        have hc6 : (sch k1 x5) = (32 : Int32) := hc6
        replace hyp := it_pos hc6 hyp
        refine am_iload dX10_whichName_42 rfl ?_
        refine am_if_eq (13) 57 dX10_whichName_44 rfl ?_ ?_
        · intro hc11
          have hc11 : x4 = 0 := hc11
          replace hyp := it_pos hc11 hyp
          refine am_iinc dX10_whichName_57 rfl (am_ix _) ?_
          change am_At _ _ _ 60 [_, _, _, _, _, _] [] _ _
          refine am_aload_n dX10_whichName_60 rfl ?_
          refine am_getI 10 4 dX10_whichName_61 fg_X10_37 (sh_1 g) (by decide) rfl ?_
          refine am_istore_n dX10_whichName_64 (am_lb rfl) ?_
          change am_At _ _ _ 65 [_, _, _, _, _, _] [] _ _
          refine am_iconst 1 (v := 1) dX10_whichName_65 (by decide) ?_
          refine am_istore dX10_whichName_66 (am_lb rfl) ?_
          change am_At _ _ _ 68 [_, _, _, _, _, _] [] _ _
          refine am_goto (41) 109 dX10_whichName_68 rfl ?_
          refine am_iinc dX10_whichName_109 rfl (am_ix _) ?_
          change am_At _ _ _ 112 [_, _, _, _, _, _] [] _ _
          refine am_goto (-99) 13 dX10_whichName_112 rfl ?_
          cases hyp
          exact hx
        · intro hc11n
          have hc11n : ¬ (x4 = 0) := hc11n
          replace hyp := it_neg hc11n hyp
          refine am_iload_n dX10_whichName_47 rfl ?_
          refine am_aload_n dX10_whichName_48 rfl ?_
          refine am_getI 10 3 dX10_whichName_49 fg_X10_31 (sh_1 g) (by decide) rfl ?_
          refine am_icmp_ne (5) 57 dX10_whichName_52 rfl ?_ ?_
          · intro hc12n
            have hc12n : ¬ (x3 = (M 1 0 3)) := hc12n
            replace hyp := it_neg hc12n hyp
            refine am_iinc dX10_whichName_57 rfl (am_ix _) ?_
            change am_At _ _ _ 60 [_, _, _, _, _, _] [] _ _
            refine am_aload_n dX10_whichName_60 rfl ?_
            refine am_getI 10 4 dX10_whichName_61 fg_X10_37 (sh_1 g) (by decide) rfl ?_
            refine am_istore_n dX10_whichName_64 (am_lb rfl) ?_
            change am_At _ _ _ 65 [_, _, _, _, _, _] [] _ _
            refine am_iconst 1 (v := 1) dX10_whichName_65 (by decide) ?_
            refine am_istore dX10_whichName_66 (am_lb rfl) ?_
            change am_At _ _ _ 68 [_, _, _, _, _, _] [] _ _
            refine am_goto (41) 109 dX10_whichName_68 rfl ?_
            refine am_iinc dX10_whichName_109 rfl (am_ix _) ?_
            change am_At _ _ _ 112 [_, _, _, _, _, _] [] _ _
            refine am_goto (-99) 13 dX10_whichName_112 rfl ?_
            cases hyp
            exact hx
          · intro hc12
            have hc12 : x3 = (M 1 0 3) := hc12
            replace hyp := it_pos hc12 hyp
            cases hyp
            refine am_At.drop 3 ?_
            refine am_At.drop 4 ?_
            refine am_At.drop 5 ?_
            exact hx
theorem ef_X10_whichName {d : Nat} {h : am_H} (g : lay h) {k1 : Nat} (hs1 : k1 < 8) {M : Mem} {v : Int32} (hyp : f_X10_whichName k1 M = some v) : am_Ev (d + 4) mX10_whichName [.inr (1, 0), .inr (1000 + k1, 0)] (am_hM h M) (.inl (some (am_I v), am_hM h M)) := by
  unfold f_X10_whichName at hyp
  refine am_Ev.mk (by decide +kernel) rfl rfl (Nat.le_refl _) (Nat.le_refl _) ?_
  change am_At _ _ _ 0 [_, _, _, _, _, _] [] _ _
  refine am_iconst 0 (v := 0) dX10_whichName_0 (by decide) ?_
  refine am_istore_n dX10_whichName_1 (am_lb rfl) ?_
  change am_At _ _ _ 2 [_, _, _, _, _, _] [] _ _
  refine am_aload_n dX10_whichName_2 rfl ?_
  refine am_getI 10 4 dX10_whichName_3 fg_X10_37 (sh_1 g) (by decide) rfl ?_
  refine am_istore_n dX10_whichName_6 (am_lb rfl) ?_
  change am_At _ _ _ 7 [_, _, _, _, _, _] [] _ _
  refine am_iconst 1 (v := 1) dX10_whichName_7 (by decide) ?_
  refine am_istore dX10_whichName_8 (am_lb rfl) ?_
  change am_At _ _ _ 10 [_, _, _, _, _, _] [] _ _
  refine am_iconst 0 (v := 0) dX10_whichName_10 (by decide) ?_
  refine am_istore dX10_whichName_11 (am_lb rfl) ?_
  change am_At _ _ _ 13 [_, _, _, _, _, _] [] _ _
  obtain ⟨e13, hw13, hyp⟩ := bd_some hyp
  rcases e13 with x2_13 | _
  · try dsimp only at hyp
    refine eL_X10_whichName_13 (d := d) (h := h) g hs1 (M := M) FU ((0 : Int32), M 1 0 4, (1 : Int32), (0 : Int32)) (Sum.inl x2_13) hw13 ?_
    change am_At _ _ _ 55 [_, _, _, _, _, _] [] _ _
    refine am_iload_n dX10_whichName_55 rfl ?_
    cases hyp
    exact am_iret dX10_whichName_56 rfl
  · try dsimp only at hyp
    refine eL_X10_whichName_13 (d := d) (h := h) g hs1 (M := M) FU ((0 : Int32), M 1 0 4, (1 : Int32), (0 : Int32)) (Sum.inr ()) hw13 ?_
    change am_At _ _ _ 115 [_, _, _, _, _, _] [] _ _
    refine am_iconst (-1) (v := (-1)) dX10_whichName_115 (by decide) ?_
    cases hyp
    exact am_iret dX10_whichName_116 rfl
theorem eL_X10_word_13 {d : Nat} {h : am_H} (g : lay h) {k1 : Nat} (hs1 : k1 < 8) {r : am_R} (n : Nat) : ∀ (s : Mem) (e : Mem), wh (L_X10_word_13) n s = some e → ((fun (M : Mem) => am_At am_X0 (d + 5) mX10_word 65 [some (.inr (1, 0)), some (.inr (1000 + k1, 0)), none] [] (am_hM h M) r) e) → ((fun (M : Mem) => am_At am_X0 (d + 5) mX10_word 13 [some (.inr (1, 0)), some (.inr (1000 + k1, 0)), none] [] (am_hM h M) r) s) := by
  refine am_wh (At := fun (s : Mem) => (fun (M : Mem) => am_At am_X0 (d + 5) mX10_word 13 [some (.inr (1, 0)), some (.inr (1000 + k1, 0)), none] [] (am_hM h M) r) s) (Ex := fun (e : Mem) => (fun (M : Mem) => am_At am_X0 (d + 5) mX10_word 65 [some (.inr (1, 0)), some (.inr (1000 + k1, 0)), none] [] (am_hM h M) r) e) ?_ n
  rintro M y hyp hx
  unfold L_X10_word_13 at hyp
  try dsimp only at hyp
  change am_At _ _ _ 13 [_, _, _] [] _ _
  refine am_aload_n dX10_word_13 rfl ?_
  refine am_getI 10 3 dX10_word_14 fg_X10_31 (sh_1 g) (by decide) rfl ?_
  refine am_aload_n dX10_word_17 rfl ?_
  refine am_getI 10 2 dX10_word_18 fg_X10_28 (sh_1 g) (by decide) rfl ?_
  refine am_icmp_ge (44) 65 dX10_word_21 rfl ?_ ?_
  · intro hc2
    have hc2 : (M 1 0 2) ≤ (M 1 0 3) := hc2
    replace hyp := it_pos hc2 hyp
    cases hyp
    exact hx
  · intro hc2n
    have hc2n : ¬ ((M 1 0 2) ≤ (M 1 0 3)) := hc2n
    replace hyp := it_neg hc2n hyp
    refine am_aload_n dX10_word_24 rfl ?_
    refine am_getR 10 0 2 dX10_word_25 fg_X10_9 (sh_1 g) (by decide) rfl (rf_1_0 g) ?_
    refine am_aload_n dX10_word_28 rfl ?_
    refine am_getI 10 3 dX10_word_29 fg_X10_31 (sh_1 g) (by decide) rfl ?_
    obtain ⟨hg3, hyp⟩ := gd_some hyp
    refine am_bald dX10_word_32 (sh_2 g) (am_lit hg3) ?_
    refine am_bipush 97 (v := 97) dX10_word_33 (by decide) ?_
    refine am_icmp_lt (30) 65 dX10_word_35 rfl ?_ ?_
    · intro hc4
      have hc4 : (M 2 0 ((M 1 0 3).toNatClampNeg)) < (97 : Int32) := hc4
      replace hyp := it_pos hc4 hyp
      cases hyp
      exact hx
    · intro hc4n
      have hc4n : ¬ ((M 2 0 ((M 1 0 3).toNatClampNeg)) < (97 : Int32)) := hc4n
      replace hyp := it_neg hc4n hyp
      refine am_aload_n dX10_word_38 rfl ?_
      refine am_getR 10 0 2 dX10_word_39 fg_X10_9 (sh_1 g) (by decide) rfl (rf_1_0 g) ?_
      refine am_aload_n dX10_word_42 rfl ?_
      refine am_getI 10 3 dX10_word_43 fg_X10_31 (sh_1 g) (by decide) rfl ?_
      refine am_bald dX10_word_46 (sh_2 g) (am_lit hg3) ?_
      refine am_bipush 122 (v := 122) dX10_word_47 (by decide) ?_
      refine am_icmp_gt (16) 65 dX10_word_49 rfl ?_ ?_
      · intro hc5
        have hc5 : (122 : Int32) < (M 2 0 ((M 1 0 3).toNatClampNeg)) := hc5
        replace hyp := it_pos hc5 hyp
        cases hyp
        exact hx
      · intro hc5n
        have hc5n : ¬ ((122 : Int32) < (M 2 0 ((M 1 0 3).toNatClampNeg))) := hc5n
        replace hyp := it_neg hc5n hyp
        refine am_aload_n dX10_word_52 rfl ?_
        refine am_dup dX10_word_53 (fun _ => rfl) ?_
        refine am_getI 10 3 dX10_word_54 fg_X10_31 (sh_1 g) (by decide) rfl ?_
        refine am_iconst 1 (v := 1) dX10_word_57 (by decide) ?_
        refine am_iadd dX10_word_58 ?_
        refine am_putI 10 3 dX10_word_59 (Or.inl fp_X10_31) (sh_1 g) (by decide) rfl rfl rfl ?_
        refine am_goto (-49) 13 dX10_word_62 rfl ?_
        cases hyp
        exact hx
theorem ef_X10_word {d : Nat} {h : am_H} (g : lay h) {k1 : Nat} (hs1 : k1 < 8) {M : Mem} {v : Int32} {M' : Mem} (hyp : f_X10_word k1 M = some (v, M')) : am_Ev (d + 5) mX10_word [.inr (1, 0), .inr (1000 + k1, 0)] (am_hM h M) (.inl (some (am_I v), am_hM h M')) := by
  unfold f_X10_word at hyp
  refine am_Ev.mk (by decide +kernel) rfl rfl (Nat.le_refl _) (Nat.le_refl _) ?_
  change am_At _ _ _ 0 [_, _, _] [] _ _
  refine am_aload_n dX10_word_0 rfl ?_
  obtain ⟨⟨v1, M1⟩, hk1, hyp⟩ := bd_some hyp
  try dsimp only at hyp
  refine am_callV [] dX10_word_1 ml_X10_44 vm_X10_next (sh_1 g) rfl (fun _ => Nat.le_of_ble_eq_true rfl) (by omega) rfl (ef_X10_next (d := d + 4) (h := h) g hk1) rfl ?_
  change am_At _ _ _ 4 [_, _, _] [_] _ _
  refine am_pop dX10_word_4 (fun _ => rfl) ?_
  refine am_aload_n dX10_word_5 rfl ?_
  refine am_aload_n dX10_word_6 rfl ?_
  refine am_getI 10 3 dX10_word_7 fg_X10_31 (sh_1 g) (by decide) rfl ?_
  refine am_putI 10 4 dX10_word_10 (Or.inl fp_X10_37) (sh_1 g) (by decide) rfl rfl rfl ?_
  obtain ⟨M6, hw6, hyp⟩ := bd_some hyp
  try dsimp only at hyp
  refine eL_X10_word_13 (d := d) (h := h) g hs1  FU (am_u3 M1 1 0 4 (M1 1 0 3)) M6 hw6 ?_
  change am_At _ _ _ 65 [_, _, _] [] _ _
  refine am_aload_n dX10_word_65 rfl ?_
  refine am_aload_n dX10_word_66 rfl ?_
  obtain ⟨v7, hk7, hyp⟩ := bd_some hyp
  try dsimp only at hyp
  refine am_callV [_] dX10_word_67 ml_X10_64 vm_X10_whichName (sh_1 g) rfl (fun _ => Nat.le_of_ble_eq_true rfl) (by omega) rfl (ef_X10_whichName (d := d + 0) (h := h) g hs1  hk7) rfl ?_
  change am_At _ _ _ 70 [_, _, _] [_] _ _
  refine am_istore_n dX10_word_70 (am_lb rfl) ?_
  change am_At _ _ _ 71 [_, _, _] [] _ _
  refine am_iload_n dX10_word_71 rfl ?_
  refine am_iconst (-1) (v := (-1)) dX10_word_72 (by decide) ?_
  refine am_icmp_ne (12) 85 dX10_word_73 rfl ?_ ?_
  · intro hc8n
    have hc8n : ¬ (v7 = (-1 : Int32)) := hc8n
    replace hyp := it_neg hc8n hyp
    refine am_aload_n dX10_word_85 rfl ?_
    refine am_callV [] dX10_word_86 ml_X10_61 vm_X10_isFaulty (sh_1 g) rfl (fun _ => Nat.le_of_ble_eq_true rfl) (by omega) rfl (ef_X10_isFaulty (d := d + 4) (h := h) g  (M := M6) rfl) rfl ?_
    change am_At _ _ _ 89 [_, _, _] [_] _ _
    refine am_if_eq (7) 96 dX10_word_89 rfl ?_ ?_
    · intro hc9
      have hc9 : (f_X10_isFaulty M6) = 0 := hc9
      replace hyp := it_pos hc9 hyp
      refine am_iload_n dX10_word_96 rfl ?_
      cases hyp
      exact am_iret dX10_word_97 rfl
    · intro hc9n
      have hc9n : ¬ ((f_X10_isFaulty M6) = 0) := hc9n
      replace hyp := it_neg hc9n hyp
      refine am_iconst (-1) (v := (-1)) dX10_word_92 (by decide) ?_
      refine am_goto (4) 97 dX10_word_93 rfl ?_
      cases hyp
      exact am_iret dX10_word_97 rfl
  · intro hc8
    have hc8 : v7 = (-1 : Int32) := hc8
    replace hyp := it_pos hc8 hyp
    refine am_aload_n dX10_word_76 rfl ?_
    refine am_iconst 1 (v := 1) dX10_word_77 (by decide) ?_
    refine am_aload_n dX10_word_78 rfl ?_
    refine am_getI 10 4 dX10_word_79 fg_X10_37 (sh_1 g) (by decide) rfl ?_
    refine am_callV [_, _] dX10_word_82 ml_X10_40 vm_X10_blame (sh_1 g) rfl (fun _ => Nat.le_of_ble_eq_true rfl) (by omega) rfl (ef_X10_blame (d := d + 4) (h := h) g (x1 := (1 : Int32)) (x2 := (M6 1 0 4)) (M := M6) rfl) rfl ?_
    change am_At _ _ _ 85 [_, _, _] [] _ _
    refine am_aload_n dX10_word_85 rfl ?_
    refine am_callV [] dX10_word_86 ml_X10_61 vm_X10_isFaulty (sh_1 g) rfl (fun _ => Nat.le_of_ble_eq_true rfl) (by omega) rfl (ef_X10_isFaulty (d := d + 4) (h := h) g  (M := (f_X10_blame (1 : Int32) (M6 1 0 4) M6)) rfl) rfl ?_
    change am_At _ _ _ 89 [_, _, _] [_] _ _
    refine am_if_eq (7) 96 dX10_word_89 rfl ?_ ?_
    · intro hc10
      have hc10 : (f_X10_isFaulty (f_X10_blame (1 : Int32) (M6 1 0 4) M6)) = 0 := hc10
      replace hyp := it_pos hc10 hyp
      refine am_iload_n dX10_word_96 rfl ?_
      cases hyp
      exact am_iret dX10_word_97 rfl
    · intro hc10n
      have hc10n : ¬ ((f_X10_isFaulty (f_X10_blame (1 : Int32) (M6 1 0 4) M6)) = 0) := hc10n
      replace hyp := it_neg hc10n hyp
      refine am_iconst (-1) (v := (-1)) dX10_word_92 (by decide) ?_
      refine am_goto (4) 97 dX10_word_93 rfl ?_
      cases hyp
      exact am_iret dX10_word_97 rfl
theorem eL_X10_takeOneOf_7 {d : Nat} {h : am_H} (g : lay h) {k1 : Nat} (hs1 : k1 < 8) {x2 : Int32} {M : Mem} {r : am_R} (n : Nat) : ∀ (s : Int32) (e : (Int32) ⊕ (Unit)), wh (L_X10_takeOneOf_7 k1 x2) n s = some e → (match e with | (Sum.inl x3) => am_At am_X0 (d + 4) mX10_takeOneOf 24 [some (.inr (1, 0)), some (.inr (1000 + k1, 0)), some (am_I (x2)), some (am_I (x3))] [] (am_hM h M) r | (Sum.inr _) => am_At am_X0 (d + 4) mX10_takeOneOf 50 [some (.inr (1, 0)), some (.inr (1000 + k1, 0)), some (am_I (x2)), none] [] (am_hM h M) r) → ((fun (x3 : Int32) => am_At am_X0 (d + 4) mX10_takeOneOf 7 [some (.inr (1, 0)), some (.inr (1000 + k1, 0)), some (am_I (x2)), some (am_I (x3))] [] (am_hM h M) r) s) := by
  refine am_wh (At := fun (s : Int32) => (fun (x3 : Int32) => am_At am_X0 (d + 4) mX10_takeOneOf 7 [some (.inr (1, 0)), some (.inr (1000 + k1, 0)), some (am_I (x2)), some (am_I (x3))] [] (am_hM h M) r) s) (Ex := fun (e : (Int32) ⊕ (Unit)) => match e with | (Sum.inl x3) => am_At am_X0 (d + 4) mX10_takeOneOf 24 [some (.inr (1, 0)), some (.inr (1000 + k1, 0)), some (am_I (x2)), some (am_I (x3))] [] (am_hM h M) r | (Sum.inr _) => am_At am_X0 (d + 4) mX10_takeOneOf 50 [some (.inr (1, 0)), some (.inr (1000 + k1, 0)), some (am_I (x2)), none] [] (am_hM h M) r) ?_ n
  rintro x3 y hyp hx
  unfold L_X10_takeOneOf_7 at hyp
  try dsimp only at hyp
  change am_At _ _ _ 7 [_, _, _, _] [] _ _
  refine am_iload_n dX10_takeOneOf_7 rfl ?_
  refine am_aload_n dX10_takeOneOf_8 rfl ?_
  refine am_callT hs1 [] dX10_takeOneOf_9 ml_X10_52 tm_J0_length_8abf5 rfl (fun _ => Nat.le_of_ble_eq_true rfl) (by omega) rfl (ev_slen (d := d + 0) hs1) rfl ?_
  change am_At _ _ _ 12 [_, _, _, _] [_, _] _ _
  refine am_icmp_ge (38) 50 dX10_takeOneOf_12 rfl ?_ ?_
  · intro hc2
    have hc2 : (sln k1) ≤ x3 := hc2
    replace hyp := it_pos hc2 hyp
    cases hyp
    refine am_At.drop 3 ?_
    exact hx
  · intro hc2n
    have hc2n : ¬ ((sln k1) ≤ x3) := hc2n
    replace hyp := it_neg hc2n hyp
    refine am_aload_n dX10_takeOneOf_15 rfl ?_
    refine am_iload_n dX10_takeOneOf_16 rfl ?_
    obtain ⟨hg3, hyp⟩ := gd_some hyp
    refine am_callT hs1 [_] dX10_takeOneOf_17 ml_X10_56 tm_J0_charAt_5068e rfl (fun _ => Nat.le_of_ble_eq_true rfl) (by omega) rfl (ev_schar (d := d + 0) hs1 (am_lit hg3)) rfl ?_
    change am_At _ _ _ 20 [_, _, _, _] [_] _ _
    refine am_iload_n dX10_takeOneOf_20 rfl ?_
    refine am_icmp_ne (23) 44 dX10_takeOneOf_21 rfl ?_ ?_
    · intro hc4n
      have hc4n : ¬ ((sch k1 x3) = x2) := hc4n
      replace hyp := it_neg hc4n hyp
      refine am_iinc dX10_takeOneOf_44 rfl (am_ix _) ?_
      change am_At _ _ _ 47 [_, _, _, _] [] _ _
      refine am_goto (-40) 7 dX10_takeOneOf_47 rfl ?_
      cases hyp
      exact hx
    · intro hc4
      have hc4 : (sch k1 x3) = x2 := hc4
      replace hyp := it_pos hc4 hyp
      cases hyp
      exact hx
theorem ef_X10_takeOneOf {d : Nat} {h : am_H} (g : lay h) {k1 : Nat} (hs1 : k1 < 8) {M : Mem} {v : Int32} {M' : Mem} (hyp : f_X10_takeOneOf k1 M = some (v, M')) : am_Ev (d + 4) mX10_takeOneOf [.inr (1, 0), .inr (1000 + k1, 0)] (am_hM h M) (.inl (some (am_I v), am_hM h M')) := by
  unfold f_X10_takeOneOf at hyp
  refine am_Ev.mk (by decide +kernel) rfl rfl (Nat.le_refl _) (Nat.le_refl _) ?_
  change am_At _ _ _ 0 [_, _, _, _] [] _ _
  refine am_aload_n dX10_takeOneOf_0 rfl ?_
  obtain ⟨⟨v1, M1⟩, hk1, hyp⟩ := bd_some hyp
  try dsimp only at hyp
  refine am_callV [] dX10_takeOneOf_1 ml_X10_44 vm_X10_next (sh_1 g) rfl (fun _ => Nat.le_of_ble_eq_true rfl) (by omega) rfl (ef_X10_next (d := d + 3) (h := h) g hk1) rfl ?_
  change am_At _ _ _ 4 [_, _, _, _] [_] _ _
  refine am_istore_n dX10_takeOneOf_4 (am_lb rfl) ?_
  change am_At _ _ _ 5 [_, _, _, _] [] _ _
  refine am_iconst 0 (v := 0) dX10_takeOneOf_5 (by decide) ?_
  refine am_istore_n dX10_takeOneOf_6 (am_lb rfl) ?_
  change am_At _ _ _ 7 [_, _, _, _] [] _ _
  obtain ⟨e5, hw5, hyp⟩ := bd_some hyp
  rcases e5 with x3_5 | _
  · try dsimp only at hyp
    refine eL_X10_takeOneOf_7 (d := d) (h := h) g hs1 (M := M1) FU (0 : Int32) (Sum.inl x3_5) hw5 ?_
    change am_At _ _ _ 24 [_, _, _, _] [] _ _
    refine am_aload_n dX10_takeOneOf_24 rfl ?_
    refine am_aload_n dX10_takeOneOf_25 rfl ?_
    refine am_getI 10 3 dX10_takeOneOf_26 fg_X10_31 (sh_1 g) (by decide) rfl ?_
    refine am_putI 10 4 dX10_takeOneOf_29 (Or.inl fp_X10_37) (sh_1 g) (by decide) rfl rfl rfl ?_
    refine am_aload_n dX10_takeOneOf_32 rfl ?_
    refine am_dup dX10_takeOneOf_33 (fun _ => rfl) ?_
    refine am_getI 10 3 dX10_takeOneOf_34 fg_X10_31 (sh_1 g) (by decide) rfl ?_
    refine am_iconst 1 (v := 1) dX10_takeOneOf_37 (by decide) ?_
    refine am_iadd dX10_takeOneOf_38 ?_
    refine am_putI 10 3 dX10_takeOneOf_39 (Or.inl fp_X10_31) (sh_1 g) (by decide) rfl rfl rfl ?_
    refine am_iload_n dX10_takeOneOf_42 rfl ?_
    cases hyp
    exact am_iret dX10_takeOneOf_43 rfl
  · try dsimp only at hyp
    refine eL_X10_takeOneOf_7 (d := d) (h := h) g hs1 (M := M1) FU (0 : Int32) (Sum.inr ()) hw5 ?_
    change am_At _ _ _ 50 [_, _, _, _] [] _ _
    refine am_iconst (-1) (v := (-1)) dX10_takeOneOf_50 (by decide) ?_
    cases hyp
    exact am_iret dX10_takeOneOf_51 rfl
theorem ef_X12_mastOf_72 {d : Nat} {h : am_H} (g : lay h) {x2 : Int32} {M : Mem} {v : Int32} (hyp : f_X12_mastOf 72 x2 M = some v) : am_Ev (d + 0) mX12_mastOf [.inr (54, 0), .inr (72, 0), am_I x2] (am_hM h M) (.inl (some (am_I v), am_hM h M)) := by
  unfold f_X12_mastOf at hyp
  refine am_Ev.mk (by decide +kernel) rfl rfl (Nat.le_refl _) (Nat.le_refl _) ?_
  change am_At _ _ _ 0 [_, _, _] [] _ _
  refine am_iload_n dX12_mastOf_0 rfl ?_
  refine am_iconst 4 (v := 4) dX12_mastOf_1 (by decide) ?_
  refine am_icmp_ne (10) 12 dX12_mastOf_2 rfl ?_ ?_
  · intro hc1n
    have hc1n : ¬ (x2 = (4 : Int32)) := hc1n
    replace hyp := it_neg hc1n hyp
    refine am_aload_n dX12_mastOf_12 rfl ?_
    refine am_getR 12 16 62 dX12_mastOf_13 fg_X12_37 (sh_54 g) (by decide) rfl (rf_54_16 g) ?_
    refine am_iload_n dX12_mastOf_16 rfl ?_
    obtain ⟨hg2, hyp⟩ := gd_some hyp
    refine am_aald dX12_mastOf_17 (sh_62 g) (am_lit hg2) ?_
    refine am_iconst 0 (v := 0) dX12_mastOf_18 (by decide) ?_
    refine am_iald dX12_mastOf_19 (am_ia.row (sh_62 g) (by omega) (am_vlt (am_lit hg2))) (am_lit rfl) ?_
    cases hyp
    exact am_iret dX12_mastOf_20 rfl
  · intro hc1
    have hc1 : x2 = (4 : Int32) := hc1
    replace hyp := it_pos hc1 hyp
    refine am_aload_n dX12_mastOf_5 rfl ?_
    refine am_bipush 65 (v := 65) dX12_mastOf_6 (by decide) ?_
    refine am_iald dX12_mastOf_8 (am_ia.one (sh_72 g)) (am_lit rfl) ?_
    refine am_goto (11) 20 dX12_mastOf_9 rfl ?_
    cases hyp
    exact am_iret dX12_mastOf_20 rfl
theorem ef_X12_mastOf_73 {d : Nat} {h : am_H} (g : lay h) {x2 : Int32} {M : Mem} {v : Int32} (hyp : f_X12_mastOf 73 x2 M = some v) : am_Ev (d + 0) mX12_mastOf [.inr (54, 0), .inr (73, 0), am_I x2] (am_hM h M) (.inl (some (am_I v), am_hM h M)) := by
  unfold f_X12_mastOf at hyp
  refine am_Ev.mk (by decide +kernel) rfl rfl (Nat.le_refl _) (Nat.le_refl _) ?_
  change am_At _ _ _ 0 [_, _, _] [] _ _
  refine am_iload_n dX12_mastOf_0 rfl ?_
  refine am_iconst 4 (v := 4) dX12_mastOf_1 (by decide) ?_
  refine am_icmp_ne (10) 12 dX12_mastOf_2 rfl ?_ ?_
  · intro hc1n
    have hc1n : ¬ (x2 = (4 : Int32)) := hc1n
    replace hyp := it_neg hc1n hyp
    refine am_aload_n dX12_mastOf_12 rfl ?_
    refine am_getR 12 16 62 dX12_mastOf_13 fg_X12_37 (sh_54 g) (by decide) rfl (rf_54_16 g) ?_
    refine am_iload_n dX12_mastOf_16 rfl ?_
    obtain ⟨hg2, hyp⟩ := gd_some hyp
    refine am_aald dX12_mastOf_17 (sh_62 g) (am_lit hg2) ?_
    refine am_iconst 0 (v := 0) dX12_mastOf_18 (by decide) ?_
    refine am_iald dX12_mastOf_19 (am_ia.row (sh_62 g) (by omega) (am_vlt (am_lit hg2))) (am_lit rfl) ?_
    cases hyp
    exact am_iret dX12_mastOf_20 rfl
  · intro hc1
    have hc1 : x2 = (4 : Int32) := hc1
    replace hyp := it_pos hc1 hyp
    refine am_aload_n dX12_mastOf_5 rfl ?_
    refine am_bipush 65 (v := 65) dX12_mastOf_6 (by decide) ?_
    refine am_iald dX12_mastOf_8 (am_ia.one (sh_73 g)) (am_lit rfl) ?_
    refine am_goto (11) 20 dX12_mastOf_9 rfl ?_
    cases hyp
    exact am_iret dX12_mastOf_20 rfl
theorem ef_X12_comesIn_72 {d : Nat} {h : am_H} (g : lay h) {x2 : Int32} {M : Mem} {v : Int32} (hyp : f_X12_comesIn 72 x2 M = some v) : am_Ev (d + 0) mX12_comesIn [.inr (54, 0), .inr (72, 0), am_I x2] (am_hM h M) (.inl (some (am_I v), am_hM h M)) := by
  unfold f_X12_comesIn at hyp
  refine am_Ev.mk (by decide +kernel) rfl rfl (Nat.le_refl _) (Nat.le_refl _) ?_
  change am_At _ _ _ 0 [_, _, _] [] _ _
  refine am_iload_n dX12_comesIn_0 rfl ?_
  refine am_iconst 4 (v := 4) dX12_comesIn_1 (by decide) ?_
  refine am_icmp_ne (10) 12 dX12_comesIn_2 rfl ?_ ?_
  · intro hc1n
    have hc1n : ¬ (x2 = (4 : Int32)) := hc1n
    replace hyp := it_neg hc1n hyp
    refine am_aload_n dX12_comesIn_12 rfl ?_
    refine am_getR 12 16 62 dX12_comesIn_13 fg_X12_37 (sh_54 g) (by decide) rfl (rf_54_16 g) ?_
    refine am_iload_n dX12_comesIn_16 rfl ?_
    obtain ⟨hg2, hyp⟩ := gd_some hyp
    refine am_aald dX12_comesIn_17 (sh_62 g) (am_lit hg2) ?_
    refine am_iconst 1 (v := 1) dX12_comesIn_18 (by decide) ?_
    refine am_iald dX12_comesIn_19 (am_ia.row (sh_62 g) (by omega) (am_vlt (am_lit hg2))) (am_lit rfl) ?_
    cases hyp
    exact am_iret dX12_comesIn_20 rfl
  · intro hc1
    have hc1 : x2 = (4 : Int32) := hc1
    replace hyp := it_pos hc1 hyp
    refine am_aload_n dX12_comesIn_5 rfl ?_
    refine am_bipush 64 (v := 64) dX12_comesIn_6 (by decide) ?_
    refine am_iald dX12_comesIn_8 (am_ia.one (sh_72 g)) (am_lit rfl) ?_
    refine am_goto (11) 20 dX12_comesIn_9 rfl ?_
    cases hyp
    exact am_iret dX12_comesIn_20 rfl
theorem ef_X12_comesIn_73 {d : Nat} {h : am_H} (g : lay h) {x2 : Int32} {M : Mem} {v : Int32} (hyp : f_X12_comesIn 73 x2 M = some v) : am_Ev (d + 0) mX12_comesIn [.inr (54, 0), .inr (73, 0), am_I x2] (am_hM h M) (.inl (some (am_I v), am_hM h M)) := by
  unfold f_X12_comesIn at hyp
  refine am_Ev.mk (by decide +kernel) rfl rfl (Nat.le_refl _) (Nat.le_refl _) ?_
  change am_At _ _ _ 0 [_, _, _] [] _ _
  refine am_iload_n dX12_comesIn_0 rfl ?_
  refine am_iconst 4 (v := 4) dX12_comesIn_1 (by decide) ?_
  refine am_icmp_ne (10) 12 dX12_comesIn_2 rfl ?_ ?_
  · intro hc1n
    have hc1n : ¬ (x2 = (4 : Int32)) := hc1n
    replace hyp := it_neg hc1n hyp
    refine am_aload_n dX12_comesIn_12 rfl ?_
    refine am_getR 12 16 62 dX12_comesIn_13 fg_X12_37 (sh_54 g) (by decide) rfl (rf_54_16 g) ?_
    refine am_iload_n dX12_comesIn_16 rfl ?_
    obtain ⟨hg2, hyp⟩ := gd_some hyp
    refine am_aald dX12_comesIn_17 (sh_62 g) (am_lit hg2) ?_
    refine am_iconst 1 (v := 1) dX12_comesIn_18 (by decide) ?_
    refine am_iald dX12_comesIn_19 (am_ia.row (sh_62 g) (by omega) (am_vlt (am_lit hg2))) (am_lit rfl) ?_
    cases hyp
    exact am_iret dX12_comesIn_20 rfl
  · intro hc1
    have hc1 : x2 = (4 : Int32) := hc1
    replace hyp := it_pos hc1 hyp
    refine am_aload_n dX12_comesIn_5 rfl ?_
    refine am_bipush 64 (v := 64) dX12_comesIn_6 (by decide) ?_
    refine am_iald dX12_comesIn_8 (am_ia.one (sh_73 g)) (am_lit rfl) ?_
    refine am_goto (11) 20 dX12_comesIn_9 rfl ?_
    cases hyp
    exact am_iret dX12_comesIn_20 rfl
theorem isb_X12_isBarge (q1 : Nat) (x2 : Int32) (M : Mem) : isb (f_X12_isBarge q1 x2 M) = true := by
  unfold f_X12_isBarge
  (repeat' split) <;> rfl
theorem ef_X12_isBarge_72 {d : Nat} {h : am_H} (g : lay h) {x2 : Int32} {M : Mem} {v : Int32} (hyp : f_X12_isBarge 72 x2 M = v) : am_Ev (d + 0) mX12_isBarge [.inr (54, 0), .inr (72, 0), am_I x2] (am_hM h M) (.inl (some (am_I v), am_hM h M)) := by
  unfold f_X12_isBarge at hyp
  refine am_Ev.mk (by decide +kernel) rfl rfl (Nat.le_refl _) (Nat.le_refl _) ?_
  change am_At _ _ _ 0 [_, _, _] [] _ _
  refine am_iload_n dX12_isBarge_0 rfl ?_
  refine am_aload_n dX12_isBarge_1 rfl ?_
  refine am_getR 12 12 58 dX12_isBarge_2 fg_X12_23 (sh_54 g) (by decide) rfl (rf_54_12 g) ?_
  refine am_iconst 1 (v := 1) dX12_isBarge_5 (by decide) ?_
  refine am_iald dX12_isBarge_6 (am_ia.one (sh_58 g)) (am_lit rfl) ?_
  refine am_icmp_lt (16) 23 dX12_isBarge_7 rfl ?_ ?_
  · intro hc1
    have hc1 : x2 < (M 58 0 1) := hc1
    replace hyp := it_pos hc1 hyp
    refine am_iconst 1 (v := 1) dX12_isBarge_23 (by decide) ?_
    refine am_goto (4) 28 dX12_isBarge_24 rfl ?_
    cases hyp
    exact am_zret dX12_isBarge_28 rfl rfl
  · intro hc1n
    have hc1n : ¬ (x2 < (M 58 0 1)) := hc1n
    replace hyp := it_neg hc1n hyp
    refine am_iload_n dX12_isBarge_10 rfl ?_
    refine am_iconst 4 (v := 4) dX12_isBarge_11 (by decide) ?_
    refine am_icmp_ne (15) 27 dX12_isBarge_12 rfl ?_ ?_
    · intro hc2n
      have hc2n : ¬ (x2 = (4 : Int32)) := hc2n
      replace hyp := it_neg hc2n hyp
      refine am_iconst 0 (v := 0) dX12_isBarge_27 (by decide) ?_
      cases hyp
      exact am_zret dX12_isBarge_28 rfl rfl
    · intro hc2
      have hc2 : x2 = (4 : Int32) := hc2
      replace hyp := it_pos hc2 hyp
      refine am_aload_n dX12_isBarge_15 rfl ?_
      refine am_bipush 64 (v := 64) dX12_isBarge_16 (by decide) ?_
      refine am_iald dX12_isBarge_18 (am_ia.one (sh_72 g)) (am_lit rfl) ?_
      refine am_iconst (-1) (v := (-1)) dX12_isBarge_19 (by decide) ?_
      refine am_icmp_eq (7) 27 dX12_isBarge_20 rfl ?_ ?_
      · intro hc3
        have hc3 : (M 72 0 64) = (-1 : Int32) := hc3
        replace hyp := it_pos hc3 hyp
        refine am_iconst 0 (v := 0) dX12_isBarge_27 (by decide) ?_
        cases hyp
        exact am_zret dX12_isBarge_28 rfl rfl
      · intro hc3n
        have hc3n : ¬ ((M 72 0 64) = (-1 : Int32)) := hc3n
        replace hyp := it_neg hc3n hyp
        refine am_iconst 1 (v := 1) dX12_isBarge_23 (by decide) ?_
        refine am_goto (4) 28 dX12_isBarge_24 rfl ?_
        cases hyp
        exact am_zret dX12_isBarge_28 rfl rfl
theorem ef_X12_isBarge_73 {d : Nat} {h : am_H} (g : lay h) {x2 : Int32} {M : Mem} {v : Int32} (hyp : f_X12_isBarge 73 x2 M = v) : am_Ev (d + 0) mX12_isBarge [.inr (54, 0), .inr (73, 0), am_I x2] (am_hM h M) (.inl (some (am_I v), am_hM h M)) := by
  unfold f_X12_isBarge at hyp
  refine am_Ev.mk (by decide +kernel) rfl rfl (Nat.le_refl _) (Nat.le_refl _) ?_
  change am_At _ _ _ 0 [_, _, _] [] _ _
  refine am_iload_n dX12_isBarge_0 rfl ?_
  refine am_aload_n dX12_isBarge_1 rfl ?_
  refine am_getR 12 12 58 dX12_isBarge_2 fg_X12_23 (sh_54 g) (by decide) rfl (rf_54_12 g) ?_
  refine am_iconst 1 (v := 1) dX12_isBarge_5 (by decide) ?_
  refine am_iald dX12_isBarge_6 (am_ia.one (sh_58 g)) (am_lit rfl) ?_
  refine am_icmp_lt (16) 23 dX12_isBarge_7 rfl ?_ ?_
  · intro hc1
    have hc1 : x2 < (M 58 0 1) := hc1
    replace hyp := it_pos hc1 hyp
    refine am_iconst 1 (v := 1) dX12_isBarge_23 (by decide) ?_
    refine am_goto (4) 28 dX12_isBarge_24 rfl ?_
    cases hyp
    exact am_zret dX12_isBarge_28 rfl rfl
  · intro hc1n
    have hc1n : ¬ (x2 < (M 58 0 1)) := hc1n
    replace hyp := it_neg hc1n hyp
    refine am_iload_n dX12_isBarge_10 rfl ?_
    refine am_iconst 4 (v := 4) dX12_isBarge_11 (by decide) ?_
    refine am_icmp_ne (15) 27 dX12_isBarge_12 rfl ?_ ?_
    · intro hc2n
      have hc2n : ¬ (x2 = (4 : Int32)) := hc2n
      replace hyp := it_neg hc2n hyp
      refine am_iconst 0 (v := 0) dX12_isBarge_27 (by decide) ?_
      cases hyp
      exact am_zret dX12_isBarge_28 rfl rfl
    · intro hc2
      have hc2 : x2 = (4 : Int32) := hc2
      replace hyp := it_pos hc2 hyp
      refine am_aload_n dX12_isBarge_15 rfl ?_
      refine am_bipush 64 (v := 64) dX12_isBarge_16 (by decide) ?_
      refine am_iald dX12_isBarge_18 (am_ia.one (sh_73 g)) (am_lit rfl) ?_
      refine am_iconst (-1) (v := (-1)) dX12_isBarge_19 (by decide) ?_
      refine am_icmp_eq (7) 27 dX12_isBarge_20 rfl ?_ ?_
      · intro hc3
        have hc3 : (M 73 0 64) = (-1 : Int32) := hc3
        replace hyp := it_pos hc3 hyp
        refine am_iconst 0 (v := 0) dX12_isBarge_27 (by decide) ?_
        cases hyp
        exact am_zret dX12_isBarge_28 rfl rfl
      · intro hc3n
        have hc3n : ¬ ((M 73 0 64) = (-1 : Int32)) := hc3n
        replace hyp := it_neg hc3n hyp
        refine am_iconst 1 (v := 1) dX12_isBarge_23 (by decide) ?_
        refine am_goto (4) 28 dX12_isBarge_24 rfl ?_
        cases hyp
        exact am_zret dX12_isBarge_28 rfl rfl
theorem eL_X12_goesOn_47_72 {d : Nat} {h : am_H} (g : lay h) {x2 : Int32} {r : am_R} (n : Nat) : ∀ (s : Int32 × Mem) (e : Mem), wh (L_X12_goesOn_47 72 x2) n s = some e → ((fun (M : Mem) => am_At am_X0 (d + 1) mX12_goesOn 134 [some (.inr (54, 0)), some (.inr (72, 0)), some (am_I (x2)), none, none] [] (am_hM h M) r) e) → (match s with | (x3, M) => am_At am_X0 (d + 1) mX12_goesOn 47 [some (.inr (54, 0)), some (.inr (72, 0)), some (am_I (x2)), some (am_I (x3)), none] [] (am_hM h M) r) := by
  refine am_wh (At := fun (s : Int32 × Mem) => match s with | (x3, M) => am_At am_X0 (d + 1) mX12_goesOn 47 [some (.inr (54, 0)), some (.inr (72, 0)), some (am_I (x2)), some (am_I (x3)), none] [] (am_hM h M) r) (Ex := fun (e : Mem) => (fun (M : Mem) => am_At am_X0 (d + 1) mX12_goesOn 134 [some (.inr (54, 0)), some (.inr (72, 0)), some (am_I (x2)), none, none] [] (am_hM h M) r) e) ?_ n
  rintro ⟨x3, M⟩ y hyp hx
  unfold L_X12_goesOn_47 at hyp
  try dsimp only at hyp
  change am_At _ _ _ 47 [_, _, _, _, _] [] _ _
  refine am_iload_n dX12_goesOn_47 rfl ?_
  refine am_if_le (86) 134 dX12_goesOn_48 rfl ?_ ?_
  · intro hc4
    have hc4 : x3 ≤ 0 := hc4
    replace hyp := it_pos hc4 hyp
    cases hyp
    refine am_At.drop 3 ?_
    exact hx
  · intro hc4n
    have hc4n : ¬ (x3 ≤ 0) := hc4n
    replace hyp := it_neg hc4n hyp
    refine am_aload_n dX12_goesOn_51 rfl ?_
    refine am_bipush 48 (v := 48) dX12_goesOn_52 (by decide) ?_
    refine am_iload_n dX12_goesOn_54 rfl ?_
    refine am_iadd dX12_goesOn_55 ?_
    obtain ⟨hg5, hyp⟩ := gd_some hyp
    refine am_iald dX12_goesOn_56 (am_ia.one (sh_72 g)) (am_lit hg5) ?_
    refine am_aload_n dX12_goesOn_57 rfl ?_
    refine am_getR 12 12 58 dX12_goesOn_58 fg_X12_23 (sh_54 g) (by decide) rfl (rf_54_12 g) ?_
    refine am_iconst 0 (v := 0) dX12_goesOn_61 (by decide) ?_
    refine am_iald dX12_goesOn_62 (am_ia.one (sh_58 g)) (am_lit rfl) ?_
    refine am_icmp_ge (71) 134 dX12_goesOn_63 rfl ?_ ?_
    · intro hc6
      have hc6 : (M 58 0 0) ≤ (M 72 0 (((48 : Int32) + x2).toNatClampNeg)) := hc6
      replace hyp := it_pos hc6 hyp
      cases hyp
      refine am_At.drop 3 ?_
      exact hx
    · intro hc6n
      have hc6n : ¬ ((M 58 0 0) ≤ (M 72 0 (((48 : Int32) + x2).toNatClampNeg))) := hc6n
      replace hyp := it_neg hc6n hyp
      refine am_aload_n dX12_goesOn_66 rfl ?_
      refine am_bipush 48 (v := 48) dX12_goesOn_67 (by decide) ?_
      refine am_iload_n dX12_goesOn_69 rfl ?_
      refine am_iadd dX12_goesOn_70 ?_
      refine am_iald dX12_goesOn_71 (am_ia.one (sh_72 g)) (am_lit hg5) ?_
      refine am_istore dX12_goesOn_72 (am_lb rfl) ?_
      change am_At _ _ _ 74 [_, _, _, _, _] [] _ _
      refine am_aload_n dX12_goesOn_74 rfl ?_
      refine am_getR 12 31 74 dX12_goesOn_75 fg_X12_73 (sh_54 g) (by decide) rfl (rf_54_31 g) ?_
      refine am_iload dX12_goesOn_78 rfl ?_
      obtain ⟨hg7, hyp⟩ := gd_some hyp
      refine am_iald dX12_goesOn_80 (am_ia.one (sh_74 g)) (am_lit hg7) ?_
      refine am_if_ne (37) 118 dX12_goesOn_81 rfl ?_ ?_
      · intro hc8n
        have hc8n : ¬ ((M 74 0 ((M 72 0 (((48 : Int32) + x2).toNatClampNeg)).toNatClampNeg)) = 0) := hc8n
        replace hyp := it_neg hc8n hyp
        refine am_aload_n dX12_goesOn_118 rfl ?_
        refine am_bipush 48 (v := 48) dX12_goesOn_119 (by decide) ?_
        refine am_iload_n dX12_goesOn_121 rfl ?_
        refine am_iadd dX12_goesOn_122 ?_
        refine am_dup2 dX12_goesOn_123 (fun _ => rfl) (fun _ => rfl) ?_
        refine am_iald dX12_goesOn_124 (am_ia.one (sh_72 g)) (am_lit hg5) ?_
        refine am_iconst 1 (v := 1) dX12_goesOn_125 (by decide) ?_
        refine am_iadd dX12_goesOn_126 ?_
        refine am_iast dX12_goesOn_127 (am_ia.one (sh_72 g)) (am_lit hg5) ?_
        refine am_iinc dX12_goesOn_128 rfl (am_dx _) ?_
        change am_At _ _ _ 131 [_, _, _, _, _] [] _ _
        refine am_goto (-84) 47 dX12_goesOn_131 rfl ?_
        cases hyp
        refine am_At.drop 4 ?_
        exact hx
      · intro hc8
        have hc8 : (M 74 0 ((M 72 0 (((48 : Int32) + x2).toNatClampNeg)).toNatClampNeg)) = 0 := hc8
        replace hyp := it_pos hc8 hyp
        refine am_aload_n dX12_goesOn_84 rfl ?_
        refine am_aload_n dX12_goesOn_85 rfl ?_
        refine am_iload_n dX12_goesOn_86 rfl ?_
        obtain ⟨v9, hk9, hyp⟩ := bd_some hyp
        try dsimp only at hyp
        refine am_callV [_, _] dX12_goesOn_87 ml_X12_294 vm_X12_mastOf (sh_54 g) rfl (fun _ => Nat.le_of_ble_eq_true rfl) (by omega) rfl (ef_X12_mastOf_72 (d := d + 0) (h := h) g hk9) rfl ?_
        change am_At _ _ _ 90 [_, _, _, _, _] [_] _ _
        refine am_aload_n dX12_goesOn_90 rfl ?_
        refine am_getR 12 14 60 dX12_goesOn_91 fg_X12_31 (sh_54 g) (by decide) rfl (rf_54_14 g) ?_
        refine am_iload dX12_goesOn_94 rfl ?_
        refine am_aald dX12_goesOn_96 (sh_60 g) (am_lit hg7) ?_
        refine am_iconst 0 (v := 0) dX12_goesOn_97 (by decide) ?_
        refine am_iald dX12_goesOn_98 (am_ia.row (sh_60 g) (by omega) (am_vlt (am_lit hg7))) (am_lit rfl) ?_
        refine am_icmp_le (19) 118 dX12_goesOn_99 rfl ?_ ?_
        · intro hc10
          have hc10 : v9 ≤ (M 60 ((M 72 0 (((48 : Int32) + x2).toNatClampNeg)).toNatClampNeg + 1) 0) := hc10
          replace hyp := it_pos hc10 hyp
          refine am_aload_n dX12_goesOn_118 rfl ?_
          refine am_bipush 48 (v := 48) dX12_goesOn_119 (by decide) ?_
          refine am_iload_n dX12_goesOn_121 rfl ?_
          refine am_iadd dX12_goesOn_122 ?_
          refine am_dup2 dX12_goesOn_123 (fun _ => rfl) (fun _ => rfl) ?_
          refine am_iald dX12_goesOn_124 (am_ia.one (sh_72 g)) (am_lit hg5) ?_
          refine am_iconst 1 (v := 1) dX12_goesOn_125 (by decide) ?_
          refine am_iadd dX12_goesOn_126 ?_
          refine am_iast dX12_goesOn_127 (am_ia.one (sh_72 g)) (am_lit hg5) ?_
          refine am_iinc dX12_goesOn_128 rfl (am_dx _) ?_
          change am_At _ _ _ 131 [_, _, _, _, _] [] _ _
          refine am_goto (-84) 47 dX12_goesOn_131 rfl ?_
          cases hyp
          refine am_At.drop 4 ?_
          exact hx
        · intro hc10n
          have hc10n : ¬ (v9 ≤ (M 60 ((M 72 0 (((48 : Int32) + x2).toNatClampNeg)).toNatClampNeg + 1) 0)) := hc10n
          replace hyp := it_neg hc10n hyp
          refine am_aload_n dX12_goesOn_102 rfl ?_
          refine am_bipush 32 (v := 32) dX12_goesOn_103 (by decide) ?_
          refine am_iload dX12_goesOn_105 rfl ?_
          refine am_iadd dX12_goesOn_107 ?_
          refine am_dup2 dX12_goesOn_108 (fun _ => rfl) (fun _ => rfl) ?_
          obtain ⟨hg11, hyp⟩ := gd_some hyp
          refine am_iald dX12_goesOn_109 (am_ia.one (sh_72 g)) (am_lit hg11) ?_
          refine am_iconst 1 (v := 1) dX12_goesOn_110 (by decide) ?_
          refine am_iadd dX12_goesOn_111 ?_
          refine am_iast dX12_goesOn_112 (am_ia.one (sh_72 g)) (am_lit hg11) ?_
          refine am_iconst 0 (v := 0) dX12_goesOn_113 (by decide) ?_
          refine am_istore_n dX12_goesOn_114 (am_lb rfl) ?_
          change am_At _ _ _ 115 [_, _, _, _, _] [] _ _
          refine am_goto (16) 131 dX12_goesOn_115 rfl ?_
          refine am_goto (-84) 47 dX12_goesOn_131 rfl ?_
          cases hyp
          refine am_At.drop 4 ?_
          exact hx
theorem ef_X12_goesOn_72 {d : Nat} {h : am_H} (g : lay h) {x2 : Int32} {M : Mem} {M' : Mem} (hyp : f_X12_goesOn 72 x2 M = some M') : am_Ev (d + 1) mX12_goesOn [.inr (54, 0), .inr (72, 0), am_I x2] (am_hM h M) (.inl (none, am_hM h M')) := by
  unfold f_X12_goesOn at hyp
  refine am_Ev.mk (by decide +kernel) rfl rfl (Nat.le_refl _) (Nat.le_refl _) ?_
  change am_At _ _ _ 0 [_, _, _, _, _] [] _ _
  refine am_aload_n dX12_goesOn_0 rfl ?_
  refine am_bipush 53 (v := 53) dX12_goesOn_1 (by decide) ?_
  refine am_iload_n dX12_goesOn_3 rfl ?_
  refine am_iadd dX12_goesOn_4 ?_
  obtain ⟨hg1, hyp⟩ := gd_some hyp
  refine am_iald dX12_goesOn_5 (am_ia.one (sh_72 g)) (am_lit hg1) ?_
  refine am_if_ne (23) 29 dX12_goesOn_6 rfl ?_ ?_
  · intro hc2n
    have hc2n : ¬ ((M 72 0 (((53 : Int32) + x2).toNatClampNeg)) = 0) := hc2n
    replace hyp := it_neg hc2n hyp
    refine am_aload_n dX12_goesOn_29 rfl ?_
    refine am_bipush 53 (v := 53) dX12_goesOn_30 (by decide) ?_
    refine am_iload_n dX12_goesOn_32 rfl ?_
    refine am_iadd dX12_goesOn_33 ?_
    refine am_iald dX12_goesOn_34 (am_ia.one (sh_72 g)) (am_lit hg1) ?_
    refine am_iconst 1 (v := 1) dX12_goesOn_35 (by decide) ?_
    refine am_icmp_eq (4) 40 dX12_goesOn_36 rfl ?_ ?_
    · intro hc3
      have hc3 : (M 72 0 (((53 : Int32) + x2).toNatClampNeg)) = (1 : Int32) := hc3
      replace hyp := it_pos hc3 hyp
      refine am_aload_n dX12_goesOn_40 rfl ?_
      refine am_getR 12 12 58 dX12_goesOn_41 fg_X12_23 (sh_54 g) (by decide) rfl (rf_54_12 g) ?_
      refine am_iconst 3 (v := 3) dX12_goesOn_44 (by decide) ?_
      refine am_iald dX12_goesOn_45 (am_ia.one (sh_58 g)) (am_lit rfl) ?_
      refine am_istore_n dX12_goesOn_46 (am_lb rfl) ?_
      change am_At _ _ _ 47 [_, _, _, _, _] [] _ _
      obtain ⟨M12, hw12, hyp⟩ := bd_some hyp
      try dsimp only at hyp
      refine eL_X12_goesOn_47_72 (d := d) (h := h) g  FU (M 58 0 3, M) M12 hw12 ?_
      change am_At _ _ _ 134 [_, _, _, _, _] [] _ _
      refine am_aload_n dX12_goesOn_134 rfl ?_
      refine am_bipush 48 (v := 48) dX12_goesOn_135 (by decide) ?_
      refine am_iload_n dX12_goesOn_137 rfl ?_
      refine am_iadd dX12_goesOn_138 ?_
      obtain ⟨hg13, hyp⟩ := gd_some hyp
      refine am_iald dX12_goesOn_139 (am_ia.one (sh_72 g)) (am_lit hg13) ?_
      refine am_aload_n dX12_goesOn_140 rfl ?_
      refine am_getR 12 12 58 dX12_goesOn_141 fg_X12_23 (sh_54 g) (by decide) rfl (rf_54_12 g) ?_
      refine am_iconst 0 (v := 0) dX12_goesOn_144 (by decide) ?_
      refine am_iald dX12_goesOn_145 (am_ia.one (sh_58 g)) (am_lit rfl) ?_
      refine am_icmp_ge (4) 150 dX12_goesOn_146 rfl ?_ ?_
      · intro hc14
        have hc14 : (M12 58 0 0) ≤ (M12 72 0 (((48 : Int32) + x2).toNatClampNeg)) := hc14
        replace hyp := it_pos hc14 hyp
        refine am_aload_n dX12_goesOn_150 rfl ?_
        refine am_bipush 53 (v := 53) dX12_goesOn_151 (by decide) ?_
        refine am_iload_n dX12_goesOn_153 rfl ?_
        refine am_iadd dX12_goesOn_154 ?_
        refine am_iconst 2 (v := 2) dX12_goesOn_155 (by decide) ?_
        refine am_iast dX12_goesOn_156 (am_ia.one (sh_72 g)) (am_lit hg1) ?_
        refine am_aload_n dX12_goesOn_157 rfl ?_
        refine am_bipush 58 (v := 58) dX12_goesOn_158 (by decide) ?_
        refine am_iload_n dX12_goesOn_160 rfl ?_
        refine am_iadd dX12_goesOn_161 ?_
        refine am_aload_n dX12_goesOn_162 rfl ?_
        refine am_bipush 63 (v := 63) dX12_goesOn_163 (by decide) ?_
        refine am_iald dX12_goesOn_165 (am_ia.one (sh_72 g)) (am_lit rfl) ?_
        obtain ⟨hg15, hyp⟩ := gd_some hyp
        refine am_iast dX12_goesOn_166 (am_ia.one (sh_72 g)) (am_lit hg15) ?_
        cases hyp
        exact am_vret dX12_goesOn_167 rfl
      · intro hc14n
        have hc14n : ¬ ((M12 58 0 0) ≤ (M12 72 0 (((48 : Int32) + x2).toNatClampNeg))) := hc14n
        replace hyp := it_neg hc14n hyp
        cases hyp
        exact am_vret dX12_goesOn_149 rfl
    · intro hc3n
      have hc3n : ¬ ((M 72 0 (((53 : Int32) + x2).toNatClampNeg)) = (1 : Int32)) := hc3n
      replace hyp := it_neg hc3n hyp
      cases hyp
      exact am_vret dX12_goesOn_39 rfl
  · intro hc2
    have hc2 : (M 72 0 (((53 : Int32) + x2).toNatClampNeg)) = 0 := hc2
    replace hyp := it_pos hc2 hyp
    refine am_aload_n dX12_goesOn_9 rfl ?_
    refine am_aload_n dX12_goesOn_10 rfl ?_
    refine am_iload_n dX12_goesOn_11 rfl ?_
    obtain ⟨v16, hk16, hyp⟩ := bd_some hyp
    try dsimp only at hyp
    refine am_callV [_, _] dX12_goesOn_12 ml_X12_290 vm_X12_comesIn (sh_54 g) rfl (fun _ => Nat.le_of_ble_eq_true rfl) (by omega) rfl (ef_X12_comesIn_72 (d := d + 0) (h := h) g hk16) rfl ?_
    change am_At _ _ _ 15 [_, _, _, _, _] [_] _ _
    refine am_aload_n dX12_goesOn_15 rfl ?_
    refine am_bipush 63 (v := 63) dX12_goesOn_16 (by decide) ?_
    refine am_iald dX12_goesOn_18 (am_ia.one (sh_72 g)) (am_lit rfl) ?_
    refine am_icmp_ne (10) 29 dX12_goesOn_19 rfl ?_ ?_
    · intro hc17n
      have hc17n : ¬ (v16 = (M 72 0 63)) := hc17n
      replace hyp := it_neg hc17n hyp
      refine am_aload_n dX12_goesOn_29 rfl ?_
      refine am_bipush 53 (v := 53) dX12_goesOn_30 (by decide) ?_
      refine am_iload_n dX12_goesOn_32 rfl ?_
      refine am_iadd dX12_goesOn_33 ?_
      refine am_iald dX12_goesOn_34 (am_ia.one (sh_72 g)) (am_lit hg1) ?_
      refine am_iconst 1 (v := 1) dX12_goesOn_35 (by decide) ?_
      refine am_icmp_eq (4) 40 dX12_goesOn_36 rfl ?_ ?_
      · intro hc18
        have hc18 : (M 72 0 (((53 : Int32) + x2).toNatClampNeg)) = (1 : Int32) := hc18
        replace hyp := it_pos hc18 hyp
        refine am_aload_n dX12_goesOn_40 rfl ?_
        refine am_getR 12 12 58 dX12_goesOn_41 fg_X12_23 (sh_54 g) (by decide) rfl (rf_54_12 g) ?_
        refine am_iconst 3 (v := 3) dX12_goesOn_44 (by decide) ?_
        refine am_iald dX12_goesOn_45 (am_ia.one (sh_58 g)) (am_lit rfl) ?_
        refine am_istore_n dX12_goesOn_46 (am_lb rfl) ?_
        change am_At _ _ _ 47 [_, _, _, _, _] [] _ _
        obtain ⟨M19, hw19, hyp⟩ := bd_some hyp
        try dsimp only at hyp
        refine eL_X12_goesOn_47_72 (d := d) (h := h) g  FU (M 58 0 3, M) M19 hw19 ?_
        change am_At _ _ _ 134 [_, _, _, _, _] [] _ _
        refine am_aload_n dX12_goesOn_134 rfl ?_
        refine am_bipush 48 (v := 48) dX12_goesOn_135 (by decide) ?_
        refine am_iload_n dX12_goesOn_137 rfl ?_
        refine am_iadd dX12_goesOn_138 ?_
        obtain ⟨hg20, hyp⟩ := gd_some hyp
        refine am_iald dX12_goesOn_139 (am_ia.one (sh_72 g)) (am_lit hg20) ?_
        refine am_aload_n dX12_goesOn_140 rfl ?_
        refine am_getR 12 12 58 dX12_goesOn_141 fg_X12_23 (sh_54 g) (by decide) rfl (rf_54_12 g) ?_
        refine am_iconst 0 (v := 0) dX12_goesOn_144 (by decide) ?_
        refine am_iald dX12_goesOn_145 (am_ia.one (sh_58 g)) (am_lit rfl) ?_
        refine am_icmp_ge (4) 150 dX12_goesOn_146 rfl ?_ ?_
        · intro hc21
          have hc21 : (M19 58 0 0) ≤ (M19 72 0 (((48 : Int32) + x2).toNatClampNeg)) := hc21
          replace hyp := it_pos hc21 hyp
          refine am_aload_n dX12_goesOn_150 rfl ?_
          refine am_bipush 53 (v := 53) dX12_goesOn_151 (by decide) ?_
          refine am_iload_n dX12_goesOn_153 rfl ?_
          refine am_iadd dX12_goesOn_154 ?_
          refine am_iconst 2 (v := 2) dX12_goesOn_155 (by decide) ?_
          refine am_iast dX12_goesOn_156 (am_ia.one (sh_72 g)) (am_lit hg1) ?_
          refine am_aload_n dX12_goesOn_157 rfl ?_
          refine am_bipush 58 (v := 58) dX12_goesOn_158 (by decide) ?_
          refine am_iload_n dX12_goesOn_160 rfl ?_
          refine am_iadd dX12_goesOn_161 ?_
          refine am_aload_n dX12_goesOn_162 rfl ?_
          refine am_bipush 63 (v := 63) dX12_goesOn_163 (by decide) ?_
          refine am_iald dX12_goesOn_165 (am_ia.one (sh_72 g)) (am_lit rfl) ?_
          obtain ⟨hg22, hyp⟩ := gd_some hyp
          refine am_iast dX12_goesOn_166 (am_ia.one (sh_72 g)) (am_lit hg22) ?_
          cases hyp
          exact am_vret dX12_goesOn_167 rfl
        · intro hc21n
          have hc21n : ¬ ((M19 58 0 0) ≤ (M19 72 0 (((48 : Int32) + x2).toNatClampNeg))) := hc21n
          replace hyp := it_neg hc21n hyp
          cases hyp
          exact am_vret dX12_goesOn_149 rfl
      · intro hc18n
        have hc18n : ¬ ((M 72 0 (((53 : Int32) + x2).toNatClampNeg)) = (1 : Int32)) := hc18n
        replace hyp := it_neg hc18n hyp
        cases hyp
        exact am_vret dX12_goesOn_39 rfl
    · intro hc17
      have hc17 : v16 = (M 72 0 63) := hc17
      replace hyp := it_pos hc17 hyp
      refine am_aload_n dX12_goesOn_22 rfl ?_
      refine am_bipush 53 (v := 53) dX12_goesOn_23 (by decide) ?_
      refine am_iload_n dX12_goesOn_25 rfl ?_
      refine am_iadd dX12_goesOn_26 ?_
      refine am_iconst 1 (v := 1) dX12_goesOn_27 (by decide) ?_
      refine am_iast dX12_goesOn_28 (am_ia.one (sh_72 g)) (am_lit hg1) ?_
      refine am_aload_n dX12_goesOn_29 rfl ?_
      refine am_bipush 53 (v := 53) dX12_goesOn_30 (by decide) ?_
      refine am_iload_n dX12_goesOn_32 rfl ?_
      refine am_iadd dX12_goesOn_33 ?_
      refine am_iald dX12_goesOn_34 (am_ia.one (sh_72 g)) (am_lit hg1) ?_
      refine am_iconst 1 (v := 1) dX12_goesOn_35 (by decide) ?_
      refine am_icmp_eq (4) 40 dX12_goesOn_36 rfl ?_ ?_
      · intro hc23
        have hc23 : ((am_u3 M 72 0 (((53 : Int32) + x2).toNatClampNeg) (1 : Int32)) 72 0 (((53 : Int32) + x2).toNatClampNeg)) = (1 : Int32) := hc23
        replace hyp := it_pos hc23 hyp
        refine am_aload_n dX12_goesOn_40 rfl ?_
        refine am_getR 12 12 58 dX12_goesOn_41 fg_X12_23 (sh_54 g) (by decide) rfl (rf_54_12 g) ?_
        refine am_iconst 3 (v := 3) dX12_goesOn_44 (by decide) ?_
        refine am_iald dX12_goesOn_45 (am_ia.one (sh_58 g)) (am_lit rfl) ?_
        refine am_istore_n dX12_goesOn_46 (am_lb rfl) ?_
        change am_At _ _ _ 47 [_, _, _, _, _] [] _ _
        obtain ⟨M24, hw24, hyp⟩ := bd_some hyp
        try dsimp only at hyp
        refine eL_X12_goesOn_47_72 (d := d) (h := h) g  FU (M 58 0 3, (am_u3 M 72 0 (((53 : Int32) + x2).toNatClampNeg) (1 : Int32))) M24 hw24 ?_
        change am_At _ _ _ 134 [_, _, _, _, _] [] _ _
        refine am_aload_n dX12_goesOn_134 rfl ?_
        refine am_bipush 48 (v := 48) dX12_goesOn_135 (by decide) ?_
        refine am_iload_n dX12_goesOn_137 rfl ?_
        refine am_iadd dX12_goesOn_138 ?_
        obtain ⟨hg25, hyp⟩ := gd_some hyp
        refine am_iald dX12_goesOn_139 (am_ia.one (sh_72 g)) (am_lit hg25) ?_
        refine am_aload_n dX12_goesOn_140 rfl ?_
        refine am_getR 12 12 58 dX12_goesOn_141 fg_X12_23 (sh_54 g) (by decide) rfl (rf_54_12 g) ?_
        refine am_iconst 0 (v := 0) dX12_goesOn_144 (by decide) ?_
        refine am_iald dX12_goesOn_145 (am_ia.one (sh_58 g)) (am_lit rfl) ?_
        refine am_icmp_ge (4) 150 dX12_goesOn_146 rfl ?_ ?_
        · intro hc26
          have hc26 : (M24 58 0 0) ≤ (M24 72 0 (((48 : Int32) + x2).toNatClampNeg)) := hc26
          replace hyp := it_pos hc26 hyp
          refine am_aload_n dX12_goesOn_150 rfl ?_
          refine am_bipush 53 (v := 53) dX12_goesOn_151 (by decide) ?_
          refine am_iload_n dX12_goesOn_153 rfl ?_
          refine am_iadd dX12_goesOn_154 ?_
          refine am_iconst 2 (v := 2) dX12_goesOn_155 (by decide) ?_
          refine am_iast dX12_goesOn_156 (am_ia.one (sh_72 g)) (am_lit hg1) ?_
          refine am_aload_n dX12_goesOn_157 rfl ?_
          refine am_bipush 58 (v := 58) dX12_goesOn_158 (by decide) ?_
          refine am_iload_n dX12_goesOn_160 rfl ?_
          refine am_iadd dX12_goesOn_161 ?_
          refine am_aload_n dX12_goesOn_162 rfl ?_
          refine am_bipush 63 (v := 63) dX12_goesOn_163 (by decide) ?_
          refine am_iald dX12_goesOn_165 (am_ia.one (sh_72 g)) (am_lit rfl) ?_
          obtain ⟨hg27, hyp⟩ := gd_some hyp
          refine am_iast dX12_goesOn_166 (am_ia.one (sh_72 g)) (am_lit hg27) ?_
          cases hyp
          exact am_vret dX12_goesOn_167 rfl
        · intro hc26n
          have hc26n : ¬ ((M24 58 0 0) ≤ (M24 72 0 (((48 : Int32) + x2).toNatClampNeg))) := hc26n
          replace hyp := it_neg hc26n hyp
          cases hyp
          exact am_vret dX12_goesOn_149 rfl
      · intro hc23n
        have hc23n : ¬ (((am_u3 M 72 0 (((53 : Int32) + x2).toNatClampNeg) (1 : Int32)) 72 0 (((53 : Int32) + x2).toNatClampNeg)) = (1 : Int32)) := hc23n
        replace hyp := it_neg hc23n hyp
        cases hyp
        exact am_vret dX12_goesOn_39 rfl
theorem eL_X12_goesOn_47_73 {d : Nat} {h : am_H} (g : lay h) {x2 : Int32} {r : am_R} (n : Nat) : ∀ (s : Int32 × Mem) (e : Mem), wh (L_X12_goesOn_47 73 x2) n s = some e → ((fun (M : Mem) => am_At am_X0 (d + 1) mX12_goesOn 134 [some (.inr (54, 0)), some (.inr (73, 0)), some (am_I (x2)), none, none] [] (am_hM h M) r) e) → (match s with | (x3, M) => am_At am_X0 (d + 1) mX12_goesOn 47 [some (.inr (54, 0)), some (.inr (73, 0)), some (am_I (x2)), some (am_I (x3)), none] [] (am_hM h M) r) := by
  refine am_wh (At := fun (s : Int32 × Mem) => match s with | (x3, M) => am_At am_X0 (d + 1) mX12_goesOn 47 [some (.inr (54, 0)), some (.inr (73, 0)), some (am_I (x2)), some (am_I (x3)), none] [] (am_hM h M) r) (Ex := fun (e : Mem) => (fun (M : Mem) => am_At am_X0 (d + 1) mX12_goesOn 134 [some (.inr (54, 0)), some (.inr (73, 0)), some (am_I (x2)), none, none] [] (am_hM h M) r) e) ?_ n
  rintro ⟨x3, M⟩ y hyp hx
  unfold L_X12_goesOn_47 at hyp
  try dsimp only at hyp
  change am_At _ _ _ 47 [_, _, _, _, _] [] _ _
  refine am_iload_n dX12_goesOn_47 rfl ?_
  refine am_if_le (86) 134 dX12_goesOn_48 rfl ?_ ?_
  · intro hc4
    have hc4 : x3 ≤ 0 := hc4
    replace hyp := it_pos hc4 hyp
    cases hyp
    refine am_At.drop 3 ?_
    exact hx
  · intro hc4n
    have hc4n : ¬ (x3 ≤ 0) := hc4n
    replace hyp := it_neg hc4n hyp
    refine am_aload_n dX12_goesOn_51 rfl ?_
    refine am_bipush 48 (v := 48) dX12_goesOn_52 (by decide) ?_
    refine am_iload_n dX12_goesOn_54 rfl ?_
    refine am_iadd dX12_goesOn_55 ?_
    obtain ⟨hg5, hyp⟩ := gd_some hyp
    refine am_iald dX12_goesOn_56 (am_ia.one (sh_73 g)) (am_lit hg5) ?_
    refine am_aload_n dX12_goesOn_57 rfl ?_
    refine am_getR 12 12 58 dX12_goesOn_58 fg_X12_23 (sh_54 g) (by decide) rfl (rf_54_12 g) ?_
    refine am_iconst 0 (v := 0) dX12_goesOn_61 (by decide) ?_
    refine am_iald dX12_goesOn_62 (am_ia.one (sh_58 g)) (am_lit rfl) ?_
    refine am_icmp_ge (71) 134 dX12_goesOn_63 rfl ?_ ?_
    · intro hc6
      have hc6 : (M 58 0 0) ≤ (M 73 0 (((48 : Int32) + x2).toNatClampNeg)) := hc6
      replace hyp := it_pos hc6 hyp
      cases hyp
      refine am_At.drop 3 ?_
      exact hx
    · intro hc6n
      have hc6n : ¬ ((M 58 0 0) ≤ (M 73 0 (((48 : Int32) + x2).toNatClampNeg))) := hc6n
      replace hyp := it_neg hc6n hyp
      refine am_aload_n dX12_goesOn_66 rfl ?_
      refine am_bipush 48 (v := 48) dX12_goesOn_67 (by decide) ?_
      refine am_iload_n dX12_goesOn_69 rfl ?_
      refine am_iadd dX12_goesOn_70 ?_
      refine am_iald dX12_goesOn_71 (am_ia.one (sh_73 g)) (am_lit hg5) ?_
      refine am_istore dX12_goesOn_72 (am_lb rfl) ?_
      change am_At _ _ _ 74 [_, _, _, _, _] [] _ _
      refine am_aload_n dX12_goesOn_74 rfl ?_
      refine am_getR 12 31 74 dX12_goesOn_75 fg_X12_73 (sh_54 g) (by decide) rfl (rf_54_31 g) ?_
      refine am_iload dX12_goesOn_78 rfl ?_
      obtain ⟨hg7, hyp⟩ := gd_some hyp
      refine am_iald dX12_goesOn_80 (am_ia.one (sh_74 g)) (am_lit hg7) ?_
      refine am_if_ne (37) 118 dX12_goesOn_81 rfl ?_ ?_
      · intro hc8n
        have hc8n : ¬ ((M 74 0 ((M 73 0 (((48 : Int32) + x2).toNatClampNeg)).toNatClampNeg)) = 0) := hc8n
        replace hyp := it_neg hc8n hyp
        refine am_aload_n dX12_goesOn_118 rfl ?_
        refine am_bipush 48 (v := 48) dX12_goesOn_119 (by decide) ?_
        refine am_iload_n dX12_goesOn_121 rfl ?_
        refine am_iadd dX12_goesOn_122 ?_
        refine am_dup2 dX12_goesOn_123 (fun _ => rfl) (fun _ => rfl) ?_
        refine am_iald dX12_goesOn_124 (am_ia.one (sh_73 g)) (am_lit hg5) ?_
        refine am_iconst 1 (v := 1) dX12_goesOn_125 (by decide) ?_
        refine am_iadd dX12_goesOn_126 ?_
        refine am_iast dX12_goesOn_127 (am_ia.one (sh_73 g)) (am_lit hg5) ?_
        refine am_iinc dX12_goesOn_128 rfl (am_dx _) ?_
        change am_At _ _ _ 131 [_, _, _, _, _] [] _ _
        refine am_goto (-84) 47 dX12_goesOn_131 rfl ?_
        cases hyp
        refine am_At.drop 4 ?_
        exact hx
      · intro hc8
        have hc8 : (M 74 0 ((M 73 0 (((48 : Int32) + x2).toNatClampNeg)).toNatClampNeg)) = 0 := hc8
        replace hyp := it_pos hc8 hyp
        refine am_aload_n dX12_goesOn_84 rfl ?_
        refine am_aload_n dX12_goesOn_85 rfl ?_
        refine am_iload_n dX12_goesOn_86 rfl ?_
        obtain ⟨v9, hk9, hyp⟩ := bd_some hyp
        try dsimp only at hyp
        refine am_callV [_, _] dX12_goesOn_87 ml_X12_294 vm_X12_mastOf (sh_54 g) rfl (fun _ => Nat.le_of_ble_eq_true rfl) (by omega) rfl (ef_X12_mastOf_73 (d := d + 0) (h := h) g hk9) rfl ?_
        change am_At _ _ _ 90 [_, _, _, _, _] [_] _ _
        refine am_aload_n dX12_goesOn_90 rfl ?_
        refine am_getR 12 14 60 dX12_goesOn_91 fg_X12_31 (sh_54 g) (by decide) rfl (rf_54_14 g) ?_
        refine am_iload dX12_goesOn_94 rfl ?_
        refine am_aald dX12_goesOn_96 (sh_60 g) (am_lit hg7) ?_
        refine am_iconst 0 (v := 0) dX12_goesOn_97 (by decide) ?_
        refine am_iald dX12_goesOn_98 (am_ia.row (sh_60 g) (by omega) (am_vlt (am_lit hg7))) (am_lit rfl) ?_
        refine am_icmp_le (19) 118 dX12_goesOn_99 rfl ?_ ?_
        · intro hc10
          have hc10 : v9 ≤ (M 60 ((M 73 0 (((48 : Int32) + x2).toNatClampNeg)).toNatClampNeg + 1) 0) := hc10
          replace hyp := it_pos hc10 hyp
          refine am_aload_n dX12_goesOn_118 rfl ?_
          refine am_bipush 48 (v := 48) dX12_goesOn_119 (by decide) ?_
          refine am_iload_n dX12_goesOn_121 rfl ?_
          refine am_iadd dX12_goesOn_122 ?_
          refine am_dup2 dX12_goesOn_123 (fun _ => rfl) (fun _ => rfl) ?_
          refine am_iald dX12_goesOn_124 (am_ia.one (sh_73 g)) (am_lit hg5) ?_
          refine am_iconst 1 (v := 1) dX12_goesOn_125 (by decide) ?_
          refine am_iadd dX12_goesOn_126 ?_
          refine am_iast dX12_goesOn_127 (am_ia.one (sh_73 g)) (am_lit hg5) ?_
          refine am_iinc dX12_goesOn_128 rfl (am_dx _) ?_
          change am_At _ _ _ 131 [_, _, _, _, _] [] _ _
          refine am_goto (-84) 47 dX12_goesOn_131 rfl ?_
          cases hyp
          refine am_At.drop 4 ?_
          exact hx
        · intro hc10n
          have hc10n : ¬ (v9 ≤ (M 60 ((M 73 0 (((48 : Int32) + x2).toNatClampNeg)).toNatClampNeg + 1) 0)) := hc10n
          replace hyp := it_neg hc10n hyp
          refine am_aload_n dX12_goesOn_102 rfl ?_
          refine am_bipush 32 (v := 32) dX12_goesOn_103 (by decide) ?_
          refine am_iload dX12_goesOn_105 rfl ?_
          refine am_iadd dX12_goesOn_107 ?_
          refine am_dup2 dX12_goesOn_108 (fun _ => rfl) (fun _ => rfl) ?_
          obtain ⟨hg11, hyp⟩ := gd_some hyp
          refine am_iald dX12_goesOn_109 (am_ia.one (sh_73 g)) (am_lit hg11) ?_
          refine am_iconst 1 (v := 1) dX12_goesOn_110 (by decide) ?_
          refine am_iadd dX12_goesOn_111 ?_
          refine am_iast dX12_goesOn_112 (am_ia.one (sh_73 g)) (am_lit hg11) ?_
          refine am_iconst 0 (v := 0) dX12_goesOn_113 (by decide) ?_
          refine am_istore_n dX12_goesOn_114 (am_lb rfl) ?_
          change am_At _ _ _ 115 [_, _, _, _, _] [] _ _
          refine am_goto (16) 131 dX12_goesOn_115 rfl ?_
          refine am_goto (-84) 47 dX12_goesOn_131 rfl ?_
          cases hyp
          refine am_At.drop 4 ?_
          exact hx
theorem ef_X12_goesOn_73 {d : Nat} {h : am_H} (g : lay h) {x2 : Int32} {M : Mem} {M' : Mem} (hyp : f_X12_goesOn 73 x2 M = some M') : am_Ev (d + 1) mX12_goesOn [.inr (54, 0), .inr (73, 0), am_I x2] (am_hM h M) (.inl (none, am_hM h M')) := by
  unfold f_X12_goesOn at hyp
  refine am_Ev.mk (by decide +kernel) rfl rfl (Nat.le_refl _) (Nat.le_refl _) ?_
  change am_At _ _ _ 0 [_, _, _, _, _] [] _ _
  refine am_aload_n dX12_goesOn_0 rfl ?_
  refine am_bipush 53 (v := 53) dX12_goesOn_1 (by decide) ?_
  refine am_iload_n dX12_goesOn_3 rfl ?_
  refine am_iadd dX12_goesOn_4 ?_
  obtain ⟨hg1, hyp⟩ := gd_some hyp
  refine am_iald dX12_goesOn_5 (am_ia.one (sh_73 g)) (am_lit hg1) ?_
  refine am_if_ne (23) 29 dX12_goesOn_6 rfl ?_ ?_
  · intro hc2n
    have hc2n : ¬ ((M 73 0 (((53 : Int32) + x2).toNatClampNeg)) = 0) := hc2n
    replace hyp := it_neg hc2n hyp
    refine am_aload_n dX12_goesOn_29 rfl ?_
    refine am_bipush 53 (v := 53) dX12_goesOn_30 (by decide) ?_
    refine am_iload_n dX12_goesOn_32 rfl ?_
    refine am_iadd dX12_goesOn_33 ?_
    refine am_iald dX12_goesOn_34 (am_ia.one (sh_73 g)) (am_lit hg1) ?_
    refine am_iconst 1 (v := 1) dX12_goesOn_35 (by decide) ?_
    refine am_icmp_eq (4) 40 dX12_goesOn_36 rfl ?_ ?_
    · intro hc3
      have hc3 : (M 73 0 (((53 : Int32) + x2).toNatClampNeg)) = (1 : Int32) := hc3
      replace hyp := it_pos hc3 hyp
      refine am_aload_n dX12_goesOn_40 rfl ?_
      refine am_getR 12 12 58 dX12_goesOn_41 fg_X12_23 (sh_54 g) (by decide) rfl (rf_54_12 g) ?_
      refine am_iconst 3 (v := 3) dX12_goesOn_44 (by decide) ?_
      refine am_iald dX12_goesOn_45 (am_ia.one (sh_58 g)) (am_lit rfl) ?_
      refine am_istore_n dX12_goesOn_46 (am_lb rfl) ?_
      change am_At _ _ _ 47 [_, _, _, _, _] [] _ _
      obtain ⟨M12, hw12, hyp⟩ := bd_some hyp
      try dsimp only at hyp
      refine eL_X12_goesOn_47_73 (d := d) (h := h) g  FU (M 58 0 3, M) M12 hw12 ?_
      change am_At _ _ _ 134 [_, _, _, _, _] [] _ _
      refine am_aload_n dX12_goesOn_134 rfl ?_
      refine am_bipush 48 (v := 48) dX12_goesOn_135 (by decide) ?_
      refine am_iload_n dX12_goesOn_137 rfl ?_
      refine am_iadd dX12_goesOn_138 ?_
      obtain ⟨hg13, hyp⟩ := gd_some hyp
      refine am_iald dX12_goesOn_139 (am_ia.one (sh_73 g)) (am_lit hg13) ?_
      refine am_aload_n dX12_goesOn_140 rfl ?_
      refine am_getR 12 12 58 dX12_goesOn_141 fg_X12_23 (sh_54 g) (by decide) rfl (rf_54_12 g) ?_
      refine am_iconst 0 (v := 0) dX12_goesOn_144 (by decide) ?_
      refine am_iald dX12_goesOn_145 (am_ia.one (sh_58 g)) (am_lit rfl) ?_
      refine am_icmp_ge (4) 150 dX12_goesOn_146 rfl ?_ ?_
      · intro hc14
        have hc14 : (M12 58 0 0) ≤ (M12 73 0 (((48 : Int32) + x2).toNatClampNeg)) := hc14
        replace hyp := it_pos hc14 hyp
        refine am_aload_n dX12_goesOn_150 rfl ?_
        refine am_bipush 53 (v := 53) dX12_goesOn_151 (by decide) ?_
        refine am_iload_n dX12_goesOn_153 rfl ?_
        refine am_iadd dX12_goesOn_154 ?_
        refine am_iconst 2 (v := 2) dX12_goesOn_155 (by decide) ?_
        refine am_iast dX12_goesOn_156 (am_ia.one (sh_73 g)) (am_lit hg1) ?_
        refine am_aload_n dX12_goesOn_157 rfl ?_
        refine am_bipush 58 (v := 58) dX12_goesOn_158 (by decide) ?_
        refine am_iload_n dX12_goesOn_160 rfl ?_
        refine am_iadd dX12_goesOn_161 ?_
        refine am_aload_n dX12_goesOn_162 rfl ?_
        refine am_bipush 63 (v := 63) dX12_goesOn_163 (by decide) ?_
        refine am_iald dX12_goesOn_165 (am_ia.one (sh_73 g)) (am_lit rfl) ?_
        obtain ⟨hg15, hyp⟩ := gd_some hyp
        refine am_iast dX12_goesOn_166 (am_ia.one (sh_73 g)) (am_lit hg15) ?_
        cases hyp
        exact am_vret dX12_goesOn_167 rfl
      · intro hc14n
        have hc14n : ¬ ((M12 58 0 0) ≤ (M12 73 0 (((48 : Int32) + x2).toNatClampNeg))) := hc14n
        replace hyp := it_neg hc14n hyp
        cases hyp
        exact am_vret dX12_goesOn_149 rfl
    · intro hc3n
      have hc3n : ¬ ((M 73 0 (((53 : Int32) + x2).toNatClampNeg)) = (1 : Int32)) := hc3n
      replace hyp := it_neg hc3n hyp
      cases hyp
      exact am_vret dX12_goesOn_39 rfl
  · intro hc2
    have hc2 : (M 73 0 (((53 : Int32) + x2).toNatClampNeg)) = 0 := hc2
    replace hyp := it_pos hc2 hyp
    refine am_aload_n dX12_goesOn_9 rfl ?_
    refine am_aload_n dX12_goesOn_10 rfl ?_
    refine am_iload_n dX12_goesOn_11 rfl ?_
    obtain ⟨v16, hk16, hyp⟩ := bd_some hyp
    try dsimp only at hyp
    refine am_callV [_, _] dX12_goesOn_12 ml_X12_290 vm_X12_comesIn (sh_54 g) rfl (fun _ => Nat.le_of_ble_eq_true rfl) (by omega) rfl (ef_X12_comesIn_73 (d := d + 0) (h := h) g hk16) rfl ?_
    change am_At _ _ _ 15 [_, _, _, _, _] [_] _ _
    refine am_aload_n dX12_goesOn_15 rfl ?_
    refine am_bipush 63 (v := 63) dX12_goesOn_16 (by decide) ?_
    refine am_iald dX12_goesOn_18 (am_ia.one (sh_73 g)) (am_lit rfl) ?_
    refine am_icmp_ne (10) 29 dX12_goesOn_19 rfl ?_ ?_
    · intro hc17n
      have hc17n : ¬ (v16 = (M 73 0 63)) := hc17n
      replace hyp := it_neg hc17n hyp
      refine am_aload_n dX12_goesOn_29 rfl ?_
      refine am_bipush 53 (v := 53) dX12_goesOn_30 (by decide) ?_
      refine am_iload_n dX12_goesOn_32 rfl ?_
      refine am_iadd dX12_goesOn_33 ?_
      refine am_iald dX12_goesOn_34 (am_ia.one (sh_73 g)) (am_lit hg1) ?_
      refine am_iconst 1 (v := 1) dX12_goesOn_35 (by decide) ?_
      refine am_icmp_eq (4) 40 dX12_goesOn_36 rfl ?_ ?_
      · intro hc18
        have hc18 : (M 73 0 (((53 : Int32) + x2).toNatClampNeg)) = (1 : Int32) := hc18
        replace hyp := it_pos hc18 hyp
        refine am_aload_n dX12_goesOn_40 rfl ?_
        refine am_getR 12 12 58 dX12_goesOn_41 fg_X12_23 (sh_54 g) (by decide) rfl (rf_54_12 g) ?_
        refine am_iconst 3 (v := 3) dX12_goesOn_44 (by decide) ?_
        refine am_iald dX12_goesOn_45 (am_ia.one (sh_58 g)) (am_lit rfl) ?_
        refine am_istore_n dX12_goesOn_46 (am_lb rfl) ?_
        change am_At _ _ _ 47 [_, _, _, _, _] [] _ _
        obtain ⟨M19, hw19, hyp⟩ := bd_some hyp
        try dsimp only at hyp
        refine eL_X12_goesOn_47_73 (d := d) (h := h) g  FU (M 58 0 3, M) M19 hw19 ?_
        change am_At _ _ _ 134 [_, _, _, _, _] [] _ _
        refine am_aload_n dX12_goesOn_134 rfl ?_
        refine am_bipush 48 (v := 48) dX12_goesOn_135 (by decide) ?_
        refine am_iload_n dX12_goesOn_137 rfl ?_
        refine am_iadd dX12_goesOn_138 ?_
        obtain ⟨hg20, hyp⟩ := gd_some hyp
        refine am_iald dX12_goesOn_139 (am_ia.one (sh_73 g)) (am_lit hg20) ?_
        refine am_aload_n dX12_goesOn_140 rfl ?_
        refine am_getR 12 12 58 dX12_goesOn_141 fg_X12_23 (sh_54 g) (by decide) rfl (rf_54_12 g) ?_
        refine am_iconst 0 (v := 0) dX12_goesOn_144 (by decide) ?_
        refine am_iald dX12_goesOn_145 (am_ia.one (sh_58 g)) (am_lit rfl) ?_
        refine am_icmp_ge (4) 150 dX12_goesOn_146 rfl ?_ ?_
        · intro hc21
          have hc21 : (M19 58 0 0) ≤ (M19 73 0 (((48 : Int32) + x2).toNatClampNeg)) := hc21
          replace hyp := it_pos hc21 hyp
          refine am_aload_n dX12_goesOn_150 rfl ?_
          refine am_bipush 53 (v := 53) dX12_goesOn_151 (by decide) ?_
          refine am_iload_n dX12_goesOn_153 rfl ?_
          refine am_iadd dX12_goesOn_154 ?_
          refine am_iconst 2 (v := 2) dX12_goesOn_155 (by decide) ?_
          refine am_iast dX12_goesOn_156 (am_ia.one (sh_73 g)) (am_lit hg1) ?_
          refine am_aload_n dX12_goesOn_157 rfl ?_
          refine am_bipush 58 (v := 58) dX12_goesOn_158 (by decide) ?_
          refine am_iload_n dX12_goesOn_160 rfl ?_
          refine am_iadd dX12_goesOn_161 ?_
          refine am_aload_n dX12_goesOn_162 rfl ?_
          refine am_bipush 63 (v := 63) dX12_goesOn_163 (by decide) ?_
          refine am_iald dX12_goesOn_165 (am_ia.one (sh_73 g)) (am_lit rfl) ?_
          obtain ⟨hg22, hyp⟩ := gd_some hyp
          refine am_iast dX12_goesOn_166 (am_ia.one (sh_73 g)) (am_lit hg22) ?_
          cases hyp
          exact am_vret dX12_goesOn_167 rfl
        · intro hc21n
          have hc21n : ¬ ((M19 58 0 0) ≤ (M19 73 0 (((48 : Int32) + x2).toNatClampNeg))) := hc21n
          replace hyp := it_neg hc21n hyp
          cases hyp
          exact am_vret dX12_goesOn_149 rfl
      · intro hc18n
        have hc18n : ¬ ((M 73 0 (((53 : Int32) + x2).toNatClampNeg)) = (1 : Int32)) := hc18n
        replace hyp := it_neg hc18n hyp
        cases hyp
        exact am_vret dX12_goesOn_39 rfl
    · intro hc17
      have hc17 : v16 = (M 73 0 63) := hc17
      replace hyp := it_pos hc17 hyp
      refine am_aload_n dX12_goesOn_22 rfl ?_
      refine am_bipush 53 (v := 53) dX12_goesOn_23 (by decide) ?_
      refine am_iload_n dX12_goesOn_25 rfl ?_
      refine am_iadd dX12_goesOn_26 ?_
      refine am_iconst 1 (v := 1) dX12_goesOn_27 (by decide) ?_
      refine am_iast dX12_goesOn_28 (am_ia.one (sh_73 g)) (am_lit hg1) ?_
      refine am_aload_n dX12_goesOn_29 rfl ?_
      refine am_bipush 53 (v := 53) dX12_goesOn_30 (by decide) ?_
      refine am_iload_n dX12_goesOn_32 rfl ?_
      refine am_iadd dX12_goesOn_33 ?_
      refine am_iald dX12_goesOn_34 (am_ia.one (sh_73 g)) (am_lit hg1) ?_
      refine am_iconst 1 (v := 1) dX12_goesOn_35 (by decide) ?_
      refine am_icmp_eq (4) 40 dX12_goesOn_36 rfl ?_ ?_
      · intro hc23
        have hc23 : ((am_u3 M 73 0 (((53 : Int32) + x2).toNatClampNeg) (1 : Int32)) 73 0 (((53 : Int32) + x2).toNatClampNeg)) = (1 : Int32) := hc23
        replace hyp := it_pos hc23 hyp
        refine am_aload_n dX12_goesOn_40 rfl ?_
        refine am_getR 12 12 58 dX12_goesOn_41 fg_X12_23 (sh_54 g) (by decide) rfl (rf_54_12 g) ?_
        refine am_iconst 3 (v := 3) dX12_goesOn_44 (by decide) ?_
        refine am_iald dX12_goesOn_45 (am_ia.one (sh_58 g)) (am_lit rfl) ?_
        refine am_istore_n dX12_goesOn_46 (am_lb rfl) ?_
        change am_At _ _ _ 47 [_, _, _, _, _] [] _ _
        obtain ⟨M24, hw24, hyp⟩ := bd_some hyp
        try dsimp only at hyp
        refine eL_X12_goesOn_47_73 (d := d) (h := h) g  FU (M 58 0 3, (am_u3 M 73 0 (((53 : Int32) + x2).toNatClampNeg) (1 : Int32))) M24 hw24 ?_
        change am_At _ _ _ 134 [_, _, _, _, _] [] _ _
        refine am_aload_n dX12_goesOn_134 rfl ?_
        refine am_bipush 48 (v := 48) dX12_goesOn_135 (by decide) ?_
        refine am_iload_n dX12_goesOn_137 rfl ?_
        refine am_iadd dX12_goesOn_138 ?_
        obtain ⟨hg25, hyp⟩ := gd_some hyp
        refine am_iald dX12_goesOn_139 (am_ia.one (sh_73 g)) (am_lit hg25) ?_
        refine am_aload_n dX12_goesOn_140 rfl ?_
        refine am_getR 12 12 58 dX12_goesOn_141 fg_X12_23 (sh_54 g) (by decide) rfl (rf_54_12 g) ?_
        refine am_iconst 0 (v := 0) dX12_goesOn_144 (by decide) ?_
        refine am_iald dX12_goesOn_145 (am_ia.one (sh_58 g)) (am_lit rfl) ?_
        refine am_icmp_ge (4) 150 dX12_goesOn_146 rfl ?_ ?_
        · intro hc26
          have hc26 : (M24 58 0 0) ≤ (M24 73 0 (((48 : Int32) + x2).toNatClampNeg)) := hc26
          replace hyp := it_pos hc26 hyp
          refine am_aload_n dX12_goesOn_150 rfl ?_
          refine am_bipush 53 (v := 53) dX12_goesOn_151 (by decide) ?_
          refine am_iload_n dX12_goesOn_153 rfl ?_
          refine am_iadd dX12_goesOn_154 ?_
          refine am_iconst 2 (v := 2) dX12_goesOn_155 (by decide) ?_
          refine am_iast dX12_goesOn_156 (am_ia.one (sh_73 g)) (am_lit hg1) ?_
          refine am_aload_n dX12_goesOn_157 rfl ?_
          refine am_bipush 58 (v := 58) dX12_goesOn_158 (by decide) ?_
          refine am_iload_n dX12_goesOn_160 rfl ?_
          refine am_iadd dX12_goesOn_161 ?_
          refine am_aload_n dX12_goesOn_162 rfl ?_
          refine am_bipush 63 (v := 63) dX12_goesOn_163 (by decide) ?_
          refine am_iald dX12_goesOn_165 (am_ia.one (sh_73 g)) (am_lit rfl) ?_
          obtain ⟨hg27, hyp⟩ := gd_some hyp
          refine am_iast dX12_goesOn_166 (am_ia.one (sh_73 g)) (am_lit hg27) ?_
          cases hyp
          exact am_vret dX12_goesOn_167 rfl
        · intro hc26n
          have hc26n : ¬ ((M24 58 0 0) ≤ (M24 73 0 (((48 : Int32) + x2).toNatClampNeg))) := hc26n
          replace hyp := it_neg hc26n hyp
          cases hyp
          exact am_vret dX12_goesOn_149 rfl
      · intro hc23n
        have hc23n : ¬ (((am_u3 M 73 0 (((53 : Int32) + x2).toNatClampNeg) (1 : Int32)) 73 0 (((53 : Int32) + x2).toNatClampNeg)) = (1 : Int32)) := hc23n
        replace hyp := it_neg hc23n hyp
        cases hyp
        exact am_vret dX12_goesOn_39 rfl
