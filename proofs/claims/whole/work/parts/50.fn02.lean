theorem eL_X12_isHolding_12 {d : Nat} {h : am_H} (g : lay h) {x1 x2 : Int32} {M : Mem} {r : am_R} (n : Nat) : ∀ (s : Int32 × Int32) (e : Int32), wh (L_X12_isHolding_12 x1 x2 M) n s = some e → ((fun (x3 : Int32) => am_At am_X0 (d + 1) mX12_isHolding 56 [some (.inr (54, 0)), some (am_I (x1)), some (am_I (x2)), some (am_I (x3)), none] [] (am_hM h M) r) e) → (match s with | (x3, x4) => am_At am_X0 (d + 1) mX12_isHolding 12 [some (.inr (54, 0)), some (am_I (x1)), some (am_I (x2)), some (am_I (x3)), some (am_I (x4))] [] (am_hM h M) r) := by
  refine am_wh (At := fun (s : Int32 × Int32) => match s with | (x3, x4) => am_At am_X0 (d + 1) mX12_isHolding 12 [some (.inr (54, 0)), some (am_I (x1)), some (am_I (x2)), some (am_I (x3)), some (am_I (x4))] [] (am_hM h M) r) (Ex := fun (e : Int32) => (fun (x3 : Int32) => am_At am_X0 (d + 1) mX12_isHolding 56 [some (.inr (54, 0)), some (am_I (x1)), some (am_I (x2)), some (am_I (x3)), none] [] (am_hM h M) r) e) ?_ n
  rintro ⟨x3, x4⟩ y hyp hx
  unfold L_X12_isHolding_12 at hyp
  try dsimp only at hyp
  change am_At _ _ _ 12 [_, _, _, _, _] [] _ _
  refine am_iload dX12_isHolding_12 rfl ?_
  refine am_aload_n dX12_isHolding_14 rfl ?_
  refine am_getR 12 18 64 dX12_isHolding_15 fg_X12_43 (sh_54 g) (by decide) rfl (rf_54_18 g) ?_
  refine am_iload_n dX12_isHolding_18 rfl ?_
  obtain ⟨hg2, hyp⟩ := gd_some hyp
  refine am_aald dX12_isHolding_19 (sh_64 g) (am_lit hg2) ?_
  refine am_iconst 1 (v := 1) dX12_isHolding_20 (by decide) ?_
  refine am_iald dX12_isHolding_21 (am_ia.row (sh_64 g) (by omega) (am_vlt (am_lit hg2))) (am_lit rfl) ?_
  refine am_icmp_gt (34) 56 dX12_isHolding_22 rfl ?_ ?_
  · intro hc3
    have hc3 : (M 64 (x1.toNatClampNeg + 1) 1) < x4 := hc3
    replace hyp := it_pos hc3 hyp
    cases hyp
    refine am_At.drop 4 ?_
    exact hx
  · intro hc3n
    have hc3n : ¬ ((M 64 (x1.toNatClampNeg + 1) 1) < x4) := hc3n
    replace hyp := it_neg hc3n hyp
    refine am_iload_n dX12_isHolding_25 rfl ?_
    refine am_iload_n dX12_isHolding_26 rfl ?_
    refine am_iload dX12_isHolding_27 rfl ?_
    refine am_callS (c := 0) (k := 0) (n := 0) (w := 0) [_, _] dX12_isHolding_29 ml_X12_258 sm_X12_has rfl (fun _ => Nat.le_of_ble_eq_true rfl) (by omega) rfl (ef_X12_has (d := d + 0) (h := am_hM h M) (x0 := x2) (x1 := x4)  rfl) rfl ?_
    change am_At _ _ _ 32 [_, _, _, _, _] [_, _] _ _
    refine am_if_eq (15) 47 dX12_isHolding_32 rfl ?_ ?_
    · intro hc4
      have hc4 : (f_X12_has x2 x4) = 0 := hc4
      replace hyp := it_pos hc4 hyp
      refine am_iconst 0 (v := 0) dX12_isHolding_47 (by decide) ?_
      refine am_iadd dX12_isHolding_48 ?_
      refine am_istore_n dX12_isHolding_49 (am_lb rfl) ?_
      change am_At _ _ _ 50 [_, _, _, _, _] [] _ _
      refine am_iinc dX12_isHolding_50 rfl (am_ix _) ?_
      change am_At _ _ _ 53 [_, _, _, _, _] [] _ _
      refine am_goto (-41) 12 dX12_isHolding_53 rfl ?_
      cases hyp
      exact hx
    · intro hc4n
      have hc4n : ¬ ((f_X12_has x2 x4) = 0) := hc4n
      replace hyp := it_neg hc4n hyp
      refine am_aload_n dX12_isHolding_35 rfl ?_
      refine am_getR 12 14 60 dX12_isHolding_36 fg_X12_31 (sh_54 g) (by decide) rfl (rf_54_14 g) ?_
      refine am_iload dX12_isHolding_39 rfl ?_
      obtain ⟨hg5, hyp⟩ := gd_some hyp
      refine am_aald dX12_isHolding_41 (sh_60 g) (am_lit hg5) ?_
      refine am_iconst 2 (v := 2) dX12_isHolding_42 (by decide) ?_
      refine am_iald dX12_isHolding_43 (am_ia.row (sh_60 g) (by omega) (am_vlt (am_lit hg5))) (am_lit rfl) ?_
      refine am_goto (4) 48 dX12_isHolding_44 rfl ?_
      refine am_iadd dX12_isHolding_48 ?_
      refine am_istore_n dX12_isHolding_49 (am_lb rfl) ?_
      change am_At _ _ _ 50 [_, _, _, _, _] [] _ _
      refine am_iinc dX12_isHolding_50 rfl (am_ix _) ?_
      change am_At _ _ _ 53 [_, _, _, _, _] [] _ _
      refine am_goto (-41) 12 dX12_isHolding_53 rfl ?_
      cases hyp
      exact hx
theorem ef_X12_isHolding {d : Nat} {h : am_H} (g : lay h) {x1 x2 : Int32} {M : Mem} {v : Int32} (hyp : f_X12_isHolding x1 x2 M = some v) : am_Ev (d + 1) mX12_isHolding [.inr (54, 0), am_I x1, am_I x2] (am_hM h M) (.inl (some (am_I v), am_hM h M)) := by
  unfold f_X12_isHolding at hyp
  refine am_Ev.mk (by decide +kernel) rfl rfl (Nat.le_refl _) (Nat.le_refl _) ?_
  change am_At _ _ _ 0 [_, _, _, _, _] [] _ _
  refine am_iconst 0 (v := 0) dX12_isHolding_0 (by decide) ?_
  refine am_istore_n dX12_isHolding_1 (am_lb rfl) ?_
  change am_At _ _ _ 2 [_, _, _, _, _] [] _ _
  refine am_aload_n dX12_isHolding_2 rfl ?_
  refine am_getR 12 18 64 dX12_isHolding_3 fg_X12_43 (sh_54 g) (by decide) rfl (rf_54_18 g) ?_
  refine am_iload_n dX12_isHolding_6 rfl ?_
  obtain ⟨hg1, hyp⟩ := gd_some hyp
  refine am_aald dX12_isHolding_7 (sh_64 g) (am_lit hg1) ?_
  refine am_iconst 0 (v := 0) dX12_isHolding_8 (by decide) ?_
  refine am_iald dX12_isHolding_9 (am_ia.row (sh_64 g) (by omega) (am_vlt (am_lit hg1))) (am_lit rfl) ?_
  refine am_istore dX12_isHolding_10 (am_lb rfl) ?_
  change am_At _ _ _ 12 [_, _, _, _, _] [] _ _
  obtain ⟨x3_6, hw6, hyp⟩ := bd_some hyp
  try dsimp only at hyp
  refine eL_X12_isHolding_12 (d := d) (h := h) g (M := M) FU ((0 : Int32), M 64 (x1.toNatClampNeg + 1) 0) x3_6 hw6 ?_
  change am_At _ _ _ 56 [_, _, _, _, _] [] _ _
  refine am_iload_n dX12_isHolding_56 rfl ?_
  refine am_aload_n dX12_isHolding_57 rfl ?_
  refine am_getR 12 18 64 dX12_isHolding_58 fg_X12_43 (sh_54 g) (by decide) rfl (rf_54_18 g) ?_
  refine am_iload_n dX12_isHolding_61 rfl ?_
  refine am_aald dX12_isHolding_62 (sh_64 g) (am_lit hg1) ?_
  refine am_iconst 2 (v := 2) dX12_isHolding_63 (by decide) ?_
  refine am_iald dX12_isHolding_64 (am_ia.row (sh_64 g) (by omega) (am_vlt (am_lit hg1))) (am_lit rfl) ?_
  refine am_icmp_lt (7) 72 dX12_isHolding_65 rfl ?_ ?_
  · intro hc7
    have hc7 : x3_6 < (M 64 (x1.toNatClampNeg + 1) 2) := hc7
    replace hyp := it_pos hc7 hyp
    refine am_iconst 0 (v := 0) dX12_isHolding_72 (by decide) ?_
    cases hyp
    exact am_zret dX12_isHolding_73 rfl rfl
  · intro hc7n
    have hc7n : ¬ (x3_6 < (M 64 (x1.toNatClampNeg + 1) 2)) := hc7n
    replace hyp := it_neg hc7n hyp
    refine am_iconst 1 (v := 1) dX12_isHolding_68 (by decide) ?_
    refine am_goto (4) 73 dX12_isHolding_69 rfl ?_
    cases hyp
    exact am_zret dX12_isHolding_73 rfl rfl
theorem ef_X12_isMast {d : Nat} {h : am_H} {x0 : Int32} {v : Int32} (hyp : f_X12_isMast x0 = v) : am_Ev (d + 1) mX12_isMast [am_I x0] h (.inl (some (am_I v), h)) := by
  unfold f_X12_isMast at hyp
  refine am_Ev.mk (by decide +kernel) rfl rfl (Nat.le_refl _) (Nat.le_refl _) ?_
  change am_At _ _ _ 0 [_] [] _ _
  refine am_iload_n dX12_isMast_0 rfl ?_
  refine am_iconst 0 (v := 0) dX12_isMast_1 (by decide) ?_
  refine am_bipush 9 (v := 9) dX12_isMast_2 (by decide) ?_
  refine am_callS (c := 0) (k := 0) (n := 0) (w := 0) [_, _, _] dX12_isMast_4 ml_X12_137 sm_X12_in rfl (fun _ => Nat.le_of_ble_eq_true rfl) (by omega) rfl (ef_X12_in (d := d + 0) (h := h) (x0 := x0) (x1 := (0 : Int32)) (x2 := (9 : Int32))  rfl) rfl ?_
  change am_At _ _ _ 7 [_] [_] _ _
  cases hyp
  exact am_zret dX12_isMast_7 rfl (isb_nf (isb_X12_in _ _ _)).1
theorem eL_X12_isRest_42 {d : Nat} {h : am_H} (g : lay h) {x1 x2 : Int32} {M : Mem} {r : am_R} (n : Nat) : ∀ (s : Int32) (e : (Unit) ⊕ (Unit)), wh (L_X12_isRest_42 x1 x2 M) n s = some e → (match e with | (Sum.inl _) => am_At am_X0 (d + 0) mX12_isRest 78 [some (.inr (54, 0)), some (am_I (x1)), some (am_I (x2)), none] [] (am_hM h M) r | (Sum.inr _) => am_At am_X0 (d + 0) mX12_isRest 86 [some (.inr (54, 0)), some (am_I (x1)), some (am_I (x2)), none] [] (am_hM h M) r) → ((fun (x3 : Int32) => am_At am_X0 (d + 0) mX12_isRest 42 [some (.inr (54, 0)), some (am_I (x1)), some (am_I (x2)), some (am_I (x3))] [] (am_hM h M) r) s) := by
  refine am_wh (At := fun (s : Int32) => (fun (x3 : Int32) => am_At am_X0 (d + 0) mX12_isRest 42 [some (.inr (54, 0)), some (am_I (x1)), some (am_I (x2)), some (am_I (x3))] [] (am_hM h M) r) s) (Ex := fun (e : (Unit) ⊕ (Unit)) => match e with | (Sum.inl _) => am_At am_X0 (d + 0) mX12_isRest 78 [some (.inr (54, 0)), some (am_I (x1)), some (am_I (x2)), none] [] (am_hM h M) r | (Sum.inr _) => am_At am_X0 (d + 0) mX12_isRest 86 [some (.inr (54, 0)), some (am_I (x1)), some (am_I (x2)), none] [] (am_hM h M) r) ?_ n
  rintro x3 y hyp hx
  unfold L_X12_isRest_42 at hyp
  try dsimp only at hyp
  change am_At _ _ _ 42 [_, _, _, _] [] _ _
  refine am_iload_n dX12_isRest_42 rfl ?_
  refine am_aload_n dX12_isRest_43 rfl ?_
  refine am_getR 12 12 58 dX12_isRest_44 fg_X12_23 (sh_54 g) (by decide) rfl (rf_54_12 g) ?_
  refine am_iconst 0 (v := 0) dX12_isRest_47 (by decide) ?_
  refine am_iald dX12_isRest_48 (am_ia.one (sh_58 g)) (am_lit rfl) ?_
  refine am_icmp_ge (37) 86 dX12_isRest_49 rfl ?_ ?_
  · intro hc5
    have hc5 : (M 58 0 0) ≤ x3 := hc5
    replace hyp := it_pos hc5 hyp
    cases hyp
    refine am_At.drop 3 ?_
    exact hx
  · intro hc5n
    have hc5n : ¬ ((M 58 0 0) ≤ x3) := hc5n
    replace hyp := it_neg hc5n hyp
    refine am_iload_n dX12_isRest_52 rfl ?_
    refine am_iload_n dX12_isRest_53 rfl ?_
    refine am_icmp_eq (26) 80 dX12_isRest_54 rfl ?_ ?_
    · intro hc6
      have hc6 : x3 = x1 := hc6
      replace hyp := it_pos hc6 hyp
      refine am_iinc dX12_isRest_80 rfl (am_ix _) ?_
      change am_At _ _ _ 83 [_, _, _, _] [] _ _
      refine am_goto (-41) 42 dX12_isRest_83 rfl ?_
      cases hyp
      exact hx
    · intro hc6n
      have hc6n : ¬ (x3 = x1) := hc6n
      replace hyp := it_neg hc6n hyp
      refine am_aload_n dX12_isRest_57 rfl ?_
      refine am_getR 12 14 60 dX12_isRest_58 fg_X12_31 (sh_54 g) (by decide) rfl (rf_54_14 g) ?_
      refine am_iload_n dX12_isRest_61 rfl ?_
      obtain ⟨hg7, hyp⟩ := gd_some hyp
      refine am_aald dX12_isRest_62 (sh_60 g) (am_lit hg7) ?_
      refine am_iconst 3 (v := 3) dX12_isRest_63 (by decide) ?_
      refine am_iald dX12_isRest_64 (am_ia.row (sh_60 g) (by omega) (am_vlt (am_lit hg7))) (am_lit rfl) ?_
      refine am_aload_n dX12_isRest_65 rfl ?_
      refine am_getR 12 44 79 dX12_isRest_66 fg_X12_88 (sh_54 g) (by decide) rfl (rf_54_44 g) ?_
      refine am_iload_n dX12_isRest_69 rfl ?_
      refine am_iald dX12_isRest_70 (am_ia.one (sh_79 g)) (am_lit hg7) ?_
      refine am_iconst 1 (v := 1) dX12_isRest_71 (by decide) ?_
      refine am_iadd dX12_isRest_72 ?_
      obtain ⟨hg8, hyp⟩ := gd_some hyp
      refine am_idiv dX12_isRest_73 hg8 ?_
      refine am_iload_n dX12_isRest_74 rfl ?_
      refine am_icmp_le (5) 80 dX12_isRest_75 rfl ?_ ?_
      · intro hc9
        have hc9 : ((M 60 (x3.toNatClampNeg + 1) 3) / ((M 79 0 x3.toNatClampNeg) + (1 : Int32))) ≤ x2 := hc9
        replace hyp := it_pos hc9 hyp
        refine am_iinc dX12_isRest_80 rfl (am_ix _) ?_
        change am_At _ _ _ 83 [_, _, _, _] [] _ _
        refine am_goto (-41) 42 dX12_isRest_83 rfl ?_
        cases hyp
        exact hx
      · intro hc9n
        have hc9n : ¬ (((M 60 (x3.toNatClampNeg + 1) 3) / ((M 79 0 x3.toNatClampNeg) + (1 : Int32))) ≤ x2) := hc9n
        replace hyp := it_neg hc9n hyp
        cases hyp
        refine am_At.drop 3 ?_
        exact hx
theorem eL_X12_isRest_2 {d : Nat} {h : am_H} (g : lay h) {M : Mem} {r : am_R} (n : Nat) : ∀ (s : Int32) (e : (Unit) ⊕ (Unit)), wh (L_X12_isRest_2 M) n s = some e → (match e with | (Sum.inl _) => am_At am_X0 (d + 0) mX12_isRest 78 [some (.inr (54, 0)), none, none, none] [] (am_hM h M) r | (Sum.inr _) => am_At am_X0 (d + 0) mX12_isRest 92 [some (.inr (54, 0)), none, none, none] [] (am_hM h M) r) → ((fun (x1 : Int32) => am_At am_X0 (d + 0) mX12_isRest 2 [some (.inr (54, 0)), some (am_I (x1)), none, none] [] (am_hM h M) r) s) := by
  refine am_wh (At := fun (s : Int32) => (fun (x1 : Int32) => am_At am_X0 (d + 0) mX12_isRest 2 [some (.inr (54, 0)), some (am_I (x1)), none, none] [] (am_hM h M) r) s) (Ex := fun (e : (Unit) ⊕ (Unit)) => match e with | (Sum.inl _) => am_At am_X0 (d + 0) mX12_isRest 78 [some (.inr (54, 0)), none, none, none] [] (am_hM h M) r | (Sum.inr _) => am_At am_X0 (d + 0) mX12_isRest 92 [some (.inr (54, 0)), none, none, none] [] (am_hM h M) r) ?_ n
  rintro x1 y hyp hx
  unfold L_X12_isRest_2 at hyp
  try dsimp only at hyp
  change am_At _ _ _ 2 [_, _, _, _] [] _ _
  refine am_iload_n dX12_isRest_2 rfl ?_
  refine am_aload_n dX12_isRest_3 rfl ?_
  refine am_getR 12 12 58 dX12_isRest_4 fg_X12_23 (sh_54 g) (by decide) rfl (rf_54_12 g) ?_
  refine am_iconst 0 (v := 0) dX12_isRest_7 (by decide) ?_
  refine am_iald dX12_isRest_8 (am_ia.one (sh_58 g)) (am_lit rfl) ?_
  refine am_icmp_ge (83) 92 dX12_isRest_9 rfl ?_ ?_
  · intro hc1
    have hc1 : (M 58 0 0) ≤ x1 := hc1
    replace hyp := it_pos hc1 hyp
    cases hyp
    refine am_At.drop 1 ?_
    exact hx
  · intro hc1n
    have hc1n : ¬ ((M 58 0 0) ≤ x1) := hc1n
    replace hyp := it_neg hc1n hyp
    refine am_aload_n dX12_isRest_12 rfl ?_
    refine am_getR 12 44 79 dX12_isRest_13 fg_X12_88 (sh_54 g) (by decide) rfl (rf_54_44 g) ?_
    refine am_iload_n dX12_isRest_16 rfl ?_
    obtain ⟨hg2, hyp⟩ := gd_some hyp
    refine am_iald dX12_isRest_17 (am_ia.one (sh_79 g)) (am_lit hg2) ?_
    refine am_if_ne (6) 24 dX12_isRest_18 rfl ?_ ?_
    · intro hc3n
      have hc3n : ¬ ((M 79 0 x1.toNatClampNeg) = 0) := hc3n
      replace hyp := it_neg hc3n hyp
      refine am_aload_n dX12_isRest_24 rfl ?_
      refine am_getR 12 14 60 dX12_isRest_25 fg_X12_31 (sh_54 g) (by decide) rfl (rf_54_14 g) ?_
      refine am_iload_n dX12_isRest_28 rfl ?_
      refine am_aald dX12_isRest_29 (sh_60 g) (am_lit hg2) ?_
      refine am_iconst 3 (v := 3) dX12_isRest_30 (by decide) ?_
      refine am_iald dX12_isRest_31 (am_ia.row (sh_60 g) (by omega) (am_vlt (am_lit hg2))) (am_lit rfl) ?_
      refine am_aload_n dX12_isRest_32 rfl ?_
      refine am_getR 12 44 79 dX12_isRest_33 fg_X12_88 (sh_54 g) (by decide) rfl (rf_54_44 g) ?_
      refine am_iload_n dX12_isRest_36 rfl ?_
      refine am_iald dX12_isRest_37 (am_ia.one (sh_79 g)) (am_lit hg2) ?_
      obtain ⟨hg4, hyp⟩ := gd_some hyp
      refine am_idiv dX12_isRest_38 hg4 ?_
      refine am_istore_n dX12_isRest_39 (am_lb rfl) ?_
      change am_At _ _ _ 40 [_, _, _, _] [] _ _
      refine am_iconst 0 (v := 0) dX12_isRest_40 (by decide) ?_
      refine am_istore_n dX12_isRest_41 (am_lb rfl) ?_
      change am_At _ _ _ 42 [_, _, _, _] [] _ _
      obtain ⟨e10, hw10, hyp⟩ := bd_some hyp
      rcases e10 with _ | _
      · try dsimp only at hyp
        refine eL_X12_isRest_42 (d := d) (h := h) g (M := M) FU (0 : Int32) (Sum.inl ()) hw10 ?_
        change am_At _ _ _ 78 [_, _, _, _] [] _ _
        cases hyp
        refine am_At.drop 1 ?_
        refine am_At.drop 2 ?_
        exact hx
      · try dsimp only at hyp
        refine eL_X12_isRest_42 (d := d) (h := h) g (M := M) FU (0 : Int32) (Sum.inr ()) hw10 ?_
        change am_At _ _ _ 86 [_, _, _, _] [] _ _
        refine am_iinc dX12_isRest_86 rfl (am_ix _) ?_
        change am_At _ _ _ 89 [_, _, _, _] [] _ _
        refine am_goto (-87) 2 dX12_isRest_89 rfl ?_
        cases hyp
        refine am_At.drop 2 ?_
        exact hx
    · intro hc3
      have hc3 : (M 79 0 x1.toNatClampNeg) = 0 := hc3
      replace hyp := it_pos hc3 hyp
      refine am_goto (65) 86 dX12_isRest_21 rfl ?_
      refine am_iinc dX12_isRest_86 rfl (am_ix _) ?_
      change am_At _ _ _ 89 [_, _, _, _] [] _ _
      refine am_goto (-87) 2 dX12_isRest_89 rfl ?_
      cases hyp
      exact hx
theorem ef_X12_isRest {d : Nat} {h : am_H} (g : lay h) {M : Mem} {v : Int32} (hyp : f_X12_isRest M = some v) : am_Ev (d + 0) mX12_isRest [.inr (54, 0)] (am_hM h M) (.inl (some (am_I v), am_hM h M)) := by
  unfold f_X12_isRest at hyp
  refine am_Ev.mk (by decide +kernel) rfl rfl (Nat.le_refl _) (Nat.le_refl _) ?_
  change am_At _ _ _ 0 [_, _, _, _] [] _ _
  refine am_iconst 0 (v := 0) dX12_isRest_0 (by decide) ?_
  refine am_istore_n dX12_isRest_1 (am_lb rfl) ?_
  change am_At _ _ _ 2 [_, _, _, _] [] _ _
  obtain ⟨e11, hw11, hyp⟩ := bd_some hyp
  rcases e11 with _ | _
  · try dsimp only at hyp
    refine eL_X12_isRest_2 (d := d) (h := h) g (M := M) FU (0 : Int32) (Sum.inl ()) hw11 ?_
    change am_At _ _ _ 78 [_, _, _, _] [] _ _
    refine am_iconst 0 (v := 0) dX12_isRest_78 (by decide) ?_
    cases hyp
    exact am_zret dX12_isRest_79 rfl rfl
  · try dsimp only at hyp
    refine eL_X12_isRest_2 (d := d) (h := h) g (M := M) FU (0 : Int32) (Sum.inr ()) hw11 ?_
    change am_At _ _ _ 92 [_, _, _, _] [] _ _
    refine am_iconst 1 (v := 1) dX12_isRest_92 (by decide) ?_
    cases hyp
    exact am_zret dX12_isRest_93 rfl rfl
theorem isb_X12_isSmall (x0 : Int32) : isb (f_X12_isSmall x0) = true := by
  unfold f_X12_isSmall
  (repeat' split) <;> rfl
theorem ef_X12_isSmall {d : Nat} {h : am_H} {x0 : Int32} {v : Int32} (hyp : f_X12_isSmall x0 = v) : am_Ev (d + 0) mX12_isSmall [am_I x0] h (.inl (some (am_I v), h)) := by
  unfold f_X12_isSmall at hyp
  refine am_Ev.mk (by decide +kernel) rfl rfl (Nat.le_refl _) (Nat.le_refl _) ?_
  change am_At _ _ _ 0 [_] [] _ _
  refine am_iload_n dX12_isSmall_0 rfl ?_
  refine am_bipush 97 (v := 97) dX12_isSmall_1 (by decide) ?_
  refine am_icmp_lt (13) 16 dX12_isSmall_3 rfl ?_ ?_
  · intro hc1
    have hc1 : x0 < (97 : Int32) := hc1
    replace hyp := it_pos hc1 hyp
    refine am_iconst 0 (v := 0) dX12_isSmall_16 (by decide) ?_
    cases hyp
    exact am_zret dX12_isSmall_17 rfl rfl
  · intro hc1n
    have hc1n : ¬ (x0 < (97 : Int32)) := hc1n
    replace hyp := it_neg hc1n hyp
    refine am_iload_n dX12_isSmall_6 rfl ?_
    refine am_bipush 122 (v := 122) dX12_isSmall_7 (by decide) ?_
    refine am_icmp_gt (7) 16 dX12_isSmall_9 rfl ?_ ?_
    · intro hc2
      have hc2 : (122 : Int32) < x0 := hc2
      replace hyp := it_pos hc2 hyp
      refine am_iconst 0 (v := 0) dX12_isSmall_16 (by decide) ?_
      cases hyp
      exact am_zret dX12_isSmall_17 rfl rfl
    · intro hc2n
      have hc2n : ¬ ((122 : Int32) < x0) := hc2n
      replace hyp := it_neg hc2n hyp
      refine am_iconst 1 (v := 1) dX12_isSmall_12 (by decide) ?_
      refine am_goto (4) 17 dX12_isSmall_13 rfl ?_
      cases hyp
      exact am_zret dX12_isSmall_17 rfl rfl
theorem ef_X12_isWeight {d : Nat} {h : am_H} {x0 : Int32} {v : Int32} (hyp : f_X12_isWeight x0 = v) : am_Ev (d + 1) mX12_isWeight [am_I x0] h (.inl (some (am_I v), h)) := by
  unfold f_X12_isWeight at hyp
  refine am_Ev.mk (by decide +kernel) rfl rfl (Nat.le_refl _) (Nat.le_refl _) ?_
  change am_At _ _ _ 0 [_] [] _ _
  refine am_iload_n dX12_isWeight_0 rfl ?_
  refine am_iconst 0 (v := 0) dX12_isWeight_1 (by decide) ?_
  refine am_bipush 20 (v := 20) dX12_isWeight_2 (by decide) ?_
  refine am_callS (c := 0) (k := 0) (n := 0) (w := 0) [_, _, _] dX12_isWeight_4 ml_X12_137 sm_X12_in rfl (fun _ => Nat.le_of_ble_eq_true rfl) (by omega) rfl (ef_X12_in (d := d + 0) (h := h) (x0 := x0) (x1 := (0 : Int32)) (x2 := (20 : Int32))  rfl) rfl ?_
  change am_At _ _ _ 7 [_] [_] _ _
  cases hyp
  exact am_zret dX12_isWeight_7 rfl (isb_nf (isb_X12_in _ _ _)).1
theorem isb_X12_isWinter (x0 x1 : Int32) : isb (f_X12_isWinter x0 x1) = true := by
  unfold f_X12_isWinter
  (repeat' split) <;> rfl
theorem ef_X12_isWinter {d : Nat} {h : am_H} {x0 x1 : Int32} {v : Int32} (hyp : f_X12_isWinter x0 x1 = v) : am_Ev (d + 1) mX12_isWinter [am_I x0, am_I x1] h (.inl (some (am_I v), h)) := by
  unfold f_X12_isWinter at hyp
  refine am_Ev.mk (by decide +kernel) rfl rfl (Nat.le_refl _) (Nat.le_refl _) ?_
  change am_At _ _ _ 0 [_, _] [] _ _
  refine am_iload_n dX12_isWinter_0 rfl ?_
  refine am_iconst 0 (v := 0) dX12_isWinter_1 (by decide) ?_
  refine am_bipush 16 (v := 16) dX12_isWinter_2 (by decide) ?_
  refine am_callS (c := 0) (k := 0) (n := 0) (w := 0) [_, _, _] dX12_isWinter_4 ml_X12_137 sm_X12_in rfl (fun _ => Nat.le_of_ble_eq_true rfl) (by omega) rfl (ef_X12_in (d := d + 0) (h := h) (x0 := x0) (x1 := (0 : Int32)) (x2 := (16 : Int32))  rfl) rfl ?_
  change am_At _ _ _ 7 [_, _] [_] _ _
  refine am_if_eq (18) 25 dX12_isWinter_7 rfl ?_ ?_
  · intro hc1
    have hc1 : (f_X12_in x0 (0 : Int32) (16 : Int32)) = 0 := hc1
    replace hyp := it_pos hc1 hyp
    refine am_iconst 0 (v := 0) dX12_isWinter_25 (by decide) ?_
    cases hyp
    exact am_zret dX12_isWinter_26 rfl rfl
  · intro hc1n
    have hc1n : ¬ ((f_X12_in x0 (0 : Int32) (16 : Int32)) = 0) := hc1n
    replace hyp := it_neg hc1n hyp
    refine am_iload_n dX12_isWinter_10 rfl ?_
    refine am_iconst 1 (v := 1) dX12_isWinter_11 (by decide) ?_
    refine am_sipush 240 (v := 240) dX12_isWinter_12 (by decide) ?_
    refine am_callS (c := 0) (k := 0) (n := 0) (w := 0) [_, _, _] dX12_isWinter_15 ml_X12_137 sm_X12_in rfl (fun _ => Nat.le_of_ble_eq_true rfl) (by omega) rfl (ef_X12_in (d := d + 0) (h := h) (x0 := x1) (x1 := (1 : Int32)) (x2 := (240 : Int32))  rfl) rfl ?_
    change am_At _ _ _ 18 [_, _] [_] _ _
    refine am_if_eq (7) 25 dX12_isWinter_18 rfl ?_ ?_
    · intro hc2
      have hc2 : (f_X12_in x1 (1 : Int32) (240 : Int32)) = 0 := hc2
      replace hyp := it_pos hc2 hyp
      refine am_iconst 0 (v := 0) dX12_isWinter_25 (by decide) ?_
      cases hyp
      exact am_zret dX12_isWinter_26 rfl rfl
    · intro hc2n
      have hc2n : ¬ ((f_X12_in x1 (1 : Int32) (240 : Int32)) = 0) := hc2n
      replace hyp := it_neg hc2n hyp
      refine am_iconst 1 (v := 1) dX12_isWinter_21 (by decide) ?_
      refine am_goto (4) 26 dX12_isWinter_22 rfl ?_
      cases hyp
      exact am_zret dX12_isWinter_26 rfl rfl
theorem ef_X12_less {d : Nat} {h : am_H} {x0 x1 : Int32} {v : Int32} (hyp : f_X12_less x0 x1 = v) : am_Ev (d + 0) mX12_less [am_I x0, am_I x1] h (.inl (some (am_I v), h)) := by
  unfold f_X12_less at hyp
  refine am_Ev.mk (by decide +kernel) rfl rfl (Nat.le_refl _) (Nat.le_refl _) ?_
  change am_At _ _ _ 0 [_, _] [] _ _
  refine am_iload_n dX12_less_0 rfl ?_
  refine am_iload_n dX12_less_1 rfl ?_
  refine am_icmp_ge (7) 9 dX12_less_2 rfl ?_ ?_
  · intro hc1
    have hc1 : x1 ≤ x0 := hc1
    replace hyp := it_pos hc1 hyp
    refine am_iload_n dX12_less_9 rfl ?_
    cases hyp
    exact am_iret dX12_less_10 rfl
  · intro hc1n
    have hc1n : ¬ (x1 ≤ x0) := hc1n
    replace hyp := it_neg hc1n hyp
    refine am_iload_n dX12_less_5 rfl ?_
    refine am_goto (4) 10 dX12_less_6 rfl ?_
    cases hyp
    exact am_iret dX12_less_10 rfl
theorem ef_X12_more {d : Nat} {h : am_H} {x0 x1 : Int32} {v : Int32} (hyp : f_X12_more x0 x1 = v) : am_Ev (d + 0) mX12_more [am_I x0, am_I x1] h (.inl (some (am_I v), h)) := by
  unfold f_X12_more at hyp
  refine am_Ev.mk (by decide +kernel) rfl rfl (Nat.le_refl _) (Nat.le_refl _) ?_
  change am_At _ _ _ 0 [_, _] [] _ _
  refine am_iload_n dX12_more_0 rfl ?_
  refine am_iload_n dX12_more_1 rfl ?_
  refine am_icmp_le (7) 9 dX12_more_2 rfl ?_ ?_
  · intro hc1
    have hc1 : x0 ≤ x1 := hc1
    replace hyp := it_pos hc1 hyp
    refine am_iload_n dX12_more_9 rfl ?_
    cases hyp
    exact am_iret dX12_more_10 rfl
  · intro hc1n
    have hc1n : ¬ (x0 ≤ x1) := hc1n
    replace hyp := it_neg hc1n hyp
    refine am_iload_n dX12_more_5 rfl ?_
    refine am_goto (4) 10 dX12_more_6 rfl ?_
    cases hyp
    exact am_iret dX12_more_10 rfl
theorem eL_X12_narrow_51 {d : Nat} {h : am_H} (g : lay h) {x1 x2 : Int32} {M : Mem} {r : am_R} (n : Nat) : ∀ (s : Int32 × Int32 × Int32 × Int32 × Int32) (e : Int32 × Int32 × Int32), wh (L_X12_narrow_51 x1 M) n s = some e → (match e with | (x3, x4, x5) => am_At am_X0 (d + 2) mX12_narrow 142 [some (.inr (54, 0)), some (am_I (x1)), some (am_I (x2)), some (am_I (x3)), some (am_I (x4)), some (am_I (x5)), none, none, none] [] (am_hM h M) r) → (match s with | (x3, x4, x5, x6, x7) => am_At am_X0 (d + 2) mX12_narrow 51 [some (.inr (54, 0)), some (am_I (x1)), some (am_I (x2)), some (am_I (x3)), some (am_I (x4)), some (am_I (x5)), some (am_I (x6)), some (am_I (x7)), none] [] (am_hM h M) r) := by
  refine am_wh (At := fun (s : Int32 × Int32 × Int32 × Int32 × Int32) => match s with | (x3, x4, x5, x6, x7) => am_At am_X0 (d + 2) mX12_narrow 51 [some (.inr (54, 0)), some (am_I (x1)), some (am_I (x2)), some (am_I (x3)), some (am_I (x4)), some (am_I (x5)), some (am_I (x6)), some (am_I (x7)), none] [] (am_hM h M) r) (Ex := fun (e : Int32 × Int32 × Int32) => match e with | (x3, x4, x5) => am_At am_X0 (d + 2) mX12_narrow 142 [some (.inr (54, 0)), some (am_I (x1)), some (am_I (x2)), some (am_I (x3)), some (am_I (x4)), some (am_I (x5)), none, none, none] [] (am_hM h M) r) ?_ n
  rintro ⟨x3, x4, x5, x6, x7⟩ y hyp hx
  unfold L_X12_narrow_51 at hyp
  try dsimp only at hyp
  change am_At _ _ _ 51 [_, _, _, _, _, _, _, _, _] [] _ _
  refine am_iload dX12_narrow_51 rfl ?_
  refine am_aload_n dX12_narrow_53 rfl ?_
  refine am_getR 12 12 58 dX12_narrow_54 fg_X12_23 (sh_54 g) (by decide) rfl (rf_54_12 g) ?_
  refine am_iconst 0 (v := 0) dX12_narrow_57 (by decide) ?_
  refine am_iald dX12_narrow_58 (am_ia.one (sh_58 g)) (am_lit rfl) ?_
  refine am_icmp_ge (83) 142 dX12_narrow_59 rfl ?_ ?_
  · intro hc4
    have hc4 : (M 58 0 0) ≤ x7 := hc4
    replace hyp := it_pos hc4 hyp
    cases hyp
    refine am_At.drop 6 ?_
    refine am_At.drop 7 ?_
    exact hx
  · intro hc4n
    have hc4n : ¬ ((M 58 0 0) ≤ x7) := hc4n
    replace hyp := it_neg hc4n hyp
    refine am_iload_n dX12_narrow_62 rfl ?_
    refine am_aload_n dX12_narrow_63 rfl ?_
    refine am_getR 12 14 60 dX12_narrow_64 fg_X12_31 (sh_54 g) (by decide) rfl (rf_54_14 g) ?_
    refine am_iload dX12_narrow_67 rfl ?_
    obtain ⟨hg5, hyp⟩ := gd_some hyp
    refine am_aald dX12_narrow_69 (sh_60 g) (am_lit hg5) ?_
    refine am_iconst 0 (v := 0) dX12_narrow_70 (by decide) ?_
    refine am_iald dX12_narrow_71 (am_ia.row (sh_60 g) (by omega) (am_vlt (am_lit hg5))) (am_lit rfl) ?_
    refine am_icmp_le (7) 79 dX12_narrow_72 rfl ?_ ?_
    · intro hc6
      have hc6 : x1 ≤ (M 60 (x7.toNatClampNeg + 1) 0) := hc6
      replace hyp := it_pos hc6 hyp
      refine am_iconst 0 (v := 0) dX12_narrow_79 (by decide) ?_
      refine am_istore dX12_narrow_80 (am_lb rfl) ?_
      change am_At _ _ _ 82 [_, _, _, _, _, _, _, _, _] [] _ _
      refine am_iload_n dX12_narrow_82 rfl ?_
      refine am_iload dX12_narrow_83 rfl ?_
      refine am_if_eqT (10) 95 dX12_narrow_85 rfl (by decide) ?_
      refine am_iconst 0 (v := 0) dX12_narrow_95 (by decide) ?_
      refine am_ior dX12_narrow_96 ?_
      refine am_istore_n dX12_narrow_97 (am_lb rfl) ?_
      change am_At _ _ _ 98 [_, _, _, _, _, _, _, _, _] [] _ _
      refine am_iload dX12_narrow_98 rfl ?_
      refine am_if_eqT (7) 107 dX12_narrow_100 rfl (by decide) ?_
      refine am_iload dX12_narrow_107 rfl ?_
      refine am_iconst 1 (v := 1) dX12_narrow_109 (by decide) ?_
      refine am_iadd dX12_narrow_110 ?_
      refine am_istore dX12_narrow_111 (am_lb rfl) ?_
      change am_At _ _ _ 113 [_, _, _, _, _, _, _, _, _] [] _ _
      refine am_iload dX12_narrow_113 rfl ?_
      refine am_iload dX12_narrow_115 rfl ?_
      refine am_icmp_gt (6) 123 dX12_narrow_117 rfl ?_ ?_
      · intro hc7
        have hc7 : x4 < (x6 + (1 : Int32)) := hc7
        replace hyp := it_pos hc7 hyp
        refine am_iload dX12_narrow_123 rfl ?_
        refine am_istore dX12_narrow_125 (am_lb rfl) ?_
        change am_At _ _ _ 127 [_, _, _, _, _, _, _, _, _] [] _ _
        refine am_iload dX12_narrow_127 rfl ?_
        refine am_iload dX12_narrow_129 rfl ?_
        refine am_isub dX12_narrow_131 ?_
        refine am_iconst 1 (v := 1) dX12_narrow_132 (by decide) ?_
        refine am_iadd dX12_narrow_133 ?_
        refine am_istore dX12_narrow_134 (am_lb rfl) ?_
        change am_At _ _ _ 136 [_, _, _, _, _, _, _, _, _] [] _ _
        refine am_iinc dX12_narrow_136 rfl (am_ix _) ?_
        change am_At _ _ _ 139 [_, _, _, _, _, _, _, _, _] [] _ _
        refine am_goto (-88) 51 dX12_narrow_139 rfl ?_
        cases hyp
        refine am_At.drop 8 ?_
        exact hx
      · intro hc7n
        have hc7n : ¬ (x4 < (x6 + (1 : Int32))) := hc7n
        replace hyp := it_neg hc7n hyp
        refine am_goto (16) 136 dX12_narrow_120 rfl ?_
        refine am_iinc dX12_narrow_136 rfl (am_ix _) ?_
        change am_At _ _ _ 139 [_, _, _, _, _, _, _, _, _] [] _ _
        refine am_goto (-88) 51 dX12_narrow_139 rfl ?_
        cases hyp
        refine am_At.drop 8 ?_
        exact hx
    · intro hc6n
      have hc6n : ¬ (x1 ≤ (M 60 (x7.toNatClampNeg + 1) 0)) := hc6n
      replace hyp := it_neg hc6n hyp
      refine am_iconst 1 (v := 1) dX12_narrow_75 (by decide) ?_
      refine am_goto (4) 80 dX12_narrow_76 rfl ?_
      refine am_istore dX12_narrow_80 (am_lb rfl) ?_
      change am_At _ _ _ 82 [_, _, _, _, _, _, _, _, _] [] _ _
      refine am_iload_n dX12_narrow_82 rfl ?_
      refine am_iload dX12_narrow_83 rfl ?_
      refine am_if_eqF (10) 95 dX12_narrow_85 rfl (by decide) ?_
      refine am_iconst 1 (v := 1) dX12_narrow_88 (by decide) ?_
      refine am_iload dX12_narrow_89 rfl ?_
      refine am_ishl dX12_narrow_91 ?_
      refine am_goto (4) 96 dX12_narrow_92 rfl ?_
      refine am_ior dX12_narrow_96 ?_
      refine am_istore_n dX12_narrow_97 (am_lb rfl) ?_
      change am_At _ _ _ 98 [_, _, _, _, _, _, _, _, _] [] _ _
      refine am_iload dX12_narrow_98 rfl ?_
      refine am_if_eqF (7) 107 dX12_narrow_100 rfl (by decide) ?_
      refine am_iconst 0 (v := 0) dX12_narrow_103 (by decide) ?_
      refine am_goto (7) 111 dX12_narrow_104 rfl ?_
      refine am_istore dX12_narrow_111 (am_lb rfl) ?_
      change am_At _ _ _ 113 [_, _, _, _, _, _, _, _, _] [] _ _
      refine am_iload dX12_narrow_113 rfl ?_
      refine am_iload dX12_narrow_115 rfl ?_
      refine am_icmp_gt (6) 123 dX12_narrow_117 rfl ?_ ?_
      · intro hc8
        have hc8 : x4 < (0 : Int32) := hc8
        replace hyp := it_pos hc8 hyp
        refine am_iload dX12_narrow_123 rfl ?_
        refine am_istore dX12_narrow_125 (am_lb rfl) ?_
        change am_At _ _ _ 127 [_, _, _, _, _, _, _, _, _] [] _ _
        refine am_iload dX12_narrow_127 rfl ?_
        refine am_iload dX12_narrow_129 rfl ?_
        refine am_isub dX12_narrow_131 ?_
        refine am_iconst 1 (v := 1) dX12_narrow_132 (by decide) ?_
        refine am_iadd dX12_narrow_133 ?_
        refine am_istore dX12_narrow_134 (am_lb rfl) ?_
        change am_At _ _ _ 136 [_, _, _, _, _, _, _, _, _] [] _ _
        refine am_iinc dX12_narrow_136 rfl (am_ix _) ?_
        change am_At _ _ _ 139 [_, _, _, _, _, _, _, _, _] [] _ _
        refine am_goto (-88) 51 dX12_narrow_139 rfl ?_
        cases hyp
        refine am_At.drop 8 ?_
        exact hx
      · intro hc8n
        have hc8n : ¬ (x4 < (0 : Int32)) := hc8n
        replace hyp := it_neg hc8n hyp
        refine am_goto (16) 136 dX12_narrow_120 rfl ?_
        refine am_iinc dX12_narrow_136 rfl (am_ix _) ?_
        change am_At _ _ _ 139 [_, _, _, _, _, _, _, _, _] [] _ _
        refine am_goto (-88) 51 dX12_narrow_139 rfl ?_
        cases hyp
        refine am_At.drop 8 ?_
        exact hx
theorem ef_X12_narrow {d : Nat} {h : am_H} (g : lay h) {x1 x2 : Int32} {M : Mem} {v : Int32} {M' : Mem} (hyp : f_X12_narrow x1 x2 M = some (v, M')) : am_Ev (d + 2) mX12_narrow [.inr (54, 0), am_I x1, am_I x2] (am_hM h M) (.inl (some (am_I v), am_hM h M')) := by
  unfold f_X12_narrow at hyp
  refine am_Ev.mk (by decide +kernel) rfl rfl (Nat.le_refl _) (Nat.le_refl _) ?_
  change am_At _ _ _ 0 [_, _, _, _, _, _, _, _, _] [] _ _
  refine am_aload_n dX12_narrow_0 rfl ?_
  refine am_iconst 0 (v := 0) dX12_narrow_1 (by decide) ?_
  refine am_putI 12 0 dX12_narrow_2 (Or.inl fp_X12_103) (sh_54 g) (by decide) rfl rfl rfl ?_
  refine am_aload_n dX12_narrow_5 rfl ?_
  refine am_iload_n dX12_narrow_6 rfl ?_
  refine am_callS (c := 0) (k := 0) (n := 0) (w := 0) [_] dX12_narrow_7 ml_X12_336 sm_X12_isMast rfl (fun _ => Nat.le_of_ble_eq_true rfl) (by omega) rfl (ef_X12_isMast (d := d + 0) (h := am_hM h (am_u3 M 54 0 0 (0 : Int32))) (x0 := x1)  rfl) rfl ?_
  change am_At _ _ _ 10 [_, _, _, _, _, _, _, _, _] [_, _] _ _
  refine am_if_eq (12) 22 dX12_narrow_10 rfl ?_ ?_
  · intro hc1
    have hc1 : (f_X12_in x1 (0 : Int32) (9 : Int32)) = 0 := hc1
    replace hyp := it_pos hc1 hyp
    refine am_iconst 1 (v := 1) dX12_narrow_22 (by decide) ?_
    refine am_goto (4) 27 dX12_narrow_23 rfl ?_
    refine am_iconst 1 (v := 1) dX12_narrow_27 (by decide) ?_
    refine am_iconst 1 (v := 1) dX12_narrow_28 (by decide) ?_
    obtain ⟨⟨v2, M2⟩, hk2, hyp⟩ := bd_some hyp
    try dsimp only at hyp
    refine am_callV [_, _, _] dX12_narrow_29 ml_X12_179 vm_X12_bad (sh_54 g) rfl (fun _ => Nat.le_of_ble_eq_true rfl) (by omega) rfl (ef_X12_bad (d := d + 1) (h := h) g hk2) rfl ?_
    change am_At _ _ _ 32 [_, _, _, _, _, _, _, _, _] [_] _ _
    refine am_if_eq (5) 37 dX12_narrow_32 rfl ?_ ?_
    · intro hc3
      have hc3 : v2 = 0 := hc3
      replace hyp := it_pos hc3 hyp
      refine am_iconst 0 (v := 0) dX12_narrow_37 (by decide) ?_
      refine am_istore_n dX12_narrow_38 (am_lb rfl) ?_
      change am_At _ _ _ 39 [_, _, _, _, _, _, _, _, _] [] _ _
      refine am_iconst 0 (v := 0) dX12_narrow_39 (by decide) ?_
      refine am_istore dX12_narrow_40 (am_lb rfl) ?_
      change am_At _ _ _ 42 [_, _, _, _, _, _, _, _, _] [] _ _
      refine am_iconst (-1) (v := (-1)) dX12_narrow_42 (by decide) ?_
      refine am_istore dX12_narrow_43 (am_lb rfl) ?_
      change am_At _ _ _ 45 [_, _, _, _, _, _, _, _, _] [] _ _
      refine am_iconst 0 (v := 0) dX12_narrow_45 (by decide) ?_
      refine am_istore dX12_narrow_46 (am_lb rfl) ?_
      change am_At _ _ _ 48 [_, _, _, _, _, _, _, _, _] [] _ _
      refine am_iconst 0 (v := 0) dX12_narrow_48 (by decide) ?_
      refine am_istore dX12_narrow_49 (am_lb rfl) ?_
      change am_At _ _ _ 51 [_, _, _, _, _, _, _, _, _] [] _ _
      obtain ⟨⟨x3_9, x4_9, x5_9⟩, hw9, hyp⟩ := bd_some hyp
      try dsimp only at hyp
      refine eL_X12_narrow_51 (d := d) (h := h) g (M := M2) FU ((0 : Int32), (0 : Int32), (-1 : Int32), (0 : Int32), (0 : Int32)) (x3_9, x4_9, x5_9) hw9 ?_
      change am_At _ _ _ 142 [_, _, _, _, _, _, _, _, _] [] _ _
      refine am_iload_n dX12_narrow_142 rfl ?_
      refine am_if_ne (7) 150 dX12_narrow_143 rfl ?_ ?_
      · intro hc10n
        have hc10n : ¬ (x2 = 0) := hc10n
        replace hyp := it_neg hc10n hyp
        refine am_iload_n dX12_narrow_150 rfl ?_
        refine am_iconst 1 (v := 1) dX12_narrow_151 (by decide) ?_
        refine am_icmp_ne (8) 160 dX12_narrow_152 rfl ?_ ?_
        · intro hc11n
          have hc11n : ¬ (x2 = (1 : Int32)) := hc11n
          replace hyp := it_neg hc11n hyp
          refine am_iload dX12_narrow_160 rfl ?_
          cases hyp
          exact am_iret dX12_narrow_162 rfl
        · intro hc11
          have hc11 : x2 = (1 : Int32) := hc11
          replace hyp := it_pos hc11 hyp
          refine am_iload dX12_narrow_155 rfl ?_
          refine am_goto (5) 162 dX12_narrow_157 rfl ?_
          cases hyp
          exact am_iret dX12_narrow_162 rfl
      · intro hc10
        have hc10 : x2 = 0 := hc10
        replace hyp := it_pos hc10 hyp
        refine am_iload_n dX12_narrow_146 rfl ?_
        refine am_goto (15) 162 dX12_narrow_147 rfl ?_
        cases hyp
        exact am_iret dX12_narrow_162 rfl
    · intro hc3n
      have hc3n : ¬ (v2 = 0) := hc3n
      replace hyp := it_neg hc3n hyp
      refine am_iconst 0 (v := 0) dX12_narrow_35 (by decide) ?_
      cases hyp
      exact am_iret dX12_narrow_36 rfl
  · intro hc1n
    have hc1n : ¬ ((f_X12_in x1 (0 : Int32) (9 : Int32)) = 0) := hc1n
    replace hyp := it_neg hc1n hyp
    refine am_iload_n dX12_narrow_13 rfl ?_
    refine am_iconst 0 (v := 0) dX12_narrow_14 (by decide) ?_
    refine am_iconst 2 (v := 2) dX12_narrow_15 (by decide) ?_
    refine am_callS (c := 0) (k := 0) (n := 0) (w := 0) [_, _, _] dX12_narrow_16 ml_X12_137 sm_X12_in rfl (fun _ => Nat.le_of_ble_eq_true rfl) (by omega) rfl (ef_X12_in (d := d + 1) (h := am_hM h (am_u3 M 54 0 0 (0 : Int32))) (x0 := x2) (x1 := (0 : Int32)) (x2 := (2 : Int32))  rfl) rfl ?_
    change am_At _ _ _ 19 [_, _, _, _, _, _, _, _, _] [_, _] _ _
    refine am_if_ne (7) 26 dX12_narrow_19 rfl ?_ ?_
    · intro hc12n
      have hc12n : ¬ ((f_X12_in x2 (0 : Int32) (2 : Int32)) = 0) := hc12n
      replace hyp := it_neg hc12n hyp
      refine am_iconst 0 (v := 0) dX12_narrow_26 (by decide) ?_
      refine am_iconst 1 (v := 1) dX12_narrow_27 (by decide) ?_
      refine am_iconst 1 (v := 1) dX12_narrow_28 (by decide) ?_
      obtain ⟨⟨v13, M13⟩, hk13, hyp⟩ := bd_some hyp
      try dsimp only at hyp
      refine am_callV [_, _, _] dX12_narrow_29 ml_X12_179 vm_X12_bad (sh_54 g) rfl (fun _ => Nat.le_of_ble_eq_true rfl) (by omega) rfl (ef_X12_bad (d := d + 1) (h := h) g hk13) rfl ?_
      change am_At _ _ _ 32 [_, _, _, _, _, _, _, _, _] [_] _ _
      refine am_if_eq (5) 37 dX12_narrow_32 rfl ?_ ?_
      · intro hc14
        have hc14 : v13 = 0 := hc14
        replace hyp := it_pos hc14 hyp
        refine am_iconst 0 (v := 0) dX12_narrow_37 (by decide) ?_
        refine am_istore_n dX12_narrow_38 (am_lb rfl) ?_
        change am_At _ _ _ 39 [_, _, _, _, _, _, _, _, _] [] _ _
        refine am_iconst 0 (v := 0) dX12_narrow_39 (by decide) ?_
        refine am_istore dX12_narrow_40 (am_lb rfl) ?_
        change am_At _ _ _ 42 [_, _, _, _, _, _, _, _, _] [] _ _
        refine am_iconst (-1) (v := (-1)) dX12_narrow_42 (by decide) ?_
        refine am_istore dX12_narrow_43 (am_lb rfl) ?_
        change am_At _ _ _ 45 [_, _, _, _, _, _, _, _, _] [] _ _
        refine am_iconst 0 (v := 0) dX12_narrow_45 (by decide) ?_
        refine am_istore dX12_narrow_46 (am_lb rfl) ?_
        change am_At _ _ _ 48 [_, _, _, _, _, _, _, _, _] [] _ _
        refine am_iconst 0 (v := 0) dX12_narrow_48 (by decide) ?_
        refine am_istore dX12_narrow_49 (am_lb rfl) ?_
        change am_At _ _ _ 51 [_, _, _, _, _, _, _, _, _] [] _ _
        obtain ⟨⟨x3_15, x4_15, x5_15⟩, hw15, hyp⟩ := bd_some hyp
        try dsimp only at hyp
        refine eL_X12_narrow_51 (d := d) (h := h) g (M := M13) FU ((0 : Int32), (0 : Int32), (-1 : Int32), (0 : Int32), (0 : Int32)) (x3_15, x4_15, x5_15) hw15 ?_
        change am_At _ _ _ 142 [_, _, _, _, _, _, _, _, _] [] _ _
        refine am_iload_n dX12_narrow_142 rfl ?_
        refine am_if_ne (7) 150 dX12_narrow_143 rfl ?_ ?_
        · intro hc16n
          have hc16n : ¬ (x2 = 0) := hc16n
          replace hyp := it_neg hc16n hyp
          refine am_iload_n dX12_narrow_150 rfl ?_
          refine am_iconst 1 (v := 1) dX12_narrow_151 (by decide) ?_
          refine am_icmp_ne (8) 160 dX12_narrow_152 rfl ?_ ?_
          · intro hc17n
            have hc17n : ¬ (x2 = (1 : Int32)) := hc17n
            replace hyp := it_neg hc17n hyp
            refine am_iload dX12_narrow_160 rfl ?_
            cases hyp
            exact am_iret dX12_narrow_162 rfl
          · intro hc17
            have hc17 : x2 = (1 : Int32) := hc17
            replace hyp := it_pos hc17 hyp
            refine am_iload dX12_narrow_155 rfl ?_
            refine am_goto (5) 162 dX12_narrow_157 rfl ?_
            cases hyp
            exact am_iret dX12_narrow_162 rfl
        · intro hc16
          have hc16 : x2 = 0 := hc16
          replace hyp := it_pos hc16 hyp
          refine am_iload_n dX12_narrow_146 rfl ?_
          refine am_goto (15) 162 dX12_narrow_147 rfl ?_
          cases hyp
          exact am_iret dX12_narrow_162 rfl
      · intro hc14n
        have hc14n : ¬ (v13 = 0) := hc14n
        replace hyp := it_neg hc14n hyp
        refine am_iconst 0 (v := 0) dX12_narrow_35 (by decide) ?_
        cases hyp
        exact am_iret dX12_narrow_36 rfl
    · intro hc12
      have hc12 : (f_X12_in x2 (0 : Int32) (2 : Int32)) = 0 := hc12
      replace hyp := it_pos hc12 hyp
      refine am_iconst 1 (v := 1) dX12_narrow_22 (by decide) ?_
      refine am_goto (4) 27 dX12_narrow_23 rfl ?_
      refine am_iconst 1 (v := 1) dX12_narrow_27 (by decide) ?_
      refine am_iconst 1 (v := 1) dX12_narrow_28 (by decide) ?_
      obtain ⟨⟨v18, M18⟩, hk18, hyp⟩ := bd_some hyp
      try dsimp only at hyp
      refine am_callV [_, _, _] dX12_narrow_29 ml_X12_179 vm_X12_bad (sh_54 g) rfl (fun _ => Nat.le_of_ble_eq_true rfl) (by omega) rfl (ef_X12_bad (d := d + 1) (h := h) g hk18) rfl ?_
      change am_At _ _ _ 32 [_, _, _, _, _, _, _, _, _] [_] _ _
      refine am_if_eq (5) 37 dX12_narrow_32 rfl ?_ ?_
      · intro hc19
        have hc19 : v18 = 0 := hc19
        replace hyp := it_pos hc19 hyp
        refine am_iconst 0 (v := 0) dX12_narrow_37 (by decide) ?_
        refine am_istore_n dX12_narrow_38 (am_lb rfl) ?_
        change am_At _ _ _ 39 [_, _, _, _, _, _, _, _, _] [] _ _
        refine am_iconst 0 (v := 0) dX12_narrow_39 (by decide) ?_
        refine am_istore dX12_narrow_40 (am_lb rfl) ?_
        change am_At _ _ _ 42 [_, _, _, _, _, _, _, _, _] [] _ _
        refine am_iconst (-1) (v := (-1)) dX12_narrow_42 (by decide) ?_
        refine am_istore dX12_narrow_43 (am_lb rfl) ?_
        change am_At _ _ _ 45 [_, _, _, _, _, _, _, _, _] [] _ _
        refine am_iconst 0 (v := 0) dX12_narrow_45 (by decide) ?_
        refine am_istore dX12_narrow_46 (am_lb rfl) ?_
        change am_At _ _ _ 48 [_, _, _, _, _, _, _, _, _] [] _ _
        refine am_iconst 0 (v := 0) dX12_narrow_48 (by decide) ?_
        refine am_istore dX12_narrow_49 (am_lb rfl) ?_
        change am_At _ _ _ 51 [_, _, _, _, _, _, _, _, _] [] _ _
        obtain ⟨⟨x3_20, x4_20, x5_20⟩, hw20, hyp⟩ := bd_some hyp
        try dsimp only at hyp
        refine eL_X12_narrow_51 (d := d) (h := h) g (M := M18) FU ((0 : Int32), (0 : Int32), (-1 : Int32), (0 : Int32), (0 : Int32)) (x3_20, x4_20, x5_20) hw20 ?_
        change am_At _ _ _ 142 [_, _, _, _, _, _, _, _, _] [] _ _
        refine am_iload_n dX12_narrow_142 rfl ?_
        refine am_if_ne (7) 150 dX12_narrow_143 rfl ?_ ?_
        · intro hc21n
          have hc21n : ¬ (x2 = 0) := hc21n
          replace hyp := it_neg hc21n hyp
          refine am_iload_n dX12_narrow_150 rfl ?_
          refine am_iconst 1 (v := 1) dX12_narrow_151 (by decide) ?_
          refine am_icmp_ne (8) 160 dX12_narrow_152 rfl ?_ ?_
          · intro hc22n
            have hc22n : ¬ (x2 = (1 : Int32)) := hc22n
            replace hyp := it_neg hc22n hyp
            refine am_iload dX12_narrow_160 rfl ?_
            cases hyp
            exact am_iret dX12_narrow_162 rfl
          · intro hc22
            have hc22 : x2 = (1 : Int32) := hc22
            replace hyp := it_pos hc22 hyp
            refine am_iload dX12_narrow_155 rfl ?_
            refine am_goto (5) 162 dX12_narrow_157 rfl ?_
            cases hyp
            exact am_iret dX12_narrow_162 rfl
        · intro hc21
          have hc21 : x2 = 0 := hc21
          replace hyp := it_pos hc21 hyp
          refine am_iload_n dX12_narrow_146 rfl ?_
          refine am_goto (15) 162 dX12_narrow_147 rfl ?_
          cases hyp
          exact am_iret dX12_narrow_162 rfl
      · intro hc19n
        have hc19n : ¬ (v18 = 0) := hc19n
        replace hyp := it_neg hc19n hyp
        refine am_iconst 0 (v := 0) dX12_narrow_35 (by decide) ?_
        cases hyp
        exact am_iret dX12_narrow_36 rfl
theorem ef_X12_notes {d : Nat} {h : am_H} (g : lay h) {x1 x2 : Int32} {M : Mem} {M' : Mem} (hyp : f_X12_notes x1 x2 M = some M') : am_Ev (d + 0) mX12_notes [.inr (54, 0), am_I x1, am_I x2] (am_hM h M) (.inl (none, am_hM h M')) := by
  unfold f_X12_notes at hyp
  refine am_Ev.mk (by decide +kernel) rfl rfl (Nat.le_refl _) (Nat.le_refl _) ?_
  change am_At _ _ _ 0 [_, _, _] [] _ _
  refine am_aload_n dX12_notes_0 rfl ?_
  refine am_getI 12 5 dX12_notes_1 fg_X12_119 (sh_54 g) (by decide) rfl ?_
  refine am_if_eq (4) 8 dX12_notes_4 rfl ?_ ?_
  · intro hc1
    have hc1 : (M 54 0 5) = 0 := hc1
    replace hyp := it_pos hc1 hyp
    refine am_aload_n dX12_notes_8 rfl ?_
    refine am_getR 12 22 66 dX12_notes_9 fg_X12_49 (sh_54 g) (by decide) rfl (rf_54_22 g) ?_
    refine am_aload_n dX12_notes_12 rfl ?_
    refine am_getI 12 20 dX12_notes_13 fg_X12_211 (sh_54 g) (by decide) rfl ?_
    obtain ⟨hg2, hyp⟩ := gd_some hyp
    refine am_aald dX12_notes_16 (sh_66 g) (am_lit hg2) ?_
    refine am_iconst 0 (v := 0) dX12_notes_17 (by decide) ?_
    refine am_iload_n dX12_notes_18 rfl ?_
    refine am_iast dX12_notes_19 (am_ia.row (sh_66 g) (by omega) (am_vlt (am_lit hg2))) (am_lit rfl) ?_
    refine am_aload_n dX12_notes_20 rfl ?_
    refine am_getR 12 22 66 dX12_notes_21 fg_X12_49 (sh_54 g) (by decide) rfl (rf_54_22 g) ?_
    refine am_aload_n dX12_notes_24 rfl ?_
    refine am_getI 12 20 dX12_notes_25 fg_X12_211 (sh_54 g) (by decide) rfl ?_
    refine am_aald dX12_notes_28 (sh_66 g) (am_lit hg2) ?_
    refine am_iconst 1 (v := 1) dX12_notes_29 (by decide) ?_
    refine am_iload_n dX12_notes_30 rfl ?_
    refine am_iast dX12_notes_31 (am_ia.row (sh_66 g) (by omega) (am_vlt (am_lit hg2))) (am_lit rfl) ?_
    refine am_aload_n dX12_notes_32 rfl ?_
    refine am_dup dX12_notes_33 (fun _ => rfl) ?_
    refine am_getI 12 20 dX12_notes_34 fg_X12_211 (sh_54 g) (by decide) rfl ?_
    refine am_iconst 1 (v := 1) dX12_notes_37 (by decide) ?_
    refine am_iadd dX12_notes_38 ?_
    refine am_putI 12 20 dX12_notes_39 (Or.inl fp_X12_211) (sh_54 g) (by decide) rfl rfl rfl ?_
    cases hyp
    exact am_vret dX12_notes_42 rfl
  · intro hc1n
    have hc1n : ¬ ((M 54 0 5) = 0) := hc1n
    replace hyp := it_neg hc1n hyp
    cases hyp
    exact am_vret dX12_notes_7 rfl
theorem eL_X12_ones_4 {d : Nat} {h : am_H} {x0 : Int32} {r : am_R} (n : Nat) : ∀ (s : Int32 × Int32) (e : Int32), wh (L_X12_ones_4 x0) n s = some e → ((fun (x1 : Int32) => am_At am_X0 (d + 0) mX12_ones 24 [some (am_I (x0)), some (am_I (x1)), none] [] h r) e) → (match s with | (x1, x2) => am_At am_X0 (d + 0) mX12_ones 4 [some (am_I (x0)), some (am_I (x1)), some (am_I (x2))] [] h r) := by
  refine am_wh (At := fun (s : Int32 × Int32) => match s with | (x1, x2) => am_At am_X0 (d + 0) mX12_ones 4 [some (am_I (x0)), some (am_I (x1)), some (am_I (x2))] [] h r) (Ex := fun (e : Int32) => (fun (x1 : Int32) => am_At am_X0 (d + 0) mX12_ones 24 [some (am_I (x0)), some (am_I (x1)), none] [] h r) e) ?_ n
  rintro ⟨x1, x2⟩ y hyp hx
  unfold L_X12_ones_4 at hyp
  try dsimp only at hyp
  change am_At _ _ _ 4 [_, _, _] [] _ _
  refine am_iload_n dX12_ones_4 rfl ?_
  refine am_bipush 16 (v := 16) dX12_ones_5 (by decide) ?_
  refine am_icmp_ge (17) 24 dX12_ones_7 rfl ?_ ?_
  · intro hc1
    have hc1 : (16 : Int32) ≤ x2 := hc1
    replace hyp := it_pos hc1 hyp
    cases hyp
    refine am_At.drop 2 ?_
    exact hx
  · intro hc1n
    have hc1n : ¬ ((16 : Int32) ≤ x2) := hc1n
    replace hyp := it_neg hc1n hyp
    refine am_iload_n dX12_ones_10 rfl ?_
    refine am_iload_n dX12_ones_11 rfl ?_
    refine am_iload_n dX12_ones_12 rfl ?_
    refine am_ishr dX12_ones_13 ?_
    refine am_iconst 1 (v := 1) dX12_ones_14 (by decide) ?_
    refine am_iand dX12_ones_15 ?_
    refine am_iadd dX12_ones_16 ?_
    refine am_istore_n dX12_ones_17 (am_lb rfl) ?_
    change am_At _ _ _ 18 [_, _, _] [] _ _
    refine am_iinc dX12_ones_18 rfl (am_ix _) ?_
    change am_At _ _ _ 21 [_, _, _] [] _ _
    refine am_goto (-17) 4 dX12_ones_21 rfl ?_
    cases hyp
    exact hx
theorem ef_X12_ones {d : Nat} {h : am_H} {x0 : Int32} {v : Int32} (hyp : f_X12_ones x0 = some v) : am_Ev (d + 0) mX12_ones [am_I x0] h (.inl (some (am_I v), h)) := by
  unfold f_X12_ones at hyp
  refine am_Ev.mk (by decide +kernel) rfl rfl (Nat.le_refl _) (Nat.le_refl _) ?_
  change am_At _ _ _ 0 [_, _, _] [] _ _
  refine am_iconst 0 (v := 0) dX12_ones_0 (by decide) ?_
  refine am_istore_n dX12_ones_1 (am_lb rfl) ?_
  change am_At _ _ _ 2 [_, _, _] [] _ _
  refine am_iconst 0 (v := 0) dX12_ones_2 (by decide) ?_
  refine am_istore_n dX12_ones_3 (am_lb rfl) ?_
  change am_At _ _ _ 4 [_, _, _] [] _ _
  obtain ⟨x1_2, hw2, hyp⟩ := bd_some hyp
  try dsimp only at hyp
  refine eL_X12_ones_4 (d := d) (h := h)  FU ((0 : Int32), (0 : Int32)) x1_2 hw2 ?_
  change am_At _ _ _ 24 [_, _, _] [] _ _
  refine am_iload_n dX12_ones_24 rfl ?_
  cases hyp
  exact am_iret dX12_ones_25 rfl
theorem ef_X12_six {d : Nat} {h : am_H} {x0 x1 x2 x3 x4 x5 : Int32} {v : Int32} (hyp : f_X12_six x0 x1 x2 x3 x4 x5 = v) : am_Ev (d + 0) mX12_six [am_I x0, am_I x1, am_I x2, am_I x3, am_I x4, am_I x5] h (.inl (some (am_I v), h)) := by
  unfold f_X12_six at hyp
  refine am_Ev.mk (by decide +kernel) rfl rfl (Nat.le_refl _) (Nat.le_refl _) ?_
  change am_At _ _ _ 0 [_, _, _, _, _, _, _] [] _ _
  refine am_bipush 27 (v := 27) dX12_six_0 (by decide) ?_
  refine am_bipush 27 (v := 27) dX12_six_2 (by decide) ?_
  refine am_iload_n dX12_six_4 rfl ?_
  refine am_imul dX12_six_5 ?_
  refine am_iload_n dX12_six_6 rfl ?_
  refine am_iadd dX12_six_7 ?_
  refine am_imul dX12_six_8 ?_
  refine am_iload_n dX12_six_9 rfl ?_
  refine am_iadd dX12_six_10 ?_
  refine am_istore dX12_six_11 (am_lb rfl) ?_
  change am_At _ _ _ 13 [_, _, _, _, _, _, _] [] _ _
  refine am_iload_n dX12_six_13 rfl ?_
  refine am_if_ne (8) 22 dX12_six_14 rfl ?_ ?_
  · intro hc1n
    have hc1n : ¬ (x3 = 0) := hc1n
    replace hyp := it_neg hc1n hyp
    refine am_bipush 27 (v := 27) dX12_six_22 (by decide) ?_
    refine am_iload dX12_six_24 rfl ?_
    refine am_imul dX12_six_26 ?_
    refine am_iload_n dX12_six_27 rfl ?_
    refine am_iadd dX12_six_28 ?_
    refine am_istore dX12_six_29 (am_lb rfl) ?_
    change am_At _ _ _ 31 [_, _, _, _, _, _, _] [] _ _
    refine am_iload dX12_six_31 rfl ?_
    refine am_if_ne (8) 41 dX12_six_33 rfl ?_ ?_
    · intro hc2n
      have hc2n : ¬ (x4 = 0) := hc2n
      replace hyp := it_neg hc2n hyp
      refine am_bipush 27 (v := 27) dX12_six_41 (by decide) ?_
      refine am_iload dX12_six_43 rfl ?_
      refine am_imul dX12_six_45 ?_
      refine am_iload dX12_six_46 rfl ?_
      refine am_iadd dX12_six_48 ?_
      refine am_istore dX12_six_49 (am_lb rfl) ?_
      change am_At _ _ _ 51 [_, _, _, _, _, _, _] [] _ _
      refine am_iload dX12_six_51 rfl ?_
      refine am_if_ne (8) 61 dX12_six_53 rfl ?_ ?_
      · intro hc3n
        have hc3n : ¬ (x5 = 0) := hc3n
        replace hyp := it_neg hc3n hyp
        refine am_bipush 27 (v := 27) dX12_six_61 (by decide) ?_
        refine am_iload dX12_six_63 rfl ?_
        refine am_imul dX12_six_65 ?_
        refine am_iload dX12_six_66 rfl ?_
        refine am_iadd dX12_six_68 ?_
        cases hyp
        exact am_iret dX12_six_69 rfl
      · intro hc3
        have hc3 : x5 = 0 := hc3
        replace hyp := it_pos hc3 hyp
        refine am_iload dX12_six_56 rfl ?_
        refine am_goto (11) 69 dX12_six_58 rfl ?_
        cases hyp
        exact am_iret dX12_six_69 rfl
    · intro hc2
      have hc2 : x4 = 0 := hc2
      replace hyp := it_pos hc2 hyp
      refine am_iload dX12_six_36 rfl ?_
      refine am_goto (11) 49 dX12_six_38 rfl ?_
      refine am_istore dX12_six_49 (am_lb rfl) ?_
      change am_At _ _ _ 51 [_, _, _, _, _, _, _] [] _ _
      refine am_iload dX12_six_51 rfl ?_
      refine am_if_ne (8) 61 dX12_six_53 rfl ?_ ?_
      · intro hc4n
        have hc4n : ¬ (x5 = 0) := hc4n
        replace hyp := it_neg hc4n hyp
        refine am_bipush 27 (v := 27) dX12_six_61 (by decide) ?_
        refine am_iload dX12_six_63 rfl ?_
        refine am_imul dX12_six_65 ?_
        refine am_iload dX12_six_66 rfl ?_
        refine am_iadd dX12_six_68 ?_
        cases hyp
        exact am_iret dX12_six_69 rfl
      · intro hc4
        have hc4 : x5 = 0 := hc4
        replace hyp := it_pos hc4 hyp
        refine am_iload dX12_six_56 rfl ?_
        refine am_goto (11) 69 dX12_six_58 rfl ?_
        cases hyp
        exact am_iret dX12_six_69 rfl
  · intro hc1
    have hc1 : x3 = 0 := hc1
    replace hyp := it_pos hc1 hyp
    refine am_iload dX12_six_17 rfl ?_
    refine am_goto (10) 29 dX12_six_19 rfl ?_
    refine am_istore dX12_six_29 (am_lb rfl) ?_
    change am_At _ _ _ 31 [_, _, _, _, _, _, _] [] _ _
    refine am_iload dX12_six_31 rfl ?_
    refine am_if_ne (8) 41 dX12_six_33 rfl ?_ ?_
    · intro hc5n
      have hc5n : ¬ (x4 = 0) := hc5n
      replace hyp := it_neg hc5n hyp
      refine am_bipush 27 (v := 27) dX12_six_41 (by decide) ?_
      refine am_iload dX12_six_43 rfl ?_
      refine am_imul dX12_six_45 ?_
      refine am_iload dX12_six_46 rfl ?_
      refine am_iadd dX12_six_48 ?_
      refine am_istore dX12_six_49 (am_lb rfl) ?_
      change am_At _ _ _ 51 [_, _, _, _, _, _, _] [] _ _
      refine am_iload dX12_six_51 rfl ?_
      refine am_if_ne (8) 61 dX12_six_53 rfl ?_ ?_
      · intro hc6n
        have hc6n : ¬ (x5 = 0) := hc6n
        replace hyp := it_neg hc6n hyp
        refine am_bipush 27 (v := 27) dX12_six_61 (by decide) ?_
        refine am_iload dX12_six_63 rfl ?_
        refine am_imul dX12_six_65 ?_
        refine am_iload dX12_six_66 rfl ?_
        refine am_iadd dX12_six_68 ?_
        cases hyp
        exact am_iret dX12_six_69 rfl
      · intro hc6
        have hc6 : x5 = 0 := hc6
        replace hyp := it_pos hc6 hyp
        refine am_iload dX12_six_56 rfl ?_
        refine am_goto (11) 69 dX12_six_58 rfl ?_
        cases hyp
        exact am_iret dX12_six_69 rfl
    · intro hc5
      have hc5 : x4 = 0 := hc5
      replace hyp := it_pos hc5 hyp
      refine am_iload dX12_six_36 rfl ?_
      refine am_goto (11) 49 dX12_six_38 rfl ?_
      refine am_istore dX12_six_49 (am_lb rfl) ?_
      change am_At _ _ _ 51 [_, _, _, _, _, _, _] [] _ _
      refine am_iload dX12_six_51 rfl ?_
      refine am_if_ne (8) 61 dX12_six_53 rfl ?_ ?_
      · intro hc7n
        have hc7n : ¬ (x5 = 0) := hc7n
        replace hyp := it_neg hc7n hyp
        refine am_bipush 27 (v := 27) dX12_six_61 (by decide) ?_
        refine am_iload dX12_six_63 rfl ?_
        refine am_imul dX12_six_65 ?_
        refine am_iload dX12_six_66 rfl ?_
        refine am_iadd dX12_six_68 ?_
        cases hyp
        exact am_iret dX12_six_69 rfl
      · intro hc7
        have hc7 : x5 = 0 := hc7
        replace hyp := it_pos hc7 hyp
        refine am_iload dX12_six_56 rfl ?_
        refine am_goto (11) 69 dX12_six_58 rfl ?_
        cases hyp
        exact am_iret dX12_six_69 rfl
theorem eL_X12_skipWord_0 {d : Nat} {h : am_H} (g : lay h) {r : am_R} (n : Nat) : ∀ (s : Mem) (e : Mem), wh (L_X12_skipWord_0) n s = some e → ((fun (M : Mem) => am_At am_X0 (d + 1) mX12_skipWord 27 [some (.inr (54, 0))] [] (am_hM h M) r) e) → ((fun (M : Mem) => am_At am_X0 (d + 1) mX12_skipWord 0 [some (.inr (54, 0))] [] (am_hM h M) r) s) := by
  refine am_wh (At := fun (s : Mem) => (fun (M : Mem) => am_At am_X0 (d + 1) mX12_skipWord 0 [some (.inr (54, 0))] [] (am_hM h M) r) s) (Ex := fun (e : Mem) => (fun (M : Mem) => am_At am_X0 (d + 1) mX12_skipWord 27 [some (.inr (54, 0))] [] (am_hM h M) r) e) ?_ n
  rintro M y hyp hx
  unfold L_X12_skipWord_0 at hyp
  try dsimp only at hyp
  change am_At _ _ _ 0 [_] [] _ _
  refine am_aload_n dX12_skipWord_0 rfl ?_
  refine am_aload_n dX12_skipWord_1 rfl ?_
  refine am_getI 12 4 dX12_skipWord_2 fg_X12_112 (sh_54 g) (by decide) rfl ?_
  obtain ⟨v1, hk1, hyp⟩ := bd_some hyp
  try dsimp only at hyp
  refine am_callV [_] dX12_skipWord_5 ml_X12_115 vm_X12_byteAt (sh_54 g) rfl (fun _ => Nat.le_of_ble_eq_true rfl) (by omega) rfl (ef_X12_byteAt (d := d + 0) (h := h) g hk1) rfl ?_
  change am_At _ _ _ 8 [_] [_] _ _
  refine am_callS (c := 0) (k := 0) (n := 0) (w := 0) [_] dX12_skipWord_8 ml_X12_141 sm_X12_isSmall rfl (fun _ => Nat.le_of_ble_eq_true rfl) (by omega) rfl (ef_X12_isSmall (d := d + 0) (h := am_hM h M) (x0 := v1)  rfl) rfl ?_
  change am_At _ _ _ 11 [_] [_] _ _
  refine am_if_eq (16) 27 dX12_skipWord_11 rfl ?_ ?_
  · intro hc2
    have hc2 : (f_X12_isSmall v1) = 0 := hc2
    replace hyp := it_pos hc2 hyp
    cases hyp
    exact hx
  · intro hc2n
    have hc2n : ¬ ((f_X12_isSmall v1) = 0) := hc2n
    replace hyp := it_neg hc2n hyp
    refine am_aload_n dX12_skipWord_14 rfl ?_
    refine am_dup dX12_skipWord_15 (fun _ => rfl) ?_
    refine am_getI 12 4 dX12_skipWord_16 fg_X12_112 (sh_54 g) (by decide) rfl ?_
    refine am_iconst 1 (v := 1) dX12_skipWord_19 (by decide) ?_
    refine am_iadd dX12_skipWord_20 ?_
    refine am_putI 12 4 dX12_skipWord_21 (Or.inl fp_X12_112) (sh_54 g) (by decide) rfl rfl rfl ?_
    refine am_goto (-24) 0 dX12_skipWord_24 rfl ?_
    cases hyp
    exact hx
theorem ef_X12_skipWord {d : Nat} {h : am_H} (g : lay h) {M : Mem} {M' : Mem} (hyp : f_X12_skipWord M = some M') : am_Ev (d + 1) mX12_skipWord [.inr (54, 0)] (am_hM h M) (.inl (none, am_hM h M')) := by
  unfold f_X12_skipWord at hyp
  refine am_Ev.mk (by decide +kernel) rfl rfl (Nat.le_refl _) (Nat.le_refl _) ?_
  change am_At _ _ _ 0 [_] [] _ _
  obtain ⟨M3, hw3, hyp⟩ := bd_some hyp
  try dsimp only at hyp
  refine eL_X12_skipWord_0 (d := d) (h := h) g  FU M M3 hw3 ?_
  change am_At _ _ _ 27 [_] [] _ _
  cases hyp
  exact am_vret dX12_skipWord_27 rfl
theorem eL_X12_smellAt_16 {d : Nat} {h : am_H} (g : lay h) {x1 x2 : Int32} {M : Mem} {r : am_R} (n : Nat) : ∀ (s : Int32 × Int32) (e : Int32), wh (L_X12_smellAt_16 x1 x2 M) n s = some e → ((fun (x3 : Int32) => am_At am_X0 (d + 1) mX12_smellAt 57 [some (.inr (54, 0)), some (am_I (x1)), some (am_I (x2)), some (am_I (x3)), none] [] (am_hM h M) r) e) → (match s with | (x3, x4) => am_At am_X0 (d + 1) mX12_smellAt 16 [some (.inr (54, 0)), some (am_I (x1)), some (am_I (x2)), some (am_I (x3)), some (am_I (x4))] [] (am_hM h M) r) := by
  refine am_wh (At := fun (s : Int32 × Int32) => match s with | (x3, x4) => am_At am_X0 (d + 1) mX12_smellAt 16 [some (.inr (54, 0)), some (am_I (x1)), some (am_I (x2)), some (am_I (x3)), some (am_I (x4))] [] (am_hM h M) r) (Ex := fun (e : Int32) => (fun (x3 : Int32) => am_At am_X0 (d + 1) mX12_smellAt 57 [some (.inr (54, 0)), some (am_I (x1)), some (am_I (x2)), some (am_I (x3)), none] [] (am_hM h M) r) e) ?_ n
  rintro ⟨x3, x4⟩ y hyp hx
  unfold L_X12_smellAt_16 at hyp
  try dsimp only at hyp
  change am_At _ _ _ 16 [_, _, _, _, _] [] _ _
  refine am_iload dX12_smellAt_16 rfl ?_
  refine am_iload_n dX12_smellAt_18 rfl ?_
  refine am_icmp_gt (38) 57 dX12_smellAt_19 rfl ?_ ?_
  · intro hc1
    have hc1 : x1 < x4 := hc1
    replace hyp := it_pos hc1 hyp
    cases hyp
    refine am_At.drop 4 ?_
    exact hx
  · intro hc1n
    have hc1n : ¬ (x1 < x4) := hc1n
    replace hyp := it_neg hc1n hyp
    refine am_iload_n dX12_smellAt_22 rfl ?_
    refine am_iload_n dX12_smellAt_23 rfl ?_
    refine am_iload dX12_smellAt_24 rfl ?_
    refine am_callS (c := 0) (k := 0) (n := 0) (w := 0) [_, _] dX12_smellAt_26 ml_X12_258 sm_X12_has rfl (fun _ => Nat.le_of_ble_eq_true rfl) (by omega) rfl (ef_X12_has (d := d + 0) (h := am_hM h M) (x0 := x2) (x1 := x4)  rfl) rfl ?_
    change am_At _ _ _ 29 [_, _, _, _, _] [_, _] _ _
    refine am_if_eq (19) 48 dX12_smellAt_29 rfl ?_ ?_
    · intro hc2
      have hc2 : (f_X12_has x2 x4) = 0 := hc2
      replace hyp := it_pos hc2 hyp
      refine am_iconst 0 (v := 0) dX12_smellAt_48 (by decide) ?_
      refine am_iadd dX12_smellAt_49 ?_
      refine am_istore_n dX12_smellAt_50 (am_lb rfl) ?_
      change am_At _ _ _ 51 [_, _, _, _, _] [] _ _
      refine am_iinc dX12_smellAt_51 rfl (am_ix _) ?_
      change am_At _ _ _ 54 [_, _, _, _, _] [] _ _
      refine am_goto (-38) 16 dX12_smellAt_54 rfl ?_
      cases hyp
      exact hx
    · intro hc2n
      have hc2n : ¬ ((f_X12_has x2 x4) = 0) := hc2n
      replace hyp := it_neg hc2n hyp
      refine am_aload_n dX12_smellAt_32 rfl ?_
      refine am_getR 12 12 58 dX12_smellAt_33 fg_X12_23 (sh_54 g) (by decide) rfl (rf_54_12 g) ?_
      refine am_iconst 4 (v := 4) dX12_smellAt_36 (by decide) ?_
      refine am_iald dX12_smellAt_37 (am_ia.one (sh_58 g)) (am_lit rfl) ?_
      refine am_iconst 1 (v := 1) dX12_smellAt_38 (by decide) ?_
      refine am_iadd dX12_smellAt_39 ?_
      refine am_iload_n dX12_smellAt_40 rfl ?_
      refine am_isub dX12_smellAt_41 ?_
      refine am_iload dX12_smellAt_42 rfl ?_
      refine am_iadd dX12_smellAt_44 ?_
      refine am_goto (4) 49 dX12_smellAt_45 rfl ?_
      refine am_iadd dX12_smellAt_49 ?_
      refine am_istore_n dX12_smellAt_50 (am_lb rfl) ?_
      change am_At _ _ _ 51 [_, _, _, _, _] [] _ _
      refine am_iinc dX12_smellAt_51 rfl (am_ix _) ?_
      change am_At _ _ _ 54 [_, _, _, _, _] [] _ _
      refine am_goto (-38) 16 dX12_smellAt_54 rfl ?_
      cases hyp
      exact hx
theorem ef_X12_smellAt {d : Nat} {h : am_H} (g : lay h) {x1 x2 : Int32} {M : Mem} {v : Int32} (hyp : f_X12_smellAt x1 x2 M = some v) : am_Ev (d + 1) mX12_smellAt [.inr (54, 0), am_I x1, am_I x2] (am_hM h M) (.inl (some (am_I v), am_hM h M)) := by
  unfold f_X12_smellAt at hyp
  refine am_Ev.mk (by decide +kernel) rfl rfl (Nat.le_refl _) (Nat.le_refl _) ?_
  change am_At _ _ _ 0 [_, _, _, _, _] [] _ _
  refine am_iconst 0 (v := 0) dX12_smellAt_0 (by decide) ?_
  refine am_istore_n dX12_smellAt_1 (am_lb rfl) ?_
  change am_At _ _ _ 2 [_, _, _, _, _] [] _ _
  refine am_iconst 0 (v := 0) dX12_smellAt_2 (by decide) ?_
  refine am_iload_n dX12_smellAt_3 rfl ?_
  refine am_aload_n dX12_smellAt_4 rfl ?_
  refine am_getR 12 12 58 dX12_smellAt_5 fg_X12_23 (sh_54 g) (by decide) rfl (rf_54_12 g) ?_
  refine am_iconst 4 (v := 4) dX12_smellAt_8 (by decide) ?_
  refine am_iald dX12_smellAt_9 (am_ia.one (sh_58 g)) (am_lit rfl) ?_
  refine am_isub dX12_smellAt_10 ?_
  refine am_callS (c := 0) (k := 0) (n := 0) (w := 0) [_, _] dX12_smellAt_11 ml_X12_242 sm_X12_more rfl (fun _ => Nat.le_of_ble_eq_true rfl) (by omega) rfl (ef_X12_more (d := d + 0) (h := am_hM h M) (x0 := (0 : Int32)) (x1 := (x1 - (M 58 0 4)))  rfl) rfl ?_
  change am_At _ _ _ 14 [_, _, _, _, _] [_] _ _
  refine am_istore dX12_smellAt_14 (am_lb rfl) ?_
  change am_At _ _ _ 16 [_, _, _, _, _] [] _ _
  obtain ⟨x3_3, hw3, hyp⟩ := bd_some hyp
  try dsimp only at hyp
  refine eL_X12_smellAt_16 (d := d) (h := h) g (M := M) FU ((0 : Int32), f_X12_more (0 : Int32) (x1 - (M 58 0 4))) x3_3 hw3 ?_
  change am_At _ _ _ 57 [_, _, _, _, _] [] _ _
  refine am_iload_n dX12_smellAt_57 rfl ?_
  cases hyp
  exact am_iret dX12_smellAt_58 rfl
theorem ef_X12_status {d : Nat} {h : am_H} (g : lay h) {x1 : Int32} {M : Mem} {v : Int32} {M' : Mem} (hyp : f_X12_status x1 M = some (v, M')) : am_Ev (d + 1) mX12_status [.inr (54, 0), am_I x1] (am_hM h M) (.inl (some (am_I v), am_hM h M')) := by
  unfold f_X12_status at hyp
  refine am_Ev.mk (by decide +kernel) rfl rfl (Nat.le_refl _) (Nat.le_refl _) ?_
  change am_At _ _ _ 0 [_, _] [] _ _
  refine am_aload_n dX12_status_0 rfl ?_
  refine am_iconst 0 (v := 0) dX12_status_1 (by decide) ?_
  refine am_putI 12 0 dX12_status_2 (Or.inl fp_X12_103) (sh_54 g) (by decide) rfl rfl rfl ?_
  refine am_iload_n dX12_status_5 rfl ?_
  refine am_iconst 0 (v := 0) dX12_status_6 (by decide) ?_
  refine am_iconst 1 (v := 1) dX12_status_7 (by decide) ?_
  refine am_callS (c := 0) (k := 0) (n := 0) (w := 0) [_, _, _] dX12_status_8 ml_X12_137 sm_X12_in rfl (fun _ => Nat.le_of_ble_eq_true rfl) (by omega) rfl (ef_X12_in (d := d + 0) (h := am_hM h (am_u3 M 54 0 0 (0 : Int32))) (x0 := x1) (x1 := (0 : Int32)) (x2 := (1 : Int32))  rfl) rfl ?_
  change am_At _ _ _ 11 [_, _] [_] _ _
  refine am_if_eq (12) 23 dX12_status_11 rfl ?_ ?_
  · intro hc1
    have hc1 : (f_X12_in x1 (0 : Int32) (1 : Int32)) = 0 := hc1
    replace hyp := it_pos hc1 hyp
    refine am_iconst (-1) (v := (-1)) dX12_status_23 (by decide) ?_
    cases hyp
    exact am_iret dX12_status_24 rfl
  · intro hc1n
    have hc1n : ¬ ((f_X12_in x1 (0 : Int32) (1 : Int32)) = 0) := hc1n
    replace hyp := it_neg hc1n hyp
    refine am_aload_n dX12_status_14 rfl ?_
    refine am_getR 12 10 56 dX12_status_15 fg_X12_17 (sh_54 g) (by decide) rfl (rf_54_10 g) ?_
    refine am_iload_n dX12_status_18 rfl ?_
    obtain ⟨hg2, hyp⟩ := gd_some hyp
    refine am_iald dX12_status_19 (am_ia.one (sh_56 g)) (am_lit hg2) ?_
    refine am_goto (4) 24 dX12_status_20 rfl ?_
    cases hyp
    exact am_iret dX12_status_24 rfl
theorem eL_X12_tellsNothing_2 {d : Nat} {h : am_H} (g : lay h) {r : am_R} (n : Nat) : ∀ (s : Int32 × Mem) (e : Mem), wh (L_X12_tellsNothing_2) n s = some e → ((fun (M : Mem) => am_At am_X0 (d + 0) mX12_tellsNothing 20 [some (.inr (54, 0)), none] [] (am_hM h M) r) e) → (match s with | (x1, M) => am_At am_X0 (d + 0) mX12_tellsNothing 2 [some (.inr (54, 0)), some (am_I (x1))] [] (am_hM h M) r) := by
  refine am_wh (At := fun (s : Int32 × Mem) => match s with | (x1, M) => am_At am_X0 (d + 0) mX12_tellsNothing 2 [some (.inr (54, 0)), some (am_I (x1))] [] (am_hM h M) r) (Ex := fun (e : Mem) => (fun (M : Mem) => am_At am_X0 (d + 0) mX12_tellsNothing 20 [some (.inr (54, 0)), none] [] (am_hM h M) r) e) ?_ n
  rintro ⟨x1, M⟩ y hyp hx
  unfold L_X12_tellsNothing_2 at hyp
  try dsimp only at hyp
  change am_At _ _ _ 2 [_, _] [] _ _
  refine am_iload_n dX12_tellsNothing_2 rfl ?_
  refine am_iconst 3 (v := 3) dX12_tellsNothing_3 (by decide) ?_
  refine am_icmp_ge (16) 20 dX12_tellsNothing_4 rfl ?_ ?_
  · intro hc1
    have hc1 : (3 : Int32) ≤ x1 := hc1
    replace hyp := it_pos hc1 hyp
    cases hyp
    refine am_At.drop 1 ?_
    exact hx
  · intro hc1n
    have hc1n : ¬ ((3 : Int32) ≤ x1) := hc1n
    replace hyp := it_neg hc1n hyp
    refine am_aload_n dX12_tellsNothing_7 rfl ?_
    refine am_getR 12 11 57 dX12_tellsNothing_8 fg_X12_20 (sh_54 g) (by decide) rfl (rf_54_11 g) ?_
    refine am_iload_n dX12_tellsNothing_11 rfl ?_
    refine am_iconst 0 (v := 0) dX12_tellsNothing_12 (by decide) ?_
    obtain ⟨hg2, hyp⟩ := gd_some hyp
    refine am_iast dX12_tellsNothing_13 (am_ia.one (sh_57 g)) (am_lit hg2) ?_
    refine am_iinc dX12_tellsNothing_14 rfl (am_ix _) ?_
    change am_At _ _ _ 17 [_, _] [] _ _
    refine am_goto (-15) 2 dX12_tellsNothing_17 rfl ?_
    cases hyp
    exact hx
theorem ef_X12_tellsNothing {d : Nat} {h : am_H} (g : lay h) {M : Mem} {M' : Mem} (hyp : f_X12_tellsNothing M = some M') : am_Ev (d + 0) mX12_tellsNothing [.inr (54, 0)] (am_hM h M) (.inl (none, am_hM h M')) := by
  unfold f_X12_tellsNothing at hyp
  refine am_Ev.mk (by decide +kernel) rfl rfl (Nat.le_refl _) (Nat.le_refl _) ?_
  change am_At _ _ _ 0 [_, _] [] _ _
  refine am_iconst 0 (v := 0) dX12_tellsNothing_0 (by decide) ?_
  refine am_istore_n dX12_tellsNothing_1 (am_lb rfl) ?_
  change am_At _ _ _ 2 [_, _] [] _ _
  obtain ⟨M3, hw3, hyp⟩ := bd_some hyp
  try dsimp only at hyp
  refine eL_X12_tellsNothing_2 (d := d) (h := h) g  FU ((0 : Int32), M) M3 hw3 ?_
  change am_At _ _ _ 20 [_, _] [] _ _
  refine am_aload_n dX12_tellsNothing_20 rfl ?_
  refine am_getR 12 11 57 dX12_tellsNothing_21 fg_X12_20 (sh_54 g) (by decide) rfl (rf_54_11 g) ?_
  refine am_iconst 3 (v := 3) dX12_tellsNothing_24 (by decide) ?_
  refine am_iconst 2 (v := 2) dX12_tellsNothing_25 (by decide) ?_
  refine am_iast dX12_tellsNothing_26 (am_ia.one (sh_57 g)) (am_lit rfl) ?_
  refine am_aload_n dX12_tellsNothing_27 rfl ?_
  refine am_getR 12 11 57 dX12_tellsNothing_28 fg_X12_20 (sh_54 g) (by decide) rfl (rf_54_11 g) ?_
  refine am_iconst 4 (v := 4) dX12_tellsNothing_31 (by decide) ?_
  refine am_iconst 2 (v := 2) dX12_tellsNothing_32 (by decide) ?_
  refine am_iast dX12_tellsNothing_33 (am_ia.one (sh_57 g)) (am_lit rfl) ?_
  cases hyp
  exact am_vret dX12_tellsNothing_34 rfl
theorem ef_X12_thrown {d : Nat} {h : am_H} (g : lay h) {M : Mem} {v : Int32} (hyp : f_X12_thrown M = v) : am_Ev (d + 0) mX12_thrown [.inr (54, 0)] (am_hM h M) (.inl (some (am_I v), am_hM h M)) := by
  unfold f_X12_thrown at hyp
  refine am_Ev.mk (by decide +kernel) rfl rfl (Nat.le_refl _) (Nat.le_refl _) ?_
  change am_At _ _ _ 0 [_] [] _ _
  refine am_aload_n dX12_thrown_0 rfl ?_
  refine am_getI 12 0 dX12_thrown_1 fg_X12_103 (sh_54 g) (by decide) rfl ?_
  cases hyp
  exact am_iret dX12_thrown_4 rfl
theorem eL_X12_worst_50 {d : Nat} {h : am_H} (g : lay h) {x4 : Int32} {M : Mem} {r : am_R} (n : Nat) : ∀ (s : Int32 × Int32 × Int32) (e : Int32), wh (L_X12_worst_50 x4 M) n s = some e → ((fun (x2 : Int32) => am_At am_X0 (d + 1) mX12_worst 98 [some (.inr (54, 0)), none, some (am_I (x2)), none, some (am_I (x4)), none] [] (am_hM h M) r) e) → (match s with | (x2, x3, x5) => am_At am_X0 (d + 1) mX12_worst 50 [some (.inr (54, 0)), none, some (am_I (x2)), some (am_I (x3)), some (am_I (x4)), some (am_I (x5))] [] (am_hM h M) r) := by
  refine am_wh (At := fun (s : Int32 × Int32 × Int32) => match s with | (x2, x3, x5) => am_At am_X0 (d + 1) mX12_worst 50 [some (.inr (54, 0)), none, some (am_I (x2)), some (am_I (x3)), some (am_I (x4)), some (am_I (x5))] [] (am_hM h M) r) (Ex := fun (e : Int32) => (fun (x2 : Int32) => am_At am_X0 (d + 1) mX12_worst 98 [some (.inr (54, 0)), none, some (am_I (x2)), none, some (am_I (x4)), none] [] (am_hM h M) r) e) ?_ n
  rintro ⟨x2, x3, x5⟩ y hyp hx
  unfold L_X12_worst_50 at hyp
  try dsimp only at hyp
  change am_At _ _ _ 50 [_, _, _, _, _, _] [] _ _
  refine am_iload dX12_worst_50 rfl ?_
  refine am_aload_n dX12_worst_52 rfl ?_
  refine am_getR 12 12 58 dX12_worst_53 fg_X12_23 (sh_54 g) (by decide) rfl (rf_54_12 g) ?_
  refine am_iconst 0 (v := 0) dX12_worst_56 (by decide) ?_
  refine am_iald dX12_worst_57 (am_ia.one (sh_58 g)) (am_lit rfl) ?_
  refine am_icmp_ge (40) 98 dX12_worst_58 rfl ?_ ?_
  · intro hc5
    have hc5 : (M 58 0 0) ≤ x5 := hc5
    replace hyp := it_pos hc5 hyp
    cases hyp
    refine am_At.drop 3 ?_
    refine am_At.drop 5 ?_
    exact hx
  · intro hc5n
    have hc5n : ¬ ((M 58 0 0) ≤ x5) := hc5n
    replace hyp := it_neg hc5n hyp
    refine am_aload_n dX12_worst_61 rfl ?_
    refine am_getR 12 29 72 dX12_worst_62 fg_X12_67 (sh_54 g) (by decide) rfl (rf_54_29 g) ?_
    refine am_iload dX12_worst_65 rfl ?_
    refine am_iload dX12_worst_67 rfl ?_
    refine am_iadd dX12_worst_69 ?_
    obtain ⟨hg6, hyp⟩ := gd_some hyp
    refine am_iald dX12_worst_70 (am_ia.one (sh_72 g)) (am_lit hg6) ?_
    refine am_iload_n dX12_worst_71 rfl ?_
    refine am_icmp_gt (6) 78 dX12_worst_72 rfl ?_ ?_
    · intro hc7
      have hc7 : x3 < (M 72 0 ((x4 + x5).toNatClampNeg)) := hc7
      replace hyp := it_pos hc7 hyp
      refine am_iload dX12_worst_78 rfl ?_
      refine am_istore_n dX12_worst_80 (am_lb rfl) ?_
      change am_At _ _ _ 81 [_, _, _, _, _, _] [] _ _
      refine am_aload_n dX12_worst_81 rfl ?_
      refine am_getR 12 29 72 dX12_worst_82 fg_X12_67 (sh_54 g) (by decide) rfl (rf_54_29 g) ?_
      refine am_iload dX12_worst_85 rfl ?_
      refine am_iload dX12_worst_87 rfl ?_
      refine am_iadd dX12_worst_89 ?_
      refine am_iald dX12_worst_90 (am_ia.one (sh_72 g)) (am_lit hg6) ?_
      refine am_istore_n dX12_worst_91 (am_lb rfl) ?_
      change am_At _ _ _ 92 [_, _, _, _, _, _] [] _ _
      refine am_iinc dX12_worst_92 rfl (am_ix _) ?_
      change am_At _ _ _ 95 [_, _, _, _, _, _] [] _ _
      refine am_goto (-45) 50 dX12_worst_95 rfl ?_
      cases hyp
      exact hx
    · intro hc7n
      have hc7n : ¬ (x3 < (M 72 0 ((x4 + x5).toNatClampNeg))) := hc7n
      replace hyp := it_neg hc7n hyp
      refine am_goto (17) 92 dX12_worst_75 rfl ?_
      refine am_iinc dX12_worst_92 rfl (am_ix _) ?_
      change am_At _ _ _ 95 [_, _, _, _, _, _] [] _ _
      refine am_goto (-45) 50 dX12_worst_95 rfl ?_
      cases hyp
      exact hx
theorem ef_X12_worst {d : Nat} {h : am_H} (g : lay h) {x1 : Int32} {M : Mem} {v : Int32} {M' : Mem} (hyp : f_X12_worst x1 M = some (v, M')) : am_Ev (d + 1) mX12_worst [.inr (54, 0), am_I x1] (am_hM h M) (.inl (some (am_I v), am_hM h M')) := by
  unfold f_X12_worst at hyp
  refine am_Ev.mk (by decide +kernel) rfl rfl (Nat.le_refl _) (Nat.le_refl _) ?_
  change am_At _ _ _ 0 [_, _, _, _, _, _] [] _ _
  refine am_aload_n dX12_worst_0 rfl ?_
  refine am_iconst 0 (v := 0) dX12_worst_1 (by decide) ?_
  refine am_putI 12 0 dX12_worst_2 (Or.inl fp_X12_103) (sh_54 g) (by decide) rfl rfl rfl ?_
  refine am_aload_n dX12_worst_5 rfl ?_
  refine am_iload_n dX12_worst_6 rfl ?_
  refine am_iconst 0 (v := 0) dX12_worst_7 (by decide) ?_
  refine am_iconst 1 (v := 1) dX12_worst_8 (by decide) ?_
  refine am_callS (c := 0) (k := 0) (n := 0) (w := 0) [_, _, _] dX12_worst_9 ml_X12_137 sm_X12_in rfl (fun _ => Nat.le_of_ble_eq_true rfl) (by omega) rfl (ef_X12_in (d := d + 0) (h := am_hM h (am_u3 M 54 0 0 (0 : Int32))) (x0 := x1) (x1 := (0 : Int32)) (x2 := (1 : Int32))  rfl) rfl ?_
  change am_At _ _ _ 12 [_, _, _, _, _, _] [_, _] _ _
  refine am_if_ne (7) 19 dX12_worst_12 rfl ?_ ?_
  · intro hc1n
    have hc1n : ¬ ((f_X12_in x1 (0 : Int32) (1 : Int32)) = 0) := hc1n
    replace hyp := it_neg hc1n hyp
    refine am_iconst 0 (v := 0) dX12_worst_19 (by decide) ?_
    refine am_iconst 1 (v := 1) dX12_worst_20 (by decide) ?_
    refine am_iconst 1 (v := 1) dX12_worst_21 (by decide) ?_
    obtain ⟨⟨v2, M2⟩, hk2, hyp⟩ := bd_some hyp
    try dsimp only at hyp
    refine am_callV [_, _, _] dX12_worst_22 ml_X12_179 vm_X12_bad (sh_54 g) rfl (fun _ => Nat.le_of_ble_eq_true rfl) (by omega) rfl (ef_X12_bad (d := d + 0) (h := h) g hk2) rfl ?_
    change am_At _ _ _ 25 [_, _, _, _, _, _] [_] _ _
    refine am_if_eq (5) 30 dX12_worst_25 rfl ?_ ?_
    · intro hc3
      have hc3 : v2 = 0 := hc3
      replace hyp := it_pos hc3 hyp
      refine am_iconst (-1) (v := (-1)) dX12_worst_30 (by decide) ?_
      refine am_istore_n dX12_worst_31 (am_lb rfl) ?_
      change am_At _ _ _ 32 [_, _, _, _, _, _] [] _ _
      refine am_iconst 0 (v := 0) dX12_worst_32 (by decide) ?_
      refine am_istore_n dX12_worst_33 (am_lb rfl) ?_
      change am_At _ _ _ 34 [_, _, _, _, _, _] [] _ _
      refine am_iload_n dX12_worst_34 rfl ?_
      refine am_if_ne (8) 43 dX12_worst_35 rfl ?_ ?_
      · intro hc4n
        have hc4n : ¬ (x1 = 0) := hc4n
        replace hyp := it_neg hc4n hyp
        refine am_bipush 32 (v := 32) dX12_worst_43 (by decide) ?_
        refine am_istore dX12_worst_45 (am_lb rfl) ?_
        change am_At _ _ _ 47 [_, _, _, _, _, _] [] _ _
        refine am_iconst 0 (v := 0) dX12_worst_47 (by decide) ?_
        refine am_istore dX12_worst_48 (am_lb rfl) ?_
        change am_At _ _ _ 50 [_, _, _, _, _, _] [] _ _
        obtain ⟨x2_8, hw8, hyp⟩ := bd_some hyp
        refine am_At.drop 1 ?_
        try dsimp only at hyp
        refine eL_X12_worst_50 (d := d) (h := h) g (M := M2) FU ((-1 : Int32), (0 : Int32), (0 : Int32)) x2_8 hw8 ?_
        change am_At _ _ _ 98 [_, _, _, _, _, _] [] _ _
        refine am_iload_n dX12_worst_98 rfl ?_
        cases hyp
        exact am_iret dX12_worst_99 rfl
      · intro hc4
        have hc4 : x1 = 0 := hc4
        replace hyp := it_pos hc4 hyp
        refine am_bipush 16 (v := 16) dX12_worst_38 (by decide) ?_
        refine am_goto (5) 45 dX12_worst_40 rfl ?_
        refine am_istore dX12_worst_45 (am_lb rfl) ?_
        change am_At _ _ _ 47 [_, _, _, _, _, _] [] _ _
        refine am_iconst 0 (v := 0) dX12_worst_47 (by decide) ?_
        refine am_istore dX12_worst_48 (am_lb rfl) ?_
        change am_At _ _ _ 50 [_, _, _, _, _, _] [] _ _
        obtain ⟨x2_9, hw9, hyp⟩ := bd_some hyp
        refine am_At.drop 1 ?_
        try dsimp only at hyp
        refine eL_X12_worst_50 (d := d) (h := h) g (M := M2) FU ((-1 : Int32), (0 : Int32), (0 : Int32)) x2_9 hw9 ?_
        change am_At _ _ _ 98 [_, _, _, _, _, _] [] _ _
        refine am_iload_n dX12_worst_98 rfl ?_
        cases hyp
        exact am_iret dX12_worst_99 rfl
    · intro hc3n
      have hc3n : ¬ (v2 = 0) := hc3n
      replace hyp := it_neg hc3n hyp
      refine am_iconst 0 (v := 0) dX12_worst_28 (by decide) ?_
      cases hyp
      exact am_iret dX12_worst_29 rfl
  · intro hc1
    have hc1 : (f_X12_in x1 (0 : Int32) (1 : Int32)) = 0 := hc1
    replace hyp := it_pos hc1 hyp
    refine am_iconst 1 (v := 1) dX12_worst_15 (by decide) ?_
    refine am_goto (4) 20 dX12_worst_16 rfl ?_
    refine am_iconst 1 (v := 1) dX12_worst_20 (by decide) ?_
    refine am_iconst 1 (v := 1) dX12_worst_21 (by decide) ?_
    obtain ⟨⟨v10, M10⟩, hk10, hyp⟩ := bd_some hyp
    try dsimp only at hyp
    refine am_callV [_, _, _] dX12_worst_22 ml_X12_179 vm_X12_bad (sh_54 g) rfl (fun _ => Nat.le_of_ble_eq_true rfl) (by omega) rfl (ef_X12_bad (d := d + 0) (h := h) g hk10) rfl ?_
    change am_At _ _ _ 25 [_, _, _, _, _, _] [_] _ _
    refine am_if_eq (5) 30 dX12_worst_25 rfl ?_ ?_
    · intro hc11
      have hc11 : v10 = 0 := hc11
      replace hyp := it_pos hc11 hyp
      refine am_iconst (-1) (v := (-1)) dX12_worst_30 (by decide) ?_
      refine am_istore_n dX12_worst_31 (am_lb rfl) ?_
      change am_At _ _ _ 32 [_, _, _, _, _, _] [] _ _
      refine am_iconst 0 (v := 0) dX12_worst_32 (by decide) ?_
      refine am_istore_n dX12_worst_33 (am_lb rfl) ?_
      change am_At _ _ _ 34 [_, _, _, _, _, _] [] _ _
      refine am_iload_n dX12_worst_34 rfl ?_
      refine am_if_ne (8) 43 dX12_worst_35 rfl ?_ ?_
      · intro hc12n
        have hc12n : ¬ (x1 = 0) := hc12n
        replace hyp := it_neg hc12n hyp
        refine am_bipush 32 (v := 32) dX12_worst_43 (by decide) ?_
        refine am_istore dX12_worst_45 (am_lb rfl) ?_
        change am_At _ _ _ 47 [_, _, _, _, _, _] [] _ _
        refine am_iconst 0 (v := 0) dX12_worst_47 (by decide) ?_
        refine am_istore dX12_worst_48 (am_lb rfl) ?_
        change am_At _ _ _ 50 [_, _, _, _, _, _] [] _ _
        obtain ⟨x2_13, hw13, hyp⟩ := bd_some hyp
        refine am_At.drop 1 ?_
        try dsimp only at hyp
        refine eL_X12_worst_50 (d := d) (h := h) g (M := M10) FU ((-1 : Int32), (0 : Int32), (0 : Int32)) x2_13 hw13 ?_
        change am_At _ _ _ 98 [_, _, _, _, _, _] [] _ _
        refine am_iload_n dX12_worst_98 rfl ?_
        cases hyp
        exact am_iret dX12_worst_99 rfl
      · intro hc12
        have hc12 : x1 = 0 := hc12
        replace hyp := it_pos hc12 hyp
        refine am_bipush 16 (v := 16) dX12_worst_38 (by decide) ?_
        refine am_goto (5) 45 dX12_worst_40 rfl ?_
        refine am_istore dX12_worst_45 (am_lb rfl) ?_
        change am_At _ _ _ 47 [_, _, _, _, _, _] [] _ _
        refine am_iconst 0 (v := 0) dX12_worst_47 (by decide) ?_
        refine am_istore dX12_worst_48 (am_lb rfl) ?_
        change am_At _ _ _ 50 [_, _, _, _, _, _] [] _ _
        obtain ⟨x2_14, hw14, hyp⟩ := bd_some hyp
        refine am_At.drop 1 ?_
        try dsimp only at hyp
        refine eL_X12_worst_50 (d := d) (h := h) g (M := M10) FU ((-1 : Int32), (0 : Int32), (0 : Int32)) x2_14 hw14 ?_
        change am_At _ _ _ 98 [_, _, _, _, _, _] [] _ _
        refine am_iload_n dX12_worst_98 rfl ?_
        cases hyp
        exact am_iret dX12_worst_99 rfl
    · intro hc11n
      have hc11n : ¬ (v10 = 0) := hc11n
      replace hyp := it_neg hc11n hyp
      refine am_iconst 0 (v := 0) dX12_worst_28 (by decide) ?_
      cases hyp
      exact am_iret dX12_worst_29 rfl
theorem ef_X12_wrong {d : Nat} {h : am_H} (g : lay h) {x1 x2 : Int32} {M : Mem} {M' : Mem} (hyp : f_X12_wrong x1 x2 M = M') : am_Ev (d + 0) mX12_wrong [.inr (54, 0), am_I x1, am_I x2] (am_hM h M) (.inl (none, am_hM h M')) := by
  unfold f_X12_wrong at hyp
  refine am_Ev.mk (by decide +kernel) rfl rfl (Nat.le_refl _) (Nat.le_refl _) ?_
  change am_At _ _ _ 0 [_, _, _] [] _ _
  refine am_aload_n dX12_wrong_0 rfl ?_
  refine am_getI 12 5 dX12_wrong_1 fg_X12_119 (sh_54 g) (by decide) rfl ?_
  refine am_if_ne (13) 17 dX12_wrong_4 rfl ?_ ?_
  · intro hc1n
    have hc1n : ¬ ((M 54 0 5) = 0) := hc1n
    replace hyp := it_neg hc1n hyp
    cases hyp
    exact am_vret dX12_wrong_17 rfl
  · intro hc1
    have hc1 : (M 54 0 5) = 0 := hc1
    replace hyp := it_pos hc1 hyp
    refine am_aload_n dX12_wrong_7 rfl ?_
    refine am_iload_n dX12_wrong_8 rfl ?_
    refine am_putI 12 5 dX12_wrong_9 (Or.inl fp_X12_119) (sh_54 g) (by decide) rfl rfl rfl ?_
    refine am_aload_n dX12_wrong_12 rfl ?_
    refine am_iload_n dX12_wrong_13 rfl ?_
    refine am_putI 12 6 dX12_wrong_14 (Or.inl fp_X12_122) (sh_54 g) (by decide) rfl rfl rfl ?_
    cases hyp
    exact am_vret dX12_wrong_17 rfl
theorem eL_X1_bearing_4 {d : Nat} {h : am_H} (g : lay h) {x1 : Int32} {M : Mem} {r : am_R} (n : Nat) : ∀ (s : Int32 × Int32) (e : Int32), wh (L_X1_bearing_4 x1 M) n s = some e → ((fun (x2 : Int32) => am_At am_X0 (d + 0) mX1_bearing 38 [some (.inr (3, 0)), some (am_I (x1)), some (am_I (x2)), none] [] (am_hM h M) r) e) → (match s with | (x2, x3) => am_At am_X0 (d + 0) mX1_bearing 4 [some (.inr (3, 0)), some (am_I (x1)), some (am_I (x2)), some (am_I (x3))] [] (am_hM h M) r) := by
  refine am_wh (At := fun (s : Int32 × Int32) => match s with | (x2, x3) => am_At am_X0 (d + 0) mX1_bearing 4 [some (.inr (3, 0)), some (am_I (x1)), some (am_I (x2)), some (am_I (x3))] [] (am_hM h M) r) (Ex := fun (e : Int32) => (fun (x2 : Int32) => am_At am_X0 (d + 0) mX1_bearing 38 [some (.inr (3, 0)), some (am_I (x1)), some (am_I (x2)), none] [] (am_hM h M) r) e) ?_ n
  rintro ⟨x2, x3⟩ y hyp hx
  unfold L_X1_bearing_4 at hyp
  try dsimp only at hyp
  change am_At _ _ _ 4 [_, _, _, _] [] _ _
  refine am_iload_n dX1_bearing_4 rfl ?_
  refine am_aload_n dX1_bearing_5 rfl ?_
  refine am_getI 1 0 dX1_bearing_6 fg_X1_46 (sh_3 g) (by decide) rfl ?_
  refine am_icmp_ge (29) 38 dX1_bearing_9 rfl ?_ ?_
  · intro hc1
    have hc1 : (M 3 0 0) ≤ x3 := hc1
    replace hyp := it_pos hc1 hyp
    cases hyp
    refine am_At.drop 3 ?_
    exact hx
  · intro hc1n
    have hc1n : ¬ ((M 3 0 0) ≤ x3) := hc1n
    replace hyp := it_neg hc1n hyp
    refine am_iload_n dX1_bearing_12 rfl ?_
    refine am_aload_n dX1_bearing_13 rfl ?_
    refine am_getR 1 2 5 dX1_bearing_14 fg_X1_15 (sh_3 g) (by decide) rfl (rf_3_2 g) ?_
    refine am_iload_n dX1_bearing_17 rfl ?_
    obtain ⟨hg2, hyp⟩ := gd_some hyp
    refine am_iald dX1_bearing_18 (am_ia.one (sh_5 g)) (am_lit hg2) ?_
    refine am_iload_n dX1_bearing_19 rfl ?_
    refine am_icmp_lt (9) 29 dX1_bearing_20 rfl ?_ ?_
    · intro hc3
      have hc3 : (M 5 0 x3.toNatClampNeg) < x1 := hc3
      replace hyp := it_pos hc3 hyp
      refine am_iconst 0 (v := 0) dX1_bearing_29 (by decide) ?_
      refine am_ior dX1_bearing_30 ?_
      refine am_istore_n dX1_bearing_31 (am_lb rfl) ?_
      change am_At _ _ _ 32 [_, _, _, _] [] _ _
      refine am_iinc dX1_bearing_32 rfl (am_ix _) ?_
      change am_At _ _ _ 35 [_, _, _, _] [] _ _
      refine am_goto (-31) 4 dX1_bearing_35 rfl ?_
      cases hyp
      exact hx
    · intro hc3n
      have hc3n : ¬ ((M 5 0 x3.toNatClampNeg) < x1) := hc3n
      replace hyp := it_neg hc3n hyp
      refine am_iconst 1 (v := 1) dX1_bearing_23 (by decide) ?_
      refine am_iload_n dX1_bearing_24 rfl ?_
      refine am_ishl dX1_bearing_25 ?_
      refine am_goto (4) 30 dX1_bearing_26 rfl ?_
      refine am_ior dX1_bearing_30 ?_
      refine am_istore_n dX1_bearing_31 (am_lb rfl) ?_
      change am_At _ _ _ 32 [_, _, _, _] [] _ _
      refine am_iinc dX1_bearing_32 rfl (am_ix _) ?_
      change am_At _ _ _ 35 [_, _, _, _] [] _ _
      refine am_goto (-31) 4 dX1_bearing_35 rfl ?_
      cases hyp
      exact hx
theorem ef_X1_bearing {d : Nat} {h : am_H} (g : lay h) {x1 : Int32} {M : Mem} {v : Int32} (hyp : f_X1_bearing x1 M = some v) : am_Ev (d + 0) mX1_bearing [.inr (3, 0), am_I x1] (am_hM h M) (.inl (some (am_I v), am_hM h M)) := by
  unfold f_X1_bearing at hyp
  refine am_Ev.mk (by decide +kernel) rfl rfl (Nat.le_refl _) (Nat.le_refl _) ?_
  change am_At _ _ _ 0 [_, _, _, _] [] _ _
  refine am_iconst 0 (v := 0) dX1_bearing_0 (by decide) ?_
  refine am_istore_n dX1_bearing_1 (am_lb rfl) ?_
  change am_At _ _ _ 2 [_, _, _, _] [] _ _
  refine am_iconst 0 (v := 0) dX1_bearing_2 (by decide) ?_
  refine am_istore_n dX1_bearing_3 (am_lb rfl) ?_
  change am_At _ _ _ 4 [_, _, _, _] [] _ _
  obtain ⟨x2_4, hw4, hyp⟩ := bd_some hyp
  try dsimp only at hyp
  refine eL_X1_bearing_4 (d := d) (h := h) g (M := M) FU ((0 : Int32), (0 : Int32)) x2_4 hw4 ?_
  change am_At _ _ _ 38 [_, _, _, _] [] _ _
  refine am_iload_n dX1_bearing_38 rfl ?_
  cases hyp
  exact am_iret dX1_bearing_39 rfl
theorem ef_X1_copyFrom {d : Nat} {h : am_H} (g : lay h) {M : Mem} {M' : Mem} (hyp : f_X1_copyFrom M = M') : am_Ev (d + 0) mX1_copyFrom [.inr (3, 0), .inr (13, 0)] (am_hM h M) (.inl (none, am_hM h M')) := by
  unfold f_X1_copyFrom at hyp
  refine am_Ev.mk (by decide +kernel) rfl rfl (Nat.le_refl _) (Nat.le_refl _) ?_
  change am_At _ _ _ 0 [_, _] [] _ _
  refine am_aload_n dX1_copyFrom_0 rfl ?_
  refine am_aload_n dX1_copyFrom_1 rfl ?_
  refine am_getI 1 0 dX1_copyFrom_2 fg_X1_46 (sh_13 g) (by decide) rfl ?_
  refine am_putI 1 0 dX1_copyFrom_5 (Or.inl fp_X1_46) (sh_3 g) (by decide) rfl rfl rfl ?_
  refine am_aload_n dX1_copyFrom_8 rfl ?_
  refine am_aload_n dX1_copyFrom_9 rfl ?_
  refine am_getI 1 5 dX1_copyFrom_10 fg_X1_49 (sh_13 g) (by decide) rfl ?_
  refine am_putI 1 5 dX1_copyFrom_13 (Or.inl fp_X1_49) (sh_3 g) (by decide) rfl rfl rfl ?_
  refine am_aload_n dX1_copyFrom_16 rfl ?_
  refine am_aload_n dX1_copyFrom_17 rfl ?_
  refine am_getI 1 8 dX1_copyFrom_18 fg_X1_52 (sh_13 g) (by decide) rfl ?_
  refine am_putI 1 8 dX1_copyFrom_21 (Or.inl fp_X1_52) (sh_3 g) (by decide) rfl rfl rfl ?_
  refine am_aload_n dX1_copyFrom_24 rfl ?_
  refine am_aload_n dX1_copyFrom_25 rfl ?_
  refine am_getI 1 12 dX1_copyFrom_26 fg_X1_39 (sh_13 g) (by decide) rfl ?_
  refine am_putI 1 12 dX1_copyFrom_29 (Or.inl fp_X1_39) (sh_3 g) (by decide) rfl rfl rfl ?_
  refine am_aload_n dX1_copyFrom_32 rfl ?_
  refine am_aload_n dX1_copyFrom_33 rfl ?_
  refine am_getI 1 13 dX1_copyFrom_34 fg_X1_43 (sh_13 g) (by decide) rfl ?_
  refine am_putI 1 13 dX1_copyFrom_37 (Or.inl fp_X1_43) (sh_3 g) (by decide) rfl rfl rfl ?_
  refine am_aload_n dX1_copyFrom_40 rfl ?_
  refine am_getR 1 1 14 dX1_copyFrom_41 fg_X1_9 (sh_13 g) (by decide) rfl (rf_13_1 g) ?_
  refine am_iconst 0 (v := 0) dX1_copyFrom_44 (by decide) ?_
  refine am_aload_n dX1_copyFrom_45 rfl ?_
  refine am_getR 1 1 4 dX1_copyFrom_46 fg_X1_9 (sh_3 g) (by decide) rfl (rf_3_1 g) ?_
  refine am_iconst 0 (v := 0) dX1_copyFrom_49 (by decide) ?_
  refine am_bipush 16 (v := 16) dX1_copyFrom_50 (by decide) ?_
  refine am_copy dX1_copyFrom_52 ml_X1_55 (am_ia.one (sh_14 g)) (am_ia.one (sh_4 g)) (by decide) (by decide) (by decide) (by decide) (by decide) (fun _ => Nat.le_of_ble_eq_true rfl) ?_
  change am_At _ _ _ 55 [_, _] [] (am_hM h (am_cp (am_u3 (am_u3 (am_u3 (am_u3 (am_u3 M 3 0 0 (M 13 0 0)) 3 0 5 (M 13 0 5)) 3 0 8 (M 13 0 8)) 3 0 12 (M 13 0 12)) 3 0 13 (M 13 0 13)) 14 0 0 4 0 0 16)) _
  refine am_aload_n dX1_copyFrom_55 rfl ?_
  refine am_getR 1 2 15 dX1_copyFrom_56 fg_X1_15 (sh_13 g) (by decide) rfl (rf_13_2 g) ?_
  refine am_iconst 0 (v := 0) dX1_copyFrom_59 (by decide) ?_
  refine am_aload_n dX1_copyFrom_60 rfl ?_
  refine am_getR 1 2 5 dX1_copyFrom_61 fg_X1_15 (sh_3 g) (by decide) rfl (rf_3_2 g) ?_
  refine am_iconst 0 (v := 0) dX1_copyFrom_64 (by decide) ?_
  refine am_bipush 16 (v := 16) dX1_copyFrom_65 (by decide) ?_
  refine am_copy dX1_copyFrom_67 ml_X1_55 (am_ia.one (sh_15 g)) (am_ia.one (sh_5 g)) (by decide) (by decide) (by decide) (by decide) (by decide) (fun _ => Nat.le_of_ble_eq_true rfl) ?_
  change am_At _ _ _ 70 [_, _] [] (am_hM h (am_cp (am_cp (am_u3 (am_u3 (am_u3 (am_u3 (am_u3 M 3 0 0 (M 13 0 0)) 3 0 5 (M 13 0 5)) 3 0 8 (M 13 0 8)) 3 0 12 (M 13 0 12)) 3 0 13 (M 13 0 13)) 14 0 0 4 0 0 16) 15 0 0 5 0 0 16)) _
  refine am_aload_n dX1_copyFrom_70 rfl ?_
  refine am_getR 1 3 16 dX1_copyFrom_71 fg_X1_18 (sh_13 g) (by decide) rfl (rf_13_3 g) ?_
  refine am_iconst 0 (v := 0) dX1_copyFrom_74 (by decide) ?_
  refine am_aload_n dX1_copyFrom_75 rfl ?_
  refine am_getR 1 3 6 dX1_copyFrom_76 fg_X1_18 (sh_3 g) (by decide) rfl (rf_3_3 g) ?_
  refine am_iconst 0 (v := 0) dX1_copyFrom_79 (by decide) ?_
  refine am_bipush 16 (v := 16) dX1_copyFrom_80 (by decide) ?_
  refine am_copy dX1_copyFrom_82 ml_X1_55 (am_ia.one (sh_16 g)) (am_ia.one (sh_6 g)) (by decide) (by decide) (by decide) (by decide) (by decide) (fun _ => Nat.le_of_ble_eq_true rfl) ?_
  change am_At _ _ _ 85 [_, _] [] (am_hM h (am_cp (am_cp (am_cp (am_u3 (am_u3 (am_u3 (am_u3 (am_u3 M 3 0 0 (M 13 0 0)) 3 0 5 (M 13 0 5)) 3 0 8 (M 13 0 8)) 3 0 12 (M 13 0 12)) 3 0 13 (M 13 0 13)) 14 0 0 4 0 0 16) 15 0 0 5 0 0 16) 16 0 0 6 0 0 16)) _
  refine am_aload_n dX1_copyFrom_85 rfl ?_
  refine am_getR 1 4 17 dX1_copyFrom_86 fg_X1_21 (sh_13 g) (by decide) rfl (rf_13_4 g) ?_
  refine am_iconst 0 (v := 0) dX1_copyFrom_89 (by decide) ?_
  refine am_aload_n dX1_copyFrom_90 rfl ?_
  refine am_getR 1 4 7 dX1_copyFrom_91 fg_X1_21 (sh_3 g) (by decide) rfl (rf_3_4 g) ?_
  refine am_iconst 0 (v := 0) dX1_copyFrom_94 (by decide) ?_
  refine am_bipush 16 (v := 16) dX1_copyFrom_95 (by decide) ?_
  refine am_copy dX1_copyFrom_97 ml_X1_55 (am_ia.one (sh_17 g)) (am_ia.one (sh_7 g)) (by decide) (by decide) (by decide) (by decide) (by decide) (fun _ => Nat.le_of_ble_eq_true rfl) ?_
  change am_At _ _ _ 100 [_, _] [] (am_hM h (am_cp (am_cp (am_cp (am_cp (am_u3 (am_u3 (am_u3 (am_u3 (am_u3 M 3 0 0 (M 13 0 0)) 3 0 5 (M 13 0 5)) 3 0 8 (M 13 0 8)) 3 0 12 (M 13 0 12)) 3 0 13 (M 13 0 13)) 14 0 0 4 0 0 16) 15 0 0 5 0 0 16) 16 0 0 6 0 0 16) 17 0 0 7 0 0 16)) _
  refine am_aload_n dX1_copyFrom_100 rfl ?_
  refine am_getR 1 6 18 dX1_copyFrom_101 fg_X1_24 (sh_13 g) (by decide) rfl (rf_13_6 g) ?_
  refine am_iconst 0 (v := 0) dX1_copyFrom_104 (by decide) ?_
  refine am_aload_n dX1_copyFrom_105 rfl ?_
  refine am_getR 1 6 8 dX1_copyFrom_106 fg_X1_24 (sh_3 g) (by decide) rfl (rf_3_6 g) ?_
  refine am_iconst 0 (v := 0) dX1_copyFrom_109 (by decide) ?_
  refine am_iconst 4 (v := 4) dX1_copyFrom_110 (by decide) ?_
  refine am_copy dX1_copyFrom_111 ml_X1_55 (am_ia.one (sh_18 g)) (am_ia.one (sh_8 g)) (by decide) (by decide) (by decide) (by decide) (by decide) (fun _ => Nat.le_of_ble_eq_true rfl) ?_
  change am_At _ _ _ 114 [_, _] [] (am_hM h (am_cp (am_cp (am_cp (am_cp (am_cp (am_u3 (am_u3 (am_u3 (am_u3 (am_u3 M 3 0 0 (M 13 0 0)) 3 0 5 (M 13 0 5)) 3 0 8 (M 13 0 8)) 3 0 12 (M 13 0 12)) 3 0 13 (M 13 0 13)) 14 0 0 4 0 0 16) 15 0 0 5 0 0 16) 16 0 0 6 0 0 16) 17 0 0 7 0 0 16) 18 0 0 8 0 0 4)) _
  refine am_aload_n dX1_copyFrom_114 rfl ?_
  refine am_getR 1 7 19 dX1_copyFrom_115 fg_X1_27 (sh_13 g) (by decide) rfl (rf_13_7 g) ?_
  refine am_iconst 0 (v := 0) dX1_copyFrom_118 (by decide) ?_
  refine am_aload_n dX1_copyFrom_119 rfl ?_
  refine am_getR 1 7 9 dX1_copyFrom_120 fg_X1_27 (sh_3 g) (by decide) rfl (rf_3_7 g) ?_
  refine am_iconst 0 (v := 0) dX1_copyFrom_123 (by decide) ?_
  refine am_iconst 4 (v := 4) dX1_copyFrom_124 (by decide) ?_
  refine am_copy dX1_copyFrom_125 ml_X1_55 (am_ia.one (sh_19 g)) (am_ia.one (sh_9 g)) (by decide) (by decide) (by decide) (by decide) (by decide) (fun _ => Nat.le_of_ble_eq_true rfl) ?_
  change am_At _ _ _ 128 [_, _] [] (am_hM h (am_cp (am_cp (am_cp (am_cp (am_cp (am_cp (am_u3 (am_u3 (am_u3 (am_u3 (am_u3 M 3 0 0 (M 13 0 0)) 3 0 5 (M 13 0 5)) 3 0 8 (M 13 0 8)) 3 0 12 (M 13 0 12)) 3 0 13 (M 13 0 13)) 14 0 0 4 0 0 16) 15 0 0 5 0 0 16) 16 0 0 6 0 0 16) 17 0 0 7 0 0 16) 18 0 0 8 0 0 4) 19 0 0 9 0 0 4)) _
  refine am_aload_n dX1_copyFrom_128 rfl ?_
  refine am_getR 1 9 20 dX1_copyFrom_129 fg_X1_30 (sh_13 g) (by decide) rfl (rf_13_9 g) ?_
  refine am_iconst 0 (v := 0) dX1_copyFrom_132 (by decide) ?_
  refine am_aload_n dX1_copyFrom_133 rfl ?_
  refine am_getR 1 9 10 dX1_copyFrom_134 fg_X1_30 (sh_3 g) (by decide) rfl (rf_3_9 g) ?_
  refine am_iconst 0 (v := 0) dX1_copyFrom_137 (by decide) ?_
  refine am_bipush 8 (v := 8) dX1_copyFrom_138 (by decide) ?_
  refine am_copy dX1_copyFrom_140 ml_X1_55 (am_ia.one (sh_20 g)) (am_ia.one (sh_10 g)) (by decide) (by decide) (by decide) (by decide) (by decide) (fun _ => Nat.le_of_ble_eq_true rfl) ?_
  change am_At _ _ _ 143 [_, _] [] (am_hM h (am_cp (am_cp (am_cp (am_cp (am_cp (am_cp (am_cp (am_u3 (am_u3 (am_u3 (am_u3 (am_u3 M 3 0 0 (M 13 0 0)) 3 0 5 (M 13 0 5)) 3 0 8 (M 13 0 8)) 3 0 12 (M 13 0 12)) 3 0 13 (M 13 0 13)) 14 0 0 4 0 0 16) 15 0 0 5 0 0 16) 16 0 0 6 0 0 16) 17 0 0 7 0 0 16) 18 0 0 8 0 0 4) 19 0 0 9 0 0 4) 20 0 0 10 0 0 8)) _
  refine am_aload_n dX1_copyFrom_143 rfl ?_
  refine am_getR 1 10 21 dX1_copyFrom_144 fg_X1_33 (sh_13 g) (by decide) rfl (rf_13_10 g) ?_
  refine am_iconst 0 (v := 0) dX1_copyFrom_147 (by decide) ?_
  refine am_aload_n dX1_copyFrom_148 rfl ?_
  refine am_getR 1 10 11 dX1_copyFrom_149 fg_X1_33 (sh_3 g) (by decide) rfl (rf_3_10 g) ?_
  refine am_iconst 0 (v := 0) dX1_copyFrom_152 (by decide) ?_
  refine am_bipush 8 (v := 8) dX1_copyFrom_153 (by decide) ?_
  refine am_copy dX1_copyFrom_155 ml_X1_55 (am_ia.one (sh_21 g)) (am_ia.one (sh_11 g)) (by decide) (by decide) (by decide) (by decide) (by decide) (fun _ => Nat.le_of_ble_eq_true rfl) ?_
  change am_At _ _ _ 158 [_, _] [] (am_hM h (am_cp (am_cp (am_cp (am_cp (am_cp (am_cp (am_cp (am_cp (am_u3 (am_u3 (am_u3 (am_u3 (am_u3 M 3 0 0 (M 13 0 0)) 3 0 5 (M 13 0 5)) 3 0 8 (M 13 0 8)) 3 0 12 (M 13 0 12)) 3 0 13 (M 13 0 13)) 14 0 0 4 0 0 16) 15 0 0 5 0 0 16) 16 0 0 6 0 0 16) 17 0 0 7 0 0 16) 18 0 0 8 0 0 4) 19 0 0 9 0 0 4) 20 0 0 10 0 0 8) 21 0 0 11 0 0 8)) _
  refine am_aload_n dX1_copyFrom_158 rfl ?_
  refine am_getR 1 11 22 dX1_copyFrom_159 fg_X1_36 (sh_13 g) (by decide) rfl (rf_13_11 g) ?_
  refine am_iconst 0 (v := 0) dX1_copyFrom_162 (by decide) ?_
  refine am_aload_n dX1_copyFrom_163 rfl ?_
  refine am_getR 1 11 12 dX1_copyFrom_164 fg_X1_36 (sh_3 g) (by decide) rfl (rf_3_11 g) ?_
  refine am_iconst 0 (v := 0) dX1_copyFrom_167 (by decide) ?_
  refine am_bipush 8 (v := 8) dX1_copyFrom_168 (by decide) ?_
  refine am_copy dX1_copyFrom_170 ml_X1_55 (am_ia.one (sh_22 g)) (am_ia.one (sh_12 g)) (by decide) (by decide) (by decide) (by decide) (by decide) (fun _ => Nat.le_of_ble_eq_true rfl) ?_
  change am_At _ _ _ 173 [_, _] [] (am_hM h (am_cp (am_cp (am_cp (am_cp (am_cp (am_cp (am_cp (am_cp (am_cp (am_u3 (am_u3 (am_u3 (am_u3 (am_u3 M 3 0 0 (M 13 0 0)) 3 0 5 (M 13 0 5)) 3 0 8 (M 13 0 8)) 3 0 12 (M 13 0 12)) 3 0 13 (M 13 0 13)) 14 0 0 4 0 0 16) 15 0 0 5 0 0 16) 16 0 0 6 0 0 16) 17 0 0 7 0 0 16) 18 0 0 8 0 0 4) 19 0 0 9 0 0 4) 20 0 0 10 0 0 8) 21 0 0 11 0 0 8) 22 0 0 12 0 0 8)) _
  cases hyp
  exact am_vret dX1_copyFrom_173 rfl
theorem ef_X1_hoursTo {d : Nat} {h : am_H} (g : lay h) {x1 : Int32} {M : Mem} {v : Int32} (hyp : f_X1_hoursTo x1 M = some v) : am_Ev (d + 0) mX1_hoursTo [.inr (3, 0), am_I x1] (am_hM h M) (.inl (some (am_I v), am_hM h M)) := by
  unfold f_X1_hoursTo at hyp
  refine am_Ev.mk (by decide +kernel) rfl rfl (Nat.le_refl _) (Nat.le_refl _) ?_
  change am_At _ _ _ 0 [_, _] [] _ _
  refine am_aload_n dX1_hoursTo_0 rfl ?_
  refine am_getI 1 12 dX1_hoursTo_1 fg_X1_39 (sh_3 g) (by decide) rfl ?_
  refine am_if_le (12) 16 dX1_hoursTo_4 rfl ?_ ?_
  · intro hc1
    have hc1 : (M 3 0 12) ≤ 0 := hc1
    replace hyp := it_pos hc1 hyp
    refine am_iconst 0 (v := 0) dX1_hoursTo_16 (by decide) ?_
    cases hyp
    exact am_iret dX1_hoursTo_17 rfl
  · intro hc1n
    have hc1n : ¬ ((M 3 0 12) ≤ 0) := hc1n
    replace hyp := it_neg hc1n hyp
    refine am_iload_n dX1_hoursTo_7 rfl ?_
    refine am_aload_n dX1_hoursTo_8 rfl ?_
    refine am_getI 1 12 dX1_hoursTo_9 fg_X1_39 (sh_3 g) (by decide) rfl ?_
    obtain ⟨hg2, hyp⟩ := gd_some hyp
    refine am_idiv dX1_hoursTo_12 hg2 ?_
    refine am_goto (4) 17 dX1_hoursTo_13 rfl ?_
    cases hyp
    exact am_iret dX1_hoursTo_17 rfl
theorem eL_X1_isDrained_10 {d : Nat} {h : am_H} (g : lay h) {x1 x2 : Int32} {M : Mem} {r : am_R} (n : Nat) : ∀ (s : Int32 × Int32) (e : Int32), wh (L_X1_isDrained_10 x1 x2 M) n s = some e → ((fun (x3 : Int32) => am_At am_X0 (d + 1) mX1_isDrained 50 [some (.inr (3, 0)), some (am_I (x1)), some (am_I (x2)), some (am_I (x3)), none] [] (am_hM h M) r) e) → (match s with | (x3, x4) => am_At am_X0 (d + 1) mX1_isDrained 10 [some (.inr (3, 0)), some (am_I (x1)), some (am_I (x2)), some (am_I (x3)), some (am_I (x4))] [] (am_hM h M) r) := by
  refine am_wh (At := fun (s : Int32 × Int32) => match s with | (x3, x4) => am_At am_X0 (d + 1) mX1_isDrained 10 [some (.inr (3, 0)), some (am_I (x1)), some (am_I (x2)), some (am_I (x3)), some (am_I (x4))] [] (am_hM h M) r) (Ex := fun (e : Int32) => (fun (x3 : Int32) => am_At am_X0 (d + 1) mX1_isDrained 50 [some (.inr (3, 0)), some (am_I (x1)), some (am_I (x2)), some (am_I (x3)), none] [] (am_hM h M) r) e) ?_ n
  rintro ⟨x3, x4⟩ y hyp hx
  unfold L_X1_isDrained_10 at hyp
  try dsimp only at hyp
  change am_At _ _ _ 10 [_, _, _, _, _] [] _ _
  refine am_iload dX1_isDrained_10 rfl ?_
  refine am_aload_n dX1_isDrained_12 rfl ?_
  refine am_getR 1 10 11 dX1_isDrained_13 fg_X1_33 (sh_3 g) (by decide) rfl (rf_3_10 g) ?_
  refine am_iload_n dX1_isDrained_16 rfl ?_
  obtain ⟨hg2, hyp⟩ := gd_some hyp
  refine am_iald dX1_isDrained_17 (am_ia.one (sh_11 g)) (am_lit hg2) ?_
  refine am_icmp_gt (32) 50 dX1_isDrained_18 rfl ?_ ?_
  · intro hc3
    have hc3 : (M 11 0 x1.toNatClampNeg) < x4 := hc3
    replace hyp := it_pos hc3 hyp
    cases hyp
    refine am_At.drop 4 ?_
    exact hx
  · intro hc3n
    have hc3n : ¬ ((M 11 0 x1.toNatClampNeg) < x4) := hc3n
    replace hyp := it_neg hc3n hyp
    refine am_iload_n dX1_isDrained_21 rfl ?_
    refine am_iload_n dX1_isDrained_22 rfl ?_
    refine am_iload dX1_isDrained_23 rfl ?_
    refine am_callSN (c := 0) (k := 0) (n := 0) (w := 0) [_, _] dX1_isDrained_25 ml_X1_111 sm_X11_isBitOf rfl (fun _ => Nat.le_of_ble_eq_true rfl) (by omega) rfl (ef_X11_isBitOf (d := d + 0) (h := am_hM h M) (x0 := x2) (x1 := x4)  rfl) rfl ?_
    change am_At _ _ _ 28 [_, _, _, _, _] [_, _] _ _
    refine am_if_eq (13) 41 dX1_isDrained_28 rfl ?_ ?_
    · intro hc4
      have hc4 : (f_X11_isBitOf x2 x4) = 0 := hc4
      replace hyp := it_pos hc4 hyp
      refine am_iconst 0 (v := 0) dX1_isDrained_41 (by decide) ?_
      refine am_iadd dX1_isDrained_42 ?_
      refine am_istore_n dX1_isDrained_43 (am_lb rfl) ?_
      change am_At _ _ _ 44 [_, _, _, _, _] [] _ _
      refine am_iinc dX1_isDrained_44 rfl (am_ix _) ?_
      change am_At _ _ _ 47 [_, _, _, _, _] [] _ _
      refine am_goto (-37) 10 dX1_isDrained_47 rfl ?_
      cases hyp
      exact hx
    · intro hc4n
      have hc4n : ¬ ((f_X11_isBitOf x2 x4) = 0) := hc4n
      replace hyp := it_neg hc4n hyp
      refine am_aload_n dX1_isDrained_31 rfl ?_
      refine am_getR 1 3 6 dX1_isDrained_32 fg_X1_18 (sh_3 g) (by decide) rfl (rf_3_3 g) ?_
      refine am_iload dX1_isDrained_35 rfl ?_
      obtain ⟨hg5, hyp⟩ := gd_some hyp
      refine am_iald dX1_isDrained_37 (am_ia.one (sh_6 g)) (am_lit hg5) ?_
      refine am_goto (4) 42 dX1_isDrained_38 rfl ?_
      refine am_iadd dX1_isDrained_42 ?_
      refine am_istore_n dX1_isDrained_43 (am_lb rfl) ?_
      change am_At _ _ _ 44 [_, _, _, _, _] [] _ _
      refine am_iinc dX1_isDrained_44 rfl (am_ix _) ?_
      change am_At _ _ _ 47 [_, _, _, _, _] [] _ _
      refine am_goto (-37) 10 dX1_isDrained_47 rfl ?_
      cases hyp
      exact hx
theorem ef_X1_isDrained {d : Nat} {h : am_H} (g : lay h) {x1 x2 : Int32} {M : Mem} {v : Int32} (hyp : f_X1_isDrained x1 x2 M = some v) : am_Ev (d + 1) mX1_isDrained [.inr (3, 0), am_I x1, am_I x2] (am_hM h M) (.inl (some (am_I v), am_hM h M)) := by
  unfold f_X1_isDrained at hyp
  refine am_Ev.mk (by decide +kernel) rfl rfl (Nat.le_refl _) (Nat.le_refl _) ?_
  change am_At _ _ _ 0 [_, _, _, _, _] [] _ _
  refine am_iconst 0 (v := 0) dX1_isDrained_0 (by decide) ?_
  refine am_istore_n dX1_isDrained_1 (am_lb rfl) ?_
  change am_At _ _ _ 2 [_, _, _, _, _] [] _ _
  refine am_aload_n dX1_isDrained_2 rfl ?_
  refine am_getR 1 9 10 dX1_isDrained_3 fg_X1_30 (sh_3 g) (by decide) rfl (rf_3_9 g) ?_
  refine am_iload_n dX1_isDrained_6 rfl ?_
  obtain ⟨hg1, hyp⟩ := gd_some hyp
  refine am_iald dX1_isDrained_7 (am_ia.one (sh_10 g)) (am_lit hg1) ?_
  refine am_istore dX1_isDrained_8 (am_lb rfl) ?_
  change am_At _ _ _ 10 [_, _, _, _, _] [] _ _
  obtain ⟨x3_6, hw6, hyp⟩ := bd_some hyp
  try dsimp only at hyp
  refine eL_X1_isDrained_10 (d := d) (h := h) g (M := M) FU ((0 : Int32), M 10 0 x1.toNatClampNeg) x3_6 hw6 ?_
  change am_At _ _ _ 50 [_, _, _, _, _] [] _ _
  refine am_iload_n dX1_isDrained_50 rfl ?_
  refine am_aload_n dX1_isDrained_51 rfl ?_
  refine am_getR 1 11 12 dX1_isDrained_52 fg_X1_36 (sh_3 g) (by decide) rfl (rf_3_11 g) ?_
  refine am_iload_n dX1_isDrained_55 rfl ?_
  refine am_iald dX1_isDrained_56 (am_ia.one (sh_12 g)) (am_lit hg1) ?_
  refine am_icmp_lt (7) 64 dX1_isDrained_57 rfl ?_ ?_
  · intro hc7
    have hc7 : x3_6 < (M 12 0 x1.toNatClampNeg) := hc7
    replace hyp := it_pos hc7 hyp
    refine am_iconst 0 (v := 0) dX1_isDrained_64 (by decide) ?_
    cases hyp
    exact am_zret dX1_isDrained_65 rfl rfl
  · intro hc7n
    have hc7n : ¬ (x3_6 < (M 12 0 x1.toNatClampNeg)) := hc7n
    replace hyp := it_neg hc7n hyp
    refine am_iconst 1 (v := 1) dX1_isDrained_60 (by decide) ?_
    refine am_goto (4) 65 dX1_isDrained_61 rfl ?_
    cases hyp
    exact am_zret dX1_isDrained_65 rfl rfl
