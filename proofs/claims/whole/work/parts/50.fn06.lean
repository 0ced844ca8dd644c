theorem eL_X12_sumOf_5_72 {d : Nat} {h : am_H} (g : lay h) {x2 : Int32} {M : Mem} {r : am_R} (n : Nat) : ∀ (s : Int32 × Int32) (e : Int32), wh (L_X12_sumOf_5 72 x2 M) n s = some e → ((fun (x3 : Int32) => am_At am_X0 (d + 0) mX12_sumOf 31 [some (.inr (54, 0)), some (.inr (72, 0)), some (am_I (x2)), some (am_I (x3)), none] [] (am_hM h M) r) e) → (match s with | (x3, x4) => am_At am_X0 (d + 0) mX12_sumOf 5 [some (.inr (54, 0)), some (.inr (72, 0)), some (am_I (x2)), some (am_I (x3)), some (am_I (x4))] [] (am_hM h M) r) := by
  refine am_wh (At := fun (s : Int32 × Int32) => match s with | (x3, x4) => am_At am_X0 (d + 0) mX12_sumOf 5 [some (.inr (54, 0)), some (.inr (72, 0)), some (am_I (x2)), some (am_I (x3)), some (am_I (x4))] [] (am_hM h M) r) (Ex := fun (e : Int32) => (fun (x3 : Int32) => am_At am_X0 (d + 0) mX12_sumOf 31 [some (.inr (54, 0)), some (.inr (72, 0)), some (am_I (x2)), some (am_I (x3)), none] [] (am_hM h M) r) e) ?_ n
  rintro ⟨x3, x4⟩ y hyp hx
  unfold L_X12_sumOf_5 at hyp
  try dsimp only at hyp
  change am_At _ _ _ 5 [_, _, _, _, _] [] _ _
  refine am_iload dX12_sumOf_5 rfl ?_
  refine am_aload_n dX12_sumOf_7 rfl ?_
  refine am_getR 12 12 58 dX12_sumOf_8 fg_X12_23 (sh_54 g) (by decide) rfl (rf_54_12 g) ?_
  refine am_iconst 0 (v := 0) dX12_sumOf_11 (by decide) ?_
  refine am_iald dX12_sumOf_12 (am_ia.one (sh_58 g)) (am_lit rfl) ?_
  refine am_icmp_ge (18) 31 dX12_sumOf_13 rfl ?_ ?_
  · intro hc1
    have hc1 : (M 58 0 0) ≤ x4 := hc1
    replace hyp := it_pos hc1 hyp
    cases hyp
    refine am_At.drop 4 ?_
    exact hx
  · intro hc1n
    have hc1n : ¬ ((M 58 0 0) ≤ x4) := hc1n
    replace hyp := it_neg hc1n hyp
    refine am_iload_n dX12_sumOf_16 rfl ?_
    refine am_aload_n dX12_sumOf_17 rfl ?_
    refine am_iload_n dX12_sumOf_18 rfl ?_
    refine am_iload dX12_sumOf_19 rfl ?_
    refine am_iadd dX12_sumOf_21 ?_
    obtain ⟨hg2, hyp⟩ := gd_some hyp
    refine am_iald dX12_sumOf_22 (am_ia.one (sh_72 g)) (am_lit hg2) ?_
    refine am_iadd dX12_sumOf_23 ?_
    refine am_istore_n dX12_sumOf_24 (am_lb rfl) ?_
    change am_At _ _ _ 25 [_, _, _, _, _] [] _ _
    refine am_iinc dX12_sumOf_25 rfl (am_ix _) ?_
    change am_At _ _ _ 28 [_, _, _, _, _] [] _ _
    refine am_goto (-23) 5 dX12_sumOf_28 rfl ?_
    cases hyp
    exact hx
theorem ef_X12_sumOf_72 {d : Nat} {h : am_H} (g : lay h) {x2 : Int32} {M : Mem} {v : Int32} (hyp : f_X12_sumOf 72 x2 M = some v) : am_Ev (d + 0) mX12_sumOf [.inr (54, 0), .inr (72, 0), am_I x2] (am_hM h M) (.inl (some (am_I v), am_hM h M)) := by
  unfold f_X12_sumOf at hyp
  refine am_Ev.mk (by decide +kernel) rfl rfl (Nat.le_refl _) (Nat.le_refl _) ?_
  change am_At _ _ _ 0 [_, _, _, _, _] [] _ _
  refine am_iconst 0 (v := 0) dX12_sumOf_0 (by decide) ?_
  refine am_istore_n dX12_sumOf_1 (am_lb rfl) ?_
  change am_At _ _ _ 2 [_, _, _, _, _] [] _ _
  refine am_iconst 0 (v := 0) dX12_sumOf_2 (by decide) ?_
  refine am_istore dX12_sumOf_3 (am_lb rfl) ?_
  change am_At _ _ _ 5 [_, _, _, _, _] [] _ _
  obtain ⟨x3_3, hw3, hyp⟩ := bd_some hyp
  try dsimp only at hyp
  refine eL_X12_sumOf_5_72 (d := d) (h := h) g (M := M) FU ((0 : Int32), (0 : Int32)) x3_3 hw3 ?_
  change am_At _ _ _ 31 [_, _, _, _, _] [] _ _
  refine am_iload_n dX12_sumOf_31 rfl ?_
  cases hyp
  exact am_iret dX12_sumOf_32 rfl
theorem eL_X12_sumOf_5_73 {d : Nat} {h : am_H} (g : lay h) {x2 : Int32} {M : Mem} {r : am_R} (n : Nat) : ∀ (s : Int32 × Int32) (e : Int32), wh (L_X12_sumOf_5 73 x2 M) n s = some e → ((fun (x3 : Int32) => am_At am_X0 (d + 0) mX12_sumOf 31 [some (.inr (54, 0)), some (.inr (73, 0)), some (am_I (x2)), some (am_I (x3)), none] [] (am_hM h M) r) e) → (match s with | (x3, x4) => am_At am_X0 (d + 0) mX12_sumOf 5 [some (.inr (54, 0)), some (.inr (73, 0)), some (am_I (x2)), some (am_I (x3)), some (am_I (x4))] [] (am_hM h M) r) := by
  refine am_wh (At := fun (s : Int32 × Int32) => match s with | (x3, x4) => am_At am_X0 (d + 0) mX12_sumOf 5 [some (.inr (54, 0)), some (.inr (73, 0)), some (am_I (x2)), some (am_I (x3)), some (am_I (x4))] [] (am_hM h M) r) (Ex := fun (e : Int32) => (fun (x3 : Int32) => am_At am_X0 (d + 0) mX12_sumOf 31 [some (.inr (54, 0)), some (.inr (73, 0)), some (am_I (x2)), some (am_I (x3)), none] [] (am_hM h M) r) e) ?_ n
  rintro ⟨x3, x4⟩ y hyp hx
  unfold L_X12_sumOf_5 at hyp
  try dsimp only at hyp
  change am_At _ _ _ 5 [_, _, _, _, _] [] _ _
  refine am_iload dX12_sumOf_5 rfl ?_
  refine am_aload_n dX12_sumOf_7 rfl ?_
  refine am_getR 12 12 58 dX12_sumOf_8 fg_X12_23 (sh_54 g) (by decide) rfl (rf_54_12 g) ?_
  refine am_iconst 0 (v := 0) dX12_sumOf_11 (by decide) ?_
  refine am_iald dX12_sumOf_12 (am_ia.one (sh_58 g)) (am_lit rfl) ?_
  refine am_icmp_ge (18) 31 dX12_sumOf_13 rfl ?_ ?_
  · intro hc1
    have hc1 : (M 58 0 0) ≤ x4 := hc1
    replace hyp := it_pos hc1 hyp
    cases hyp
    refine am_At.drop 4 ?_
    exact hx
  · intro hc1n
    have hc1n : ¬ ((M 58 0 0) ≤ x4) := hc1n
    replace hyp := it_neg hc1n hyp
    refine am_iload_n dX12_sumOf_16 rfl ?_
    refine am_aload_n dX12_sumOf_17 rfl ?_
    refine am_iload_n dX12_sumOf_18 rfl ?_
    refine am_iload dX12_sumOf_19 rfl ?_
    refine am_iadd dX12_sumOf_21 ?_
    obtain ⟨hg2, hyp⟩ := gd_some hyp
    refine am_iald dX12_sumOf_22 (am_ia.one (sh_73 g)) (am_lit hg2) ?_
    refine am_iadd dX12_sumOf_23 ?_
    refine am_istore_n dX12_sumOf_24 (am_lb rfl) ?_
    change am_At _ _ _ 25 [_, _, _, _, _] [] _ _
    refine am_iinc dX12_sumOf_25 rfl (am_ix _) ?_
    change am_At _ _ _ 28 [_, _, _, _, _] [] _ _
    refine am_goto (-23) 5 dX12_sumOf_28 rfl ?_
    cases hyp
    exact hx
theorem ef_X12_sumOf_73 {d : Nat} {h : am_H} (g : lay h) {x2 : Int32} {M : Mem} {v : Int32} (hyp : f_X12_sumOf 73 x2 M = some v) : am_Ev (d + 0) mX12_sumOf [.inr (54, 0), .inr (73, 0), am_I x2] (am_hM h M) (.inl (some (am_I v), am_hM h M)) := by
  unfold f_X12_sumOf at hyp
  refine am_Ev.mk (by decide +kernel) rfl rfl (Nat.le_refl _) (Nat.le_refl _) ?_
  change am_At _ _ _ 0 [_, _, _, _, _] [] _ _
  refine am_iconst 0 (v := 0) dX12_sumOf_0 (by decide) ?_
  refine am_istore_n dX12_sumOf_1 (am_lb rfl) ?_
  change am_At _ _ _ 2 [_, _, _, _, _] [] _ _
  refine am_iconst 0 (v := 0) dX12_sumOf_2 (by decide) ?_
  refine am_istore dX12_sumOf_3 (am_lb rfl) ?_
  change am_At _ _ _ 5 [_, _, _, _, _] [] _ _
  obtain ⟨x3_3, hw3, hyp⟩ := bd_some hyp
  try dsimp only at hyp
  refine eL_X12_sumOf_5_73 (d := d) (h := h) g (M := M) FU ((0 : Int32), (0 : Int32)) x3_3 hw3 ?_
  change am_At _ _ _ 31 [_, _, _, _, _] [] _ _
  refine am_iload_n dX12_sumOf_31 rfl ?_
  cases hyp
  exact am_iret dX12_sumOf_32 rfl
theorem eL_X12_throughIn_4_72 {d : Nat} {h : am_H} (g : lay h) {M : Mem} {r : am_R} (n : Nat) : ∀ (s : Int32 × Int32) (e : Int32), wh (L_X12_throughIn_4 72 M) n s = some e → ((fun (x2 : Int32) => am_At am_X0 (d + 0) mX12_throughIn 38 [some (.inr (54, 0)), some (.inr (72, 0)), some (am_I (x2)), none] [] (am_hM h M) r) e) → (match s with | (x2, x3) => am_At am_X0 (d + 0) mX12_throughIn 4 [some (.inr (54, 0)), some (.inr (72, 0)), some (am_I (x2)), some (am_I (x3))] [] (am_hM h M) r) := by
  refine am_wh (At := fun (s : Int32 × Int32) => match s with | (x2, x3) => am_At am_X0 (d + 0) mX12_throughIn 4 [some (.inr (54, 0)), some (.inr (72, 0)), some (am_I (x2)), some (am_I (x3))] [] (am_hM h M) r) (Ex := fun (e : Int32) => (fun (x2 : Int32) => am_At am_X0 (d + 0) mX12_throughIn 38 [some (.inr (54, 0)), some (.inr (72, 0)), some (am_I (x2)), none] [] (am_hM h M) r) e) ?_ n
  rintro ⟨x2, x3⟩ y hyp hx
  unfold L_X12_throughIn_4 at hyp
  try dsimp only at hyp
  change am_At _ _ _ 4 [_, _, _, _] [] _ _
  refine am_iload_n dX12_throughIn_4 rfl ?_
  refine am_aload_n dX12_throughIn_5 rfl ?_
  refine am_getR 12 12 58 dX12_throughIn_6 fg_X12_23 (sh_54 g) (by decide) rfl (rf_54_12 g) ?_
  refine am_iconst 1 (v := 1) dX12_throughIn_9 (by decide) ?_
  refine am_iald dX12_throughIn_10 (am_ia.one (sh_58 g)) (am_lit rfl) ?_
  refine am_icmp_ge (27) 38 dX12_throughIn_11 rfl ?_ ?_
  · intro hc1
    have hc1 : (M 58 0 1) ≤ x3 := hc1
    replace hyp := it_pos hc1 hyp
    cases hyp
    refine am_At.drop 3 ?_
    exact hx
  · intro hc1n
    have hc1n : ¬ ((M 58 0 1) ≤ x3) := hc1n
    replace hyp := it_neg hc1n hyp
    refine am_iload_n dX12_throughIn_14 rfl ?_
    refine am_aload_n dX12_throughIn_15 rfl ?_
    refine am_bipush 53 (v := 53) dX12_throughIn_16 (by decide) ?_
    refine am_iload_n dX12_throughIn_18 rfl ?_
    refine am_iadd dX12_throughIn_19 ?_
    obtain ⟨hg2, hyp⟩ := gd_some hyp
    refine am_iald dX12_throughIn_20 (am_ia.one (sh_72 g)) (am_lit hg2) ?_
    refine am_iconst 2 (v := 2) dX12_throughIn_21 (by decide) ?_
    refine am_icmp_ne (7) 29 dX12_throughIn_22 rfl ?_ ?_
    · intro hc3n
      have hc3n : ¬ ((M 72 0 (((53 : Int32) + x3).toNatClampNeg)) = (2 : Int32)) := hc3n
      replace hyp := it_neg hc3n hyp
      refine am_iconst 0 (v := 0) dX12_throughIn_29 (by decide) ?_
      refine am_iadd dX12_throughIn_30 ?_
      refine am_istore_n dX12_throughIn_31 (am_lb rfl) ?_
      change am_At _ _ _ 32 [_, _, _, _] [] _ _
      refine am_iinc dX12_throughIn_32 rfl (am_ix _) ?_
      change am_At _ _ _ 35 [_, _, _, _] [] _ _
      refine am_goto (-31) 4 dX12_throughIn_35 rfl ?_
      cases hyp
      exact hx
    · intro hc3
      have hc3 : (M 72 0 (((53 : Int32) + x3).toNatClampNeg)) = (2 : Int32) := hc3
      replace hyp := it_pos hc3 hyp
      refine am_iconst 1 (v := 1) dX12_throughIn_25 (by decide) ?_
      refine am_goto (4) 30 dX12_throughIn_26 rfl ?_
      refine am_iadd dX12_throughIn_30 ?_
      refine am_istore_n dX12_throughIn_31 (am_lb rfl) ?_
      change am_At _ _ _ 32 [_, _, _, _] [] _ _
      refine am_iinc dX12_throughIn_32 rfl (am_ix _) ?_
      change am_At _ _ _ 35 [_, _, _, _] [] _ _
      refine am_goto (-31) 4 dX12_throughIn_35 rfl ?_
      cases hyp
      exact hx
theorem ef_X12_throughIn_72 {d : Nat} {h : am_H} (g : lay h) {M : Mem} {v : Int32} (hyp : f_X12_throughIn 72 M = some v) : am_Ev (d + 0) mX12_throughIn [.inr (54, 0), .inr (72, 0)] (am_hM h M) (.inl (some (am_I v), am_hM h M)) := by
  unfold f_X12_throughIn at hyp
  refine am_Ev.mk (by decide +kernel) rfl rfl (Nat.le_refl _) (Nat.le_refl _) ?_
  change am_At _ _ _ 0 [_, _, _, _] [] _ _
  refine am_iconst 0 (v := 0) dX12_throughIn_0 (by decide) ?_
  refine am_istore_n dX12_throughIn_1 (am_lb rfl) ?_
  change am_At _ _ _ 2 [_, _, _, _] [] _ _
  refine am_iconst 0 (v := 0) dX12_throughIn_2 (by decide) ?_
  refine am_istore_n dX12_throughIn_3 (am_lb rfl) ?_
  change am_At _ _ _ 4 [_, _, _, _] [] _ _
  obtain ⟨x2_4, hw4, hyp⟩ := bd_some hyp
  try dsimp only at hyp
  refine eL_X12_throughIn_4_72 (d := d) (h := h) g (M := M) FU ((0 : Int32), (0 : Int32)) x2_4 hw4 ?_
  change am_At _ _ _ 38 [_, _, _, _] [] _ _
  refine am_iload_n dX12_throughIn_38 rfl ?_
  cases hyp
  exact am_iret dX12_throughIn_39 rfl
theorem eL_X12_throughIn_4_73 {d : Nat} {h : am_H} (g : lay h) {M : Mem} {r : am_R} (n : Nat) : ∀ (s : Int32 × Int32) (e : Int32), wh (L_X12_throughIn_4 73 M) n s = some e → ((fun (x2 : Int32) => am_At am_X0 (d + 0) mX12_throughIn 38 [some (.inr (54, 0)), some (.inr (73, 0)), some (am_I (x2)), none] [] (am_hM h M) r) e) → (match s with | (x2, x3) => am_At am_X0 (d + 0) mX12_throughIn 4 [some (.inr (54, 0)), some (.inr (73, 0)), some (am_I (x2)), some (am_I (x3))] [] (am_hM h M) r) := by
  refine am_wh (At := fun (s : Int32 × Int32) => match s with | (x2, x3) => am_At am_X0 (d + 0) mX12_throughIn 4 [some (.inr (54, 0)), some (.inr (73, 0)), some (am_I (x2)), some (am_I (x3))] [] (am_hM h M) r) (Ex := fun (e : Int32) => (fun (x2 : Int32) => am_At am_X0 (d + 0) mX12_throughIn 38 [some (.inr (54, 0)), some (.inr (73, 0)), some (am_I (x2)), none] [] (am_hM h M) r) e) ?_ n
  rintro ⟨x2, x3⟩ y hyp hx
  unfold L_X12_throughIn_4 at hyp
  try dsimp only at hyp
  change am_At _ _ _ 4 [_, _, _, _] [] _ _
  refine am_iload_n dX12_throughIn_4 rfl ?_
  refine am_aload_n dX12_throughIn_5 rfl ?_
  refine am_getR 12 12 58 dX12_throughIn_6 fg_X12_23 (sh_54 g) (by decide) rfl (rf_54_12 g) ?_
  refine am_iconst 1 (v := 1) dX12_throughIn_9 (by decide) ?_
  refine am_iald dX12_throughIn_10 (am_ia.one (sh_58 g)) (am_lit rfl) ?_
  refine am_icmp_ge (27) 38 dX12_throughIn_11 rfl ?_ ?_
  · intro hc1
    have hc1 : (M 58 0 1) ≤ x3 := hc1
    replace hyp := it_pos hc1 hyp
    cases hyp
    refine am_At.drop 3 ?_
    exact hx
  · intro hc1n
    have hc1n : ¬ ((M 58 0 1) ≤ x3) := hc1n
    replace hyp := it_neg hc1n hyp
    refine am_iload_n dX12_throughIn_14 rfl ?_
    refine am_aload_n dX12_throughIn_15 rfl ?_
    refine am_bipush 53 (v := 53) dX12_throughIn_16 (by decide) ?_
    refine am_iload_n dX12_throughIn_18 rfl ?_
    refine am_iadd dX12_throughIn_19 ?_
    obtain ⟨hg2, hyp⟩ := gd_some hyp
    refine am_iald dX12_throughIn_20 (am_ia.one (sh_73 g)) (am_lit hg2) ?_
    refine am_iconst 2 (v := 2) dX12_throughIn_21 (by decide) ?_
    refine am_icmp_ne (7) 29 dX12_throughIn_22 rfl ?_ ?_
    · intro hc3n
      have hc3n : ¬ ((M 73 0 (((53 : Int32) + x3).toNatClampNeg)) = (2 : Int32)) := hc3n
      replace hyp := it_neg hc3n hyp
      refine am_iconst 0 (v := 0) dX12_throughIn_29 (by decide) ?_
      refine am_iadd dX12_throughIn_30 ?_
      refine am_istore_n dX12_throughIn_31 (am_lb rfl) ?_
      change am_At _ _ _ 32 [_, _, _, _] [] _ _
      refine am_iinc dX12_throughIn_32 rfl (am_ix _) ?_
      change am_At _ _ _ 35 [_, _, _, _] [] _ _
      refine am_goto (-31) 4 dX12_throughIn_35 rfl ?_
      cases hyp
      exact hx
    · intro hc3
      have hc3 : (M 73 0 (((53 : Int32) + x3).toNatClampNeg)) = (2 : Int32) := hc3
      replace hyp := it_pos hc3 hyp
      refine am_iconst 1 (v := 1) dX12_throughIn_25 (by decide) ?_
      refine am_goto (4) 30 dX12_throughIn_26 rfl ?_
      refine am_iadd dX12_throughIn_30 ?_
      refine am_istore_n dX12_throughIn_31 (am_lb rfl) ?_
      change am_At _ _ _ 32 [_, _, _, _] [] _ _
      refine am_iinc dX12_throughIn_32 rfl (am_ix _) ?_
      change am_At _ _ _ 35 [_, _, _, _] [] _ _
      refine am_goto (-31) 4 dX12_throughIn_35 rfl ?_
      cases hyp
      exact hx
theorem ef_X12_throughIn_73 {d : Nat} {h : am_H} (g : lay h) {M : Mem} {v : Int32} (hyp : f_X12_throughIn 73 M = some v) : am_Ev (d + 0) mX12_throughIn [.inr (54, 0), .inr (73, 0)] (am_hM h M) (.inl (some (am_I v), am_hM h M)) := by
  unfold f_X12_throughIn at hyp
  refine am_Ev.mk (by decide +kernel) rfl rfl (Nat.le_refl _) (Nat.le_refl _) ?_
  change am_At _ _ _ 0 [_, _, _, _] [] _ _
  refine am_iconst 0 (v := 0) dX12_throughIn_0 (by decide) ?_
  refine am_istore_n dX12_throughIn_1 (am_lb rfl) ?_
  change am_At _ _ _ 2 [_, _, _, _] [] _ _
  refine am_iconst 0 (v := 0) dX12_throughIn_2 (by decide) ?_
  refine am_istore_n dX12_throughIn_3 (am_lb rfl) ?_
  change am_At _ _ _ 4 [_, _, _, _] [] _ _
  obtain ⟨x2_4, hw4, hyp⟩ := bd_some hyp
  try dsimp only at hyp
  refine eL_X12_throughIn_4_73 (d := d) (h := h) g (M := M) FU ((0 : Int32), (0 : Int32)) x2_4 hw4 ?_
  change am_At _ _ _ 38 [_, _, _, _] [] _ _
  refine am_iload_n dX12_throughIn_38 rfl ?_
  cases hyp
  exact am_iret dX12_throughIn_39 rfl
theorem ef_RX2_choose {d : Nat} {h : am_H} (g : lay h) {x1 x2 : Int32} {r_X2_choose : Int32 → Int32 → Mem → Option (Int32 × Mem)} (er_X2_choose : ∀ {x1 x2 : Int32} {M M' : Mem} {v : Int32}, r_X2_choose x1 x2 M = some (v, M') → am_Ev (d + 0) mX2_choose [.inr (43, 0), am_I x1, am_I x2] (am_hM h M) (.inl (some (am_I v), am_hM h M'))) {M : Mem} {v : Int32} {M' : Mem} (hyp : f_RX2_choose r_X2_choose x1 x2 M = some (v, M')) : am_Ev (d + 1) mX2_choose [.inr (43, 0), am_I x1, am_I x2] (am_hM h M) (.inl (some (am_I v), am_hM h M')) := by
  unfold f_RX2_choose at hyp
  refine am_Ev.mk (by decide +kernel) rfl rfl (Nat.le_refl _) (Nat.le_refl _) ?_
  change am_At _ _ _ 0 [_, _, _] [] _ _
  refine am_aload_n dX2_choose_0 rfl ?_
  refine am_iload_n dX2_choose_1 rfl ?_
  refine am_iload_n dX2_choose_2 rfl ?_
  obtain ⟨v1, hk1, hyp⟩ := bd_some hyp
  try dsimp only at hyp
  refine am_callV [_, _] dX2_choose_3 ml_X2_41 vm_X2_couldHold (sh_43 g) rfl (fun _ => Nat.le_of_ble_eq_true rfl) (by omega) rfl (ef_X2_couldHold (d := d + 0) (h := h) g hk1) rfl ?_
  change am_At _ _ _ 6 [_, _, _] [_] _ _
  refine am_if_ne (5) 11 dX2_choose_6 rfl ?_ ?_
  · intro hc2n
    have hc2n : ¬ (v1 = 0) := hc2n
    replace hyp := it_neg hc2n hyp
    refine am_iload_n dX2_choose_11 rfl ?_
    refine am_if_eq (7) 19 dX2_choose_12 rfl ?_ ?_
    · intro hc3
      have hc3 : x2 = 0 := hc3
      replace hyp := it_pos hc3 hyp
      refine am_iload_n dX2_choose_19 rfl ?_
      refine am_if_neF (7) 27 dX2_choose_20 rfl hc3 ?_
      refine am_iconst 1 (v := 1) dX2_choose_23 (by decide) ?_
      refine am_goto (4) 28 dX2_choose_24 rfl ?_
      cases hyp
      exact am_zret dX2_choose_28 rfl rfl
    · intro hc3n
      have hc3n : ¬ (x2 = 0) := hc3n
      replace hyp := it_neg hc3n hyp
      refine am_iload_n dX2_choose_15 rfl ?_
      refine am_if_ge (13) 29 dX2_choose_16 rfl ?_ ?_
      · intro hc4
        have hc4 : 0 ≤ x1 := hc4
        replace hyp := it_pos hc4 hyp
        refine am_aload_n dX2_choose_29 rfl ?_
        refine am_iload_n dX2_choose_30 rfl ?_
        refine am_iconst 1 (v := 1) dX2_choose_31 (by decide) ?_
        refine am_isub dX2_choose_32 ?_
        refine am_iload_n dX2_choose_33 rfl ?_
        obtain ⟨⟨v5, M5⟩, hk5, hyp⟩ := bd_some hyp
        try dsimp only at hyp
        refine am_callV [_, _] dX2_choose_34 ml_X2_38 vm_X2_choose (sh_43 g) rfl (fun _ => Nat.le_of_ble_eq_true rfl) (by omega) rfl (er_X2_choose hk5) rfl ?_
        change am_At _ _ _ 37 [_, _, _] [_] _ _
        refine am_if_eq (5) 42 dX2_choose_37 rfl ?_ ?_
        · intro hc6
          have hc6 : v5 = 0 := hc6
          replace hyp := it_pos hc6 hyp
          refine am_aload_n dX2_choose_42 rfl ?_
          refine am_iload_n dX2_choose_43 rfl ?_
          refine am_aload_n dX2_choose_44 rfl ?_
          refine am_getR 2 0 3 dX2_choose_45 fg_X2_15 (sh_43 g) (by decide) rfl (rf_43_0 g) ?_
          refine am_getR 1 3 6 dX2_choose_48 fg_X2_44 (sh_3 g) (by decide) rfl (rf_3_3 g) ?_
          refine am_iload_n dX2_choose_51 rfl ?_
          obtain ⟨hg7, hyp⟩ := gd_some hyp
          refine am_iald dX2_choose_52 (am_ia.one (sh_6 g)) (am_lit hg7) ?_
          obtain ⟨M8, hk8, hyp⟩ := bd_some hyp
          try dsimp only at hyp
          refine am_callV [_, _] dX2_choose_53 ml_X2_47 vm_X2_drain (sh_43 g) rfl (fun _ => Nat.le_of_ble_eq_true rfl) (by omega) rfl (ef_X2_drain (d := d + 0) (h := h) g hk8) rfl ?_
          change am_At _ _ _ 56 [_, _, _] [] _ _
          refine am_aload_n dX2_choose_56 rfl ?_
          refine am_iload_n dX2_choose_57 rfl ?_
          refine am_iconst 1 (v := 1) dX2_choose_58 (by decide) ?_
          refine am_isub dX2_choose_59 ?_
          refine am_iload_n dX2_choose_60 rfl ?_
          refine am_iconst 1 (v := 1) dX2_choose_61 (by decide) ?_
          refine am_isub dX2_choose_62 ?_
          obtain ⟨⟨v9, M9⟩, hk9, hyp⟩ := bd_some hyp
          try dsimp only at hyp
          refine am_callV [_, _] dX2_choose_63 ml_X2_38 vm_X2_choose (sh_43 g) rfl (fun _ => Nat.le_of_ble_eq_true rfl) (by omega) rfl (er_X2_choose hk9) rfl ?_
          change am_At _ _ _ 66 [_, _, _] [_] _ _
          refine am_if_eq (17) 83 dX2_choose_66 rfl ?_ ?_
          · intro hc10
            have hc10 : v9 = 0 := hc10
            replace hyp := it_pos hc10 hyp
            refine am_aload_n dX2_choose_83 rfl ?_
            refine am_iload_n dX2_choose_84 rfl ?_
            refine am_aload_n dX2_choose_85 rfl ?_
            refine am_getR 2 0 3 dX2_choose_86 fg_X2_15 (sh_43 g) (by decide) rfl (rf_43_0 g) ?_
            refine am_getR 1 3 6 dX2_choose_89 fg_X2_44 (sh_3 g) (by decide) rfl (rf_3_3 g) ?_
            refine am_iload_n dX2_choose_92 rfl ?_
            refine am_iald dX2_choose_93 (am_ia.one (sh_6 g)) (am_lit hg7) ?_
            refine am_ineg dX2_choose_94 ?_
            obtain ⟨M11, hk11, hyp⟩ := bd_some hyp
            try dsimp only at hyp
            refine am_callV [_, _] dX2_choose_95 ml_X2_47 vm_X2_drain (sh_43 g) rfl (fun _ => Nat.le_of_ble_eq_true rfl) (by omega) rfl (ef_X2_drain (d := d + 0) (h := h) g hk11) rfl ?_
            change am_At _ _ _ 98 [_, _, _] [] _ _
            refine am_iconst 0 (v := 0) dX2_choose_98 (by decide) ?_
            cases hyp
            exact am_zret dX2_choose_99 rfl rfl
          · intro hc10n
            have hc10n : ¬ (v9 = 0) := hc10n
            replace hyp := it_neg hc10n hyp
            refine am_aload_n dX2_choose_69 rfl ?_
            refine am_dup dX2_choose_70 (fun _ => rfl) ?_
            refine am_getI 2 2 dX2_choose_71 fg_X2_35 (sh_43 g) (by decide) rfl ?_
            refine am_iconst 1 (v := 1) dX2_choose_74 (by decide) ?_
            refine am_iload_n dX2_choose_75 rfl ?_
            refine am_ishl dX2_choose_76 ?_
            refine am_ior dX2_choose_77 ?_
            refine am_putI 2 2 dX2_choose_78 (Or.inl fp_X2_35) (sh_43 g) (by decide) rfl rfl rfl ?_
            refine am_iconst 1 (v := 1) dX2_choose_81 (by decide) ?_
            cases hyp
            exact am_zret dX2_choose_82 rfl rfl
        · intro hc6n
          have hc6n : ¬ (v5 = 0) := hc6n
          replace hyp := it_neg hc6n hyp
          refine am_iconst 1 (v := 1) dX2_choose_40 (by decide) ?_
          cases hyp
          exact am_zret dX2_choose_41 rfl rfl
      · intro hc4n
        have hc4n : ¬ (0 ≤ x1) := hc4n
        replace hyp := it_neg hc4n hyp
        refine am_iload_n dX2_choose_19 rfl ?_
        refine am_if_neT (7) 27 dX2_choose_20 rfl hc3n ?_
        refine am_iconst 0 (v := 0) dX2_choose_27 (by decide) ?_
        cases hyp
        exact am_zret dX2_choose_28 rfl rfl
  · intro hc2
    have hc2 : v1 = 0 := hc2
    replace hyp := it_pos hc2 hyp
    refine am_iconst 0 (v := 0) dX2_choose_9 (by decide) ?_
    cases hyp
    exact am_zret dX2_choose_10 rfl rfl
theorem erec_choose {d : Nat} {h : am_H} (g : lay h) : ∀ (n : Nat), (∀ {x1 x2 : Int32} {M M' : Mem} {v : Int32}, (rec_choose n) x1 x2 M = some (v, M') → am_Ev (d + n + 0) mX2_choose [.inr (43, 0), am_I x1, am_I x2] (am_hM h M) (.inl (some (am_I v), am_hM h M')))
  | 0 => (fun hyp => nomatch hyp)
  | n + 1 => (fun hyp => by
      rw [show d + (n + 1) + 0 = d + n + 1 by omega]
      exact ef_RX2_choose (d := d + n) g (erec_choose g n) hyp)
theorem ef_X2_choose {d : Nat} {h : am_H} (g : lay h) : ∀ {x1 x2 : Int32} {M M' : Mem} {v : Int32}, f_X2_choose x1 x2 M = some (v, M') → am_Ev (d + 30) mX2_choose [.inr (43, 0), am_I x1, am_I x2] (am_hM h M) (.inl (some (am_I v), am_hM h M')) := fun hyp => (erec_choose (d := d) g 30) hyp
theorem eL_RX0_place_39 {d : Nat} {h : am_H} (g : lay h) {x1 x2 : Int32} {r_X0_place : Int32 → Int32 → Mem → Option (Mem)} (er_X0_place : ∀ {x1 x2 : Int32} {M M' : Mem} , r_X0_place x1 x2 M = some M' → am_Ev (d + 0) mX0_place [.inr (51, 0), am_I x1, am_I x2] (am_hM h M) (.inl (none, am_hM h M'))) {r : am_R} (n : Nat) : ∀ (s : Int32 × Mem) (e : Mem), wh (L_RX0_place_39 r_X0_place x1 x2) n s = some e → ((fun (M : Mem) => am_At am_X0 (d + 1) mX0_place 67 [some (.inr (51, 0)), some (am_I (x1)), some (am_I (x2)), none] [] (am_hM h M) r) e) → (match s with | (x3, M) => am_At am_X0 (d + 1) mX0_place 39 [some (.inr (51, 0)), some (am_I (x1)), some (am_I (x2)), some (am_I (x3))] [] (am_hM h M) r) := by
  refine am_wh (At := fun (s : Int32 × Mem) => match s with | (x3, M) => am_At am_X0 (d + 1) mX0_place 39 [some (.inr (51, 0)), some (am_I (x1)), some (am_I (x2)), some (am_I (x3))] [] (am_hM h M) r) (Ex := fun (e : Mem) => (fun (M : Mem) => am_At am_X0 (d + 1) mX0_place 67 [some (.inr (51, 0)), some (am_I (x1)), some (am_I (x2)), none] [] (am_hM h M) r) e) ?_ n
  rintro ⟨x3, M⟩ y hyp hx
  unfold L_RX0_place_39 at hyp
  try dsimp only at hyp
  change am_At _ _ _ 39 [_, _, _, _] [] _ _
  refine am_iload_n dX0_place_39 rfl ?_
  refine am_iload_n dX0_place_40 rfl ?_
  refine am_icmp_gt (26) 67 dX0_place_41 rfl ?_ ?_
  · intro hc2
    have hc2 : x2 < x3 := hc2
    replace hyp := it_pos hc2 hyp
    cases hyp
    refine am_At.drop 3 ?_
    exact hx
  · intro hc2n
    have hc2n : ¬ (x2 < x3) := hc2n
    replace hyp := it_neg hc2n hyp
    refine am_aload_n dX0_place_44 rfl ?_
    refine am_getR 0 1 52 dX0_place_45 fg_X0_9 (sh_51 g) (by decide) rfl (rf_51_1 g) ?_
    refine am_iload_n dX0_place_48 rfl ?_
    refine am_iload_n dX0_place_49 rfl ?_
    obtain ⟨hg3, hyp⟩ := gd_some hyp
    refine am_iast dX0_place_50 (am_ia.one (sh_52 g)) (am_lit hg3) ?_
    refine am_aload_n dX0_place_51 rfl ?_
    refine am_iload_n dX0_place_52 rfl ?_
    refine am_iconst 1 (v := 1) dX0_place_53 (by decide) ?_
    refine am_iadd dX0_place_54 ?_
    refine am_iload_n dX0_place_55 rfl ?_
    refine am_iload_n dX0_place_56 rfl ?_
    refine am_isub dX0_place_57 ?_
    obtain ⟨M4, hk4, hyp⟩ := bd_some hyp
    try dsimp only at hyp
    refine am_callV [_, _] dX0_place_58 ml_X0_26 vm_X0_place (sh_51 g) rfl (fun _ => Nat.le_of_ble_eq_true rfl) (by omega) rfl (er_X0_place hk4) rfl ?_
    change am_At _ _ _ 61 [_, _, _, _] [] _ _
    refine am_iinc dX0_place_61 rfl (am_ix _) ?_
    change am_At _ _ _ 64 [_, _, _, _] [] _ _
    refine am_goto (-25) 39 dX0_place_64 rfl ?_
    cases hyp
    exact hx
theorem ef_RX0_place {d : Nat} {h : am_H} (g : lay h) {x1 x2 : Int32} {r_X0_place : Int32 → Int32 → Mem → Option (Mem)} (er_X0_place : ∀ {x1 x2 : Int32} {M M' : Mem} , r_X0_place x1 x2 M = some M' → am_Ev (d + 0) mX0_place [.inr (51, 0), am_I x1, am_I x2] (am_hM h M) (.inl (none, am_hM h M'))) {M : Mem} {M' : Mem} (hyp : f_RX0_place r_X0_place x1 x2 M = some M') : am_Ev (d + 1) mX0_place [.inr (51, 0), am_I x1, am_I x2] (am_hM h M) (.inl (none, am_hM h M')) := by
  unfold f_RX0_place at hyp
  refine am_Ev.mk (by decide +kernel) rfl rfl (Nat.le_refl _) (Nat.le_refl _) ?_
  change am_At _ _ _ 0 [_, _, _, _] [] _ _
  refine am_iload_n dX0_place_0 rfl ?_
  refine am_aload_n dX0_place_1 rfl ?_
  refine am_getR 0 0 3 dX0_place_2 fg_X0_18 (sh_51 g) (by decide) rfl (rf_51_0 g) ?_
  refine am_getI 1 0 dX0_place_5 fg_X0_30 (sh_3 g) (by decide) rfl ?_
  refine am_icmp_ne (29) 37 dX0_place_8 rfl ?_ ?_
  · intro hc1n
    have hc1n : ¬ (x1 = (M 3 0 0)) := hc1n
    replace hyp := it_neg hc1n hyp
    refine am_iconst 0 (v := 0) dX0_place_37 (by decide) ?_
    refine am_istore_n dX0_place_38 (am_lb rfl) ?_
    change am_At _ _ _ 39 [_, _, _, _] [] _ _
    obtain ⟨M5, hw5, hyp⟩ := bd_some hyp
    try dsimp only at hyp
    refine eL_RX0_place_39 (d := d) (h := h) g er_X0_place  FU ((0 : Int32), M) M5 hw5 ?_
    change am_At _ _ _ 67 [_, _, _, _] [] _ _
    cases hyp
    exact am_vret dX0_place_67 rfl
  · intro hc1
    have hc1 : x1 = (M 3 0 0) := hc1
    replace hyp := it_pos hc1 hyp
    refine am_iload_n dX0_place_11 rfl ?_
    refine am_if_ne (24) 36 dX0_place_12 rfl ?_ ?_
    · intro hc6n
      have hc6n : ¬ (x2 = 0) := hc6n
      replace hyp := it_neg hc6n hyp
      cases hyp
      exact am_vret dX0_place_36 rfl
    · intro hc6
      have hc6 : x2 = 0 := hc6
      replace hyp := it_pos hc6 hyp
      refine am_aload_n dX0_place_15 rfl ?_
      obtain ⟨v7, hk7, hyp⟩ := bd_some hyp
      try dsimp only at hyp
      refine am_callV [] dX0_place_16 ml_X0_35 vm_X0_isRest (sh_51 g) rfl (fun _ => Nat.le_of_ble_eq_true rfl) (by omega) rfl (ef_X0_isRest (d := d + 0) (h := h) g hk7) rfl ?_
      change am_At _ _ _ 19 [_, _, _, _] [_] _ _
      refine am_if_eq (17) 36 dX0_place_19 rfl ?_ ?_
      · intro hc8
        have hc8 : v7 = 0 := hc8
        replace hyp := it_pos hc8 hyp
        cases hyp
        exact am_vret dX0_place_36 rfl
      · intro hc8n
        have hc8n : ¬ (v7 = 0) := hc8n
        replace hyp := it_neg hc8n hyp
        refine am_aload_n dX0_place_22 rfl ?_
        refine am_callV [] dX0_place_23 ml_X0_39 vm_X0_keepFirst (sh_51 g) rfl (fun _ => Nat.le_of_ble_eq_true rfl) (by omega) rfl (ef_X0_keepFirst (d := d + 0) (h := h) g  (M := M) rfl) rfl ?_
        change am_At _ _ _ 26 [_, _, _, _] [] _ _
        refine am_aload_n dX0_place_26 rfl ?_
        refine am_dup dX0_place_27 (fun _ => rfl) ?_
        refine am_getI 0 3 dX0_place_28 fg_X0_22 (sh_51 g) (by decide) rfl ?_
        refine am_iconst 1 (v := 1) dX0_place_31 (by decide) ?_
        refine am_iadd dX0_place_32 ?_
        refine am_putI 0 3 dX0_place_33 (Or.inl fp_X0_22) (sh_51 g) (by decide) rfl rfl rfl ?_
        cases hyp
        exact am_vret dX0_place_36 rfl
theorem erec_place {d : Nat} {h : am_H} (g : lay h) : ∀ (n : Nat), (∀ {x1 x2 : Int32} {M M' : Mem} , (rec_place n) x1 x2 M = some M' → am_Ev (d + n + 0) mX0_place [.inr (51, 0), am_I x1, am_I x2] (am_hM h M) (.inl (none, am_hM h M')))
  | 0 => (fun hyp => nomatch hyp)
  | n + 1 => (fun hyp => by
      rw [show d + (n + 1) + 0 = d + n + 1 by omega]
      exact ef_RX0_place (d := d + n) g (erec_place g n) hyp)
theorem ef_X0_place {d : Nat} {h : am_H} (g : lay h) : ∀ {x1 x2 : Int32} {M M' : Mem} , f_X0_place x1 x2 M = some M' → am_Ev (d + 30) mX0_place [.inr (51, 0), am_I x1, am_I x2] (am_hM h M) (.inl (none, am_hM h M')) := fun hyp => (erec_place (d := d) g 30) hyp
theorem eL_RX12_angles_68 {d : Nat} {h : am_H} (g : lay h) {x1 x2 : Int32} {r_X12_angles : Int32 → Int32 → Mem → Option (Mem)} (er_X12_angles : ∀ {x1 x2 : Int32} {M M' : Mem} , r_X12_angles x1 x2 M = some M' → am_Ev (d + 0) mX12_angles [.inr (54, 0), am_I x1, am_I x2] (am_hM h M) (.inl (none, am_hM h M'))) {r : am_R} (n : Nat) : ∀ (s : Int32 × Mem) (e : Mem), wh (L_RX12_angles_68 r_X12_angles x1 x2) n s = some e → ((fun (M : Mem) => am_At am_X0 (d + 1) mX12_angles 96 [some (.inr (54, 0)), some (am_I (x1)), some (am_I (x2)), none] [] (am_hM h M) r) e) → (match s with | (x3, M) => am_At am_X0 (d + 1) mX12_angles 68 [some (.inr (54, 0)), some (am_I (x1)), some (am_I (x2)), some (am_I (x3))] [] (am_hM h M) r) := by
  refine am_wh (At := fun (s : Int32 × Mem) => match s with | (x3, M) => am_At am_X0 (d + 1) mX12_angles 68 [some (.inr (54, 0)), some (am_I (x1)), some (am_I (x2)), some (am_I (x3))] [] (am_hM h M) r) (Ex := fun (e : Mem) => (fun (M : Mem) => am_At am_X0 (d + 1) mX12_angles 96 [some (.inr (54, 0)), some (am_I (x1)), some (am_I (x2)), none] [] (am_hM h M) r) e) ?_ n
  rintro ⟨x3, M⟩ y hyp hx
  unfold L_RX12_angles_68 at hyp
  try dsimp only at hyp
  change am_At _ _ _ 68 [_, _, _, _] [] _ _
  refine am_iload_n dX12_angles_68 rfl ?_
  refine am_iload_n dX12_angles_69 rfl ?_
  refine am_icmp_gt (26) 96 dX12_angles_70 rfl ?_ ?_
  · intro hc2
    have hc2 : x2 < x3 := hc2
    replace hyp := it_pos hc2 hyp
    cases hyp
    refine am_At.drop 3 ?_
    exact hx
  · intro hc2n
    have hc2n : ¬ (x2 < x3) := hc2n
    replace hyp := it_neg hc2n hyp
    refine am_aload_n dX12_angles_73 rfl ?_
    refine am_getR 12 44 79 dX12_angles_74 fg_X12_88 (sh_54 g) (by decide) rfl (rf_54_44 g) ?_
    refine am_iload_n dX12_angles_77 rfl ?_
    refine am_iload_n dX12_angles_78 rfl ?_
    obtain ⟨hg3, hyp⟩ := gd_some hyp
    refine am_iast dX12_angles_79 (am_ia.one (sh_79 g)) (am_lit hg3) ?_
    refine am_aload_n dX12_angles_80 rfl ?_
    refine am_iload_n dX12_angles_81 rfl ?_
    refine am_iconst 1 (v := 1) dX12_angles_82 (by decide) ?_
    refine am_iadd dX12_angles_83 ?_
    refine am_iload_n dX12_angles_84 rfl ?_
    refine am_iload_n dX12_angles_85 rfl ?_
    refine am_isub dX12_angles_86 ?_
    obtain ⟨M4, hk4, hyp⟩ := bd_some hyp
    try dsimp only at hyp
    refine am_callV [_, _] dX12_angles_87 ml_X12_357 vm_X12_angles (sh_54 g) rfl (fun _ => Nat.le_of_ble_eq_true rfl) (by omega) rfl (er_X12_angles hk4) rfl ?_
    change am_At _ _ _ 90 [_, _, _, _] [] _ _
    refine am_iinc dX12_angles_90 rfl (am_ix _) ?_
    change am_At _ _ _ 93 [_, _, _, _] [] _ _
    refine am_goto (-25) 68 dX12_angles_93 rfl ?_
    cases hyp
    exact hx
theorem eL_RX12_angles_24 {d : Nat} {h : am_H} (g : lay h) {r_X12_angles : Int32 → Int32 → Mem → Option (Mem)} (er_X12_angles : ∀ {x1 x2 : Int32} {M M' : Mem} , r_X12_angles x1 x2 M = some M' → am_Ev (d + 0) mX12_angles [.inr (54, 0), am_I x1, am_I x2] (am_hM h M) (.inl (none, am_hM h M'))) {r : am_R} (n : Nat) : ∀ (s : Int32 × Mem) (e : Mem), wh (L_RX12_angles_24) n s = some e → ((fun (M : Mem) => am_At am_X0 (d + 1) mX12_angles 55 [some (.inr (54, 0)), none, none, none] [] (am_hM h M) r) e) → (match s with | (x3, M) => am_At am_X0 (d + 1) mX12_angles 24 [some (.inr (54, 0)), none, none, some (am_I (x3))] [] (am_hM h M) r) := by
  refine am_wh (At := fun (s : Int32 × Mem) => match s with | (x3, M) => am_At am_X0 (d + 1) mX12_angles 24 [some (.inr (54, 0)), none, none, some (am_I (x3))] [] (am_hM h M) r) (Ex := fun (e : Mem) => (fun (M : Mem) => am_At am_X0 (d + 1) mX12_angles 55 [some (.inr (54, 0)), none, none, none] [] (am_hM h M) r) e) ?_ n
  rintro ⟨x3, M⟩ y hyp hx
  unfold L_RX12_angles_24 at hyp
  try dsimp only at hyp
  change am_At _ _ _ 24 [_, _, _, _] [] _ _
  refine am_iload_n dX12_angles_24 rfl ?_
  refine am_bipush 16 (v := 16) dX12_angles_25 (by decide) ?_
  refine am_icmp_ge (28) 55 dX12_angles_27 rfl ?_ ?_
  · intro hc10
    have hc10 : (16 : Int32) ≤ x3 := hc10
    replace hyp := it_pos hc10 hyp
    cases hyp
    refine am_At.drop 3 ?_
    exact hx
  · intro hc10n
    have hc10n : ¬ ((16 : Int32) ≤ x3) := hc10n
    replace hyp := it_neg hc10n hyp
    refine am_aload_n dX12_angles_30 rfl ?_
    refine am_getI 12 46 dX12_angles_31 fg_X12_354 (sh_54 g) (by decide) rfl ?_
    refine am_if_ne (21) 55 dX12_angles_34 rfl ?_ ?_
    · intro hc11n
      have hc11n : ¬ ((M 54 0 46) = 0) := hc11n
      replace hyp := it_neg hc11n hyp
      cases hyp
      refine am_At.drop 3 ?_
      exact hx
    · intro hc11
      have hc11 : (M 54 0 46) = 0 := hc11
      replace hyp := it_pos hc11 hyp
      refine am_aload_n dX12_angles_37 rfl ?_
      refine am_getR 12 45 80 dX12_angles_38 fg_X12_91 (sh_54 g) (by decide) rfl (rf_54_45 g) ?_
      refine am_iload_n dX12_angles_41 rfl ?_
      refine am_aload_n dX12_angles_42 rfl ?_
      refine am_getR 12 44 79 dX12_angles_43 fg_X12_88 (sh_54 g) (by decide) rfl (rf_54_44 g) ?_
      refine am_iload_n dX12_angles_46 rfl ?_
      obtain ⟨hg12, hyp⟩ := gd_some hyp
      refine am_iald dX12_angles_47 (am_ia.one (sh_79 g)) (am_lit hg12) ?_
      refine am_iast dX12_angles_48 (am_ia.one (sh_80 g)) (am_lit hg12) ?_
      refine am_iinc dX12_angles_49 rfl (am_ix _) ?_
      change am_At _ _ _ 52 [_, _, _, _] [] _ _
      refine am_goto (-28) 24 dX12_angles_52 rfl ?_
      cases hyp
      exact hx
theorem ef_RX12_angles {d : Nat} {h : am_H} (g : lay h) {x1 x2 : Int32} {r_X12_angles : Int32 → Int32 → Mem → Option (Mem)} (er_X12_angles : ∀ {x1 x2 : Int32} {M M' : Mem} , r_X12_angles x1 x2 M = some M' → am_Ev (d + 0) mX12_angles [.inr (54, 0), am_I x1, am_I x2] (am_hM h M) (.inl (none, am_hM h M'))) {M : Mem} {M' : Mem} (hyp : f_RX12_angles r_X12_angles x1 x2 M = some M') : am_Ev (d + 1) mX12_angles [.inr (54, 0), am_I x1, am_I x2] (am_hM h M) (.inl (none, am_hM h M')) := by
  unfold f_RX12_angles at hyp
  refine am_Ev.mk (by decide +kernel) rfl rfl (Nat.le_refl _) (Nat.le_refl _) ?_
  change am_At _ _ _ 0 [_, _, _, _] [] _ _
  refine am_iload_n dX12_angles_0 rfl ?_
  refine am_aload_n dX12_angles_1 rfl ?_
  refine am_getR 12 12 58 dX12_angles_2 fg_X12_23 (sh_54 g) (by decide) rfl (rf_54_12 g) ?_
  refine am_iconst 0 (v := 0) dX12_angles_5 (by decide) ?_
  refine am_iald dX12_angles_6 (am_ia.one (sh_58 g)) (am_lit rfl) ?_
  refine am_icmp_ne (59) 66 dX12_angles_7 rfl ?_ ?_
  · intro hc1n
    have hc1n : ¬ (x1 = (M 58 0 0)) := hc1n
    replace hyp := it_neg hc1n hyp
    refine am_iconst 0 (v := 0) dX12_angles_66 (by decide) ?_
    refine am_istore_n dX12_angles_67 (am_lb rfl) ?_
    change am_At _ _ _ 68 [_, _, _, _] [] _ _
    obtain ⟨M5, hw5, hyp⟩ := bd_some hyp
    try dsimp only at hyp
    refine eL_RX12_angles_68 (d := d) (h := h) g er_X12_angles  FU ((0 : Int32), M) M5 hw5 ?_
    change am_At _ _ _ 96 [_, _, _, _] [] _ _
    refine am_aload_n dX12_angles_96 rfl ?_
    refine am_getR 12 44 79 dX12_angles_97 fg_X12_88 (sh_54 g) (by decide) rfl (rf_54_44 g) ?_
    refine am_iload_n dX12_angles_100 rfl ?_
    refine am_iconst 0 (v := 0) dX12_angles_101 (by decide) ?_
    obtain ⟨hg6, hyp⟩ := gd_some hyp
    refine am_iast dX12_angles_102 (am_ia.one (sh_79 g)) (am_lit hg6) ?_
    cases hyp
    exact am_vret dX12_angles_103 rfl
  · intro hc1
    have hc1 : x1 = (M 58 0 0) := hc1
    replace hyp := it_pos hc1 hyp
    refine am_iload_n dX12_angles_10 rfl ?_
    refine am_if_gt (10) 21 dX12_angles_11 rfl ?_ ?_
    · intro hc7
      have hc7 : 0 < x2 := hc7
      replace hyp := it_pos hc7 hyp
      cases hyp
      exact am_vret dX12_angles_21 rfl
    · intro hc7n
      have hc7n : ¬ (0 < x2) := hc7n
      replace hyp := it_neg hc7n hyp
      refine am_aload_n dX12_angles_14 rfl ?_
      obtain ⟨v8, hk8, hyp⟩ := bd_some hyp
      try dsimp only at hyp
      refine am_callV [] dX12_angles_15 ml_X12_351 vm_X12_isRest (sh_54 g) rfl (fun _ => Nat.le_of_ble_eq_true rfl) (by omega) rfl (ef_X12_isRest (d := d + 0) (h := h) g hk8) rfl ?_
      change am_At _ _ _ 18 [_, _, _, _] [_] _ _
      refine am_if_ne (4) 22 dX12_angles_18 rfl ?_ ?_
      · intro hc9n
        have hc9n : ¬ (v8 = 0) := hc9n
        replace hyp := it_neg hc9n hyp
        refine am_iconst 0 (v := 0) dX12_angles_22 (by decide) ?_
        refine am_istore_n dX12_angles_23 (am_lb rfl) ?_
        change am_At _ _ _ 24 [_, _, _, _] [] _ _
        obtain ⟨M13, hw13, hyp⟩ := bd_some hyp
        refine am_At.drop 1 ?_
        refine am_At.drop 2 ?_
        try dsimp only at hyp
        refine eL_RX12_angles_24 (d := d) (h := h) g er_X12_angles  FU ((0 : Int32), M) M13 hw13 ?_
        change am_At _ _ _ 55 [_, _, _, _] [] _ _
        refine am_aload_n dX12_angles_55 rfl ?_
        refine am_dup dX12_angles_56 (fun _ => rfl) ?_
        refine am_getI 12 46 dX12_angles_57 fg_X12_354 (sh_54 g) (by decide) rfl ?_
        refine am_iconst 1 (v := 1) dX12_angles_60 (by decide) ?_
        refine am_iadd dX12_angles_61 ?_
        refine am_putI 12 46 dX12_angles_62 (Or.inl fp_X12_354) (sh_54 g) (by decide) rfl rfl rfl ?_
        cases hyp
        exact am_vret dX12_angles_65 rfl
      · intro hc9
        have hc9 : v8 = 0 := hc9
        replace hyp := it_pos hc9 hyp
        cases hyp
        exact am_vret dX12_angles_21 rfl
theorem erec_angles {d : Nat} {h : am_H} (g : lay h) : ∀ (n : Nat), (∀ {x1 x2 : Int32} {M M' : Mem} , (rec_angles n) x1 x2 M = some M' → am_Ev (d + n + 0) mX12_angles [.inr (54, 0), am_I x1, am_I x2] (am_hM h M) (.inl (none, am_hM h M')))
  | 0 => (fun hyp => nomatch hyp)
  | n + 1 => (fun hyp => by
      rw [show d + (n + 1) + 0 = d + n + 1 by omega]
      exact ef_RX12_angles (d := d + n) g (erec_angles g n) hyp)
theorem ef_X12_angles {d : Nat} {h : am_H} (g : lay h) : ∀ {x1 x2 : Int32} {M M' : Mem} , f_X12_angles x1 x2 M = some M' → am_Ev (d + 30) mX12_angles [.inr (54, 0), am_I x1, am_I x2] (am_hM h M) (.inl (none, am_hM h M')) := fun hyp => (erec_angles (d := d) g 30) hyp
theorem ef_X0_settle {d : Nat} {h : am_H} (g : lay h) {x1 : Int32} {M : Mem} {M' : Mem} (hyp : f_X0_settle x1 M = some M') : am_Ev (d + 31) mX0_settle [.inr (51, 0), am_I x1] (am_hM h M) (.inl (none, am_hM h M')) := by
  unfold f_X0_settle at hyp
  refine am_Ev.mk (by decide +kernel) rfl rfl (Nat.le_refl _) (Nat.le_refl _) ?_
  change am_At _ _ _ 0 [_, _] [] _ _
  refine am_aload_n dX0_settle_0 rfl ?_
  refine am_iconst 0 (v := 0) dX0_settle_1 (by decide) ?_
  refine am_putI 0 3 dX0_settle_2 (Or.inl fp_X0_22) (sh_51 g) (by decide) rfl rfl rfl ?_
  refine am_aload_n dX0_settle_5 rfl ?_
  refine am_iconst 0 (v := 0) dX0_settle_6 (by decide) ?_
  refine am_iload_n dX0_settle_7 rfl ?_
  obtain ⟨M1, hk1, hyp⟩ := bd_some hyp
  try dsimp only at hyp
  refine am_callV [_, _] dX0_settle_8 ml_X0_26 vm_X0_place (sh_51 g) rfl (fun _ => Nat.le_of_ble_eq_true rfl) (by omega) rfl (ef_X0_place (d := d + 0) (h := h) g hk1) rfl ?_
  change am_At _ _ _ 11 [_, _] [] _ _
  cases hyp
  exact am_vret dX0_settle_11 rfl
theorem ef_X10_expect {d : Nat} {h : am_H} (g : lay h) {x1 : Int32} {M : Mem} {M' : Mem} (hyp : f_X10_expect x1 M = some M') : am_Ev (d + 1) mX10_expect [.inr (1, 0), am_I x1] (am_hM h M) (.inl (none, am_hM h M')) := by
  unfold f_X10_expect at hyp
  refine am_Ev.mk (by decide +kernel) rfl rfl (Nat.le_refl _) (Nat.le_refl _) ?_
  change am_At _ _ _ 0 [_, _] [] _ _
  refine am_aload_n dX10_expect_0 rfl ?_
  obtain ⟨⟨v1, M1⟩, hk1, hyp⟩ := bd_some hyp
  try dsimp only at hyp
  refine am_callV [] dX10_expect_1 ml_X10_44 vm_X10_next (sh_1 g) rfl (fun _ => Nat.le_of_ble_eq_true rfl) (by omega) rfl (ef_X10_next (d := d + 0) (h := h) g hk1) rfl ?_
  change am_At _ _ _ 4 [_, _] [_] _ _
  refine am_iload_n dX10_expect_4 rfl ?_
  refine am_icmp_ne (16) 21 dX10_expect_5 rfl ?_ ?_
  · intro hc2n
    have hc2n : ¬ (v1 = x1) := hc2n
    replace hyp := it_neg hc2n hyp
    refine am_aload_n dX10_expect_21 rfl ?_
    refine am_iconst 1 (v := 1) dX10_expect_22 (by decide) ?_
    refine am_aload_n dX10_expect_23 rfl ?_
    refine am_getI 10 3 dX10_expect_24 fg_X10_31 (sh_1 g) (by decide) rfl ?_
    refine am_callV [_, _] dX10_expect_27 ml_X10_40 vm_X10_blame (sh_1 g) rfl (fun _ => Nat.le_of_ble_eq_true rfl) (by omega) rfl (ef_X10_blame (d := d + 0) (h := h) g (x1 := (1 : Int32)) (x2 := (M1 1 0 3)) (M := M1) rfl) rfl ?_
    change am_At _ _ _ 30 [_, _] [] _ _
    cases hyp
    exact am_vret dX10_expect_30 rfl
  · intro hc2
    have hc2 : v1 = x1 := hc2
    replace hyp := it_pos hc2 hyp
    refine am_aload_n dX10_expect_8 rfl ?_
    refine am_dup dX10_expect_9 (fun _ => rfl) ?_
    refine am_getI 10 3 dX10_expect_10 fg_X10_31 (sh_1 g) (by decide) rfl ?_
    refine am_iconst 1 (v := 1) dX10_expect_13 (by decide) ?_
    refine am_iadd dX10_expect_14 ?_
    refine am_putI 10 3 dX10_expect_15 (Or.inl fp_X10_31) (sh_1 g) (by decide) rfl rfl rfl ?_
    refine am_goto (12) 30 dX10_expect_18 rfl ?_
    cases hyp
    exact am_vret dX10_expect_30 rfl
theorem ef_X10_isAtDigit {d : Nat} {h : am_H} (g : lay h) {M : Mem} {v : Int32} {M' : Mem} (hyp : f_X10_isAtDigit M = some (v, M')) : am_Ev (d + 1) mX10_isAtDigit [.inr (1, 0)] (am_hM h M) (.inl (some (am_I v), am_hM h M')) := by
  unfold f_X10_isAtDigit at hyp
  refine am_Ev.mk (by decide +kernel) rfl rfl (Nat.le_refl _) (Nat.le_refl _) ?_
  change am_At _ _ _ 0 [_, _] [] _ _
  refine am_aload_n dX10_isAtDigit_0 rfl ?_
  obtain ⟨⟨v1, M1⟩, hk1, hyp⟩ := bd_some hyp
  try dsimp only at hyp
  refine am_callV [] dX10_isAtDigit_1 ml_X10_44 vm_X10_next (sh_1 g) rfl (fun _ => Nat.le_of_ble_eq_true rfl) (by omega) rfl (ef_X10_next (d := d + 0) (h := h) g hk1) rfl ?_
  change am_At _ _ _ 4 [_, _] [_] _ _
  refine am_istore_n dX10_isAtDigit_4 (am_lb rfl) ?_
  change am_At _ _ _ 5 [_, _] [] _ _
  refine am_iload_n dX10_isAtDigit_5 rfl ?_
  refine am_bipush 48 (v := 48) dX10_isAtDigit_6 (by decide) ?_
  refine am_icmp_lt (13) 21 dX10_isAtDigit_8 rfl ?_ ?_
  · intro hc2
    have hc2 : v1 < (48 : Int32) := hc2
    replace hyp := it_pos hc2 hyp
    refine am_iconst 0 (v := 0) dX10_isAtDigit_21 (by decide) ?_
    cases hyp
    exact am_zret dX10_isAtDigit_22 rfl rfl
  · intro hc2n
    have hc2n : ¬ (v1 < (48 : Int32)) := hc2n
    replace hyp := it_neg hc2n hyp
    refine am_iload_n dX10_isAtDigit_11 rfl ?_
    refine am_bipush 57 (v := 57) dX10_isAtDigit_12 (by decide) ?_
    refine am_icmp_gt (7) 21 dX10_isAtDigit_14 rfl ?_ ?_
    · intro hc3
      have hc3 : (57 : Int32) < v1 := hc3
      replace hyp := it_pos hc3 hyp
      refine am_iconst 0 (v := 0) dX10_isAtDigit_21 (by decide) ?_
      cases hyp
      exact am_zret dX10_isAtDigit_22 rfl rfl
    · intro hc3n
      have hc3n : ¬ ((57 : Int32) < v1) := hc3n
      replace hyp := it_neg hc3n hyp
      refine am_iconst 1 (v := 1) dX10_isAtDigit_17 (by decide) ?_
      refine am_goto (4) 22 dX10_isAtDigit_18 rfl ?_
      cases hyp
      exact am_zret dX10_isAtDigit_22 rfl rfl
theorem ef_X10_isAtEnd {d : Nat} {h : am_H} (g : lay h) {M : Mem} {v : Int32} {M' : Mem} (hyp : f_X10_isAtEnd M = some (v, M')) : am_Ev (d + 1) mX10_isAtEnd [.inr (1, 0)] (am_hM h M) (.inl (some (am_I v), am_hM h M')) := by
  unfold f_X10_isAtEnd at hyp
  refine am_Ev.mk (by decide +kernel) rfl rfl (Nat.le_refl _) (Nat.le_refl _) ?_
  change am_At _ _ _ 0 [_] [] _ _
  refine am_aload_n dX10_isAtEnd_0 rfl ?_
  obtain ⟨⟨v1, M1⟩, hk1, hyp⟩ := bd_some hyp
  try dsimp only at hyp
  refine am_callV [] dX10_isAtEnd_1 ml_X10_44 vm_X10_next (sh_1 g) rfl (fun _ => Nat.le_of_ble_eq_true rfl) (by omega) rfl (ef_X10_next (d := d + 0) (h := h) g hk1) rfl ?_
  change am_At _ _ _ 4 [_] [_] _ _
  refine am_iconst (-1) (v := (-1)) dX10_isAtEnd_4 (by decide) ?_
  refine am_icmp_ne (7) 12 dX10_isAtEnd_5 rfl ?_ ?_
  · intro hc2n
    have hc2n : ¬ (v1 = (-1 : Int32)) := hc2n
    replace hyp := it_neg hc2n hyp
    refine am_iconst 0 (v := 0) dX10_isAtEnd_12 (by decide) ?_
    cases hyp
    exact am_zret dX10_isAtEnd_13 rfl rfl
  · intro hc2
    have hc2 : v1 = (-1 : Int32) := hc2
    replace hyp := it_pos hc2 hyp
    refine am_iconst 1 (v := 1) dX10_isAtEnd_8 (by decide) ?_
    refine am_goto (4) 13 dX10_isAtEnd_9 rfl ?_
    cases hyp
    exact am_zret dX10_isAtEnd_13 rfl rfl
theorem ef_X11_anglers {d : Nat} {h : am_H} (g : lay h) {x1 x2 : Int32} {M : Mem} {y : (Int32 ⊕ String) × Mem} (hyp : f_X11_anglers x1 x2 M = some y) : am_Ev (d + 32) mX11_anglers [.inr (0, 0), am_I x1, am_I x2] (am_hM h M) (am_o1 h y) := by
  unfold f_X11_anglers at hyp
  refine am_Ev.mk (by decide +kernel) rfl rfl (am_oc1 h y) (am_os1 h y) ?_
  change am_At _ _ _ 0 [_, _, _] [] _ _
  refine am_aload_n dX11_anglers_0 rfl ?_
  refine am_iload_n dX11_anglers_1 rfl ?_
  refine am_iconst 0 (v := 0) dX11_anglers_2 (by decide) ?_
  refine am_iconst 4 (v := 4) dX11_anglers_3 (by decide) ?_
  obtain ⟨⟨y1, M1⟩, hk1, hyp⟩ := bd_some hyp
  rcases y1 with v1 | E1
  rotate_left
  · try dsimp only at hyp
    cases hyp
    exact am_callVX [_, _, _] dX11_anglers_4 ml_X11_178 vm_X11_needFit (sh_0 g) rfl (fun _ => Nat.le_of_ble_eq_true rfl) (by omega) rfl (am_o0t (ef_X11_needFit (d := d + 31) (h := h) g hk1)) rfl
  try dsimp only at hyp
  refine am_callV [_, _, _] dX11_anglers_4 ml_X11_178 vm_X11_needFit (sh_0 g) rfl (fun _ => Nat.le_of_ble_eq_true rfl) (by omega) rfl (am_o0v (ef_X11_needFit (d := d + 31) (h := h) g hk1)) rfl ?_
  change am_At _ _ _ 7 [_, _, _] [] _ _
  refine am_aload_n dX11_anglers_7 rfl ?_
  refine am_iload_n dX11_anglers_8 rfl ?_
  refine am_iconst 0 (v := 0) dX11_anglers_9 (by decide) ?_
  refine am_iconst 1 (v := 1) dX11_anglers_10 (by decide) ?_
  obtain ⟨⟨y2, M2⟩, hk2, hyp⟩ := bd_some hyp
  rcases y2 with v2 | E2
  rotate_left
  · try dsimp only at hyp
    cases hyp
    exact am_callVX [_, _, _] dX11_anglers_11 ml_X11_178 vm_X11_needFit (sh_0 g) rfl (fun _ => Nat.le_of_ble_eq_true rfl) (by omega) rfl (am_o0t (ef_X11_needFit (d := d + 31) (h := h) g hk2)) rfl
  try dsimp only at hyp
  refine am_callV [_, _, _] dX11_anglers_11 ml_X11_178 vm_X11_needFit (sh_0 g) rfl (fun _ => Nat.le_of_ble_eq_true rfl) (by omega) rfl (am_o0v (ef_X11_needFit (d := d + 31) (h := h) g hk2)) rfl ?_
  change am_At _ _ _ 14 [_, _, _] [] _ _
  refine am_aload_n dX11_anglers_14 rfl ?_
  refine am_getR 11 11 51 dX11_anglers_15 fg_X11_91 (sh_0 g) (by decide) rfl (rf_0_11 g) ?_
  refine am_iload_n dX11_anglers_18 rfl ?_
  obtain ⟨M3, hk3, hyp⟩ := bd_some hyp
  try dsimp only at hyp
  refine am_callV [_] dX11_anglers_19 ml_X11_365 vm_X0_settle (sh_51 g) rfl (fun _ => Nat.le_of_ble_eq_true rfl) (by omega) rfl (ef_X0_settle (d := d + 0) (h := h) g hk3) rfl ?_
  change am_At _ _ _ 22 [_, _, _] [] _ _
  refine am_iload_n dX11_anglers_22 rfl ?_
  refine am_if_ne (13) 36 dX11_anglers_23 rfl ?_ ?_
  · intro hc4n
    have hc4n : ¬ (x2 = 0) := hc4n
    replace hyp := it_neg hc4n hyp
    refine am_aload_n dX11_anglers_36 rfl ?_
    refine am_getR 11 11 51 dX11_anglers_37 fg_X11_91 (sh_0 g) (by decide) rfl (rf_0_11 g) ?_
    obtain ⟨v5, hk5, hyp⟩ := bd_some hyp
    try dsimp only at hyp
    refine am_callV [] dX11_anglers_40 ml_X11_371 vm_X0_firstCatch (sh_51 g) rfl (fun _ => Nat.le_of_ble_eq_true rfl) (by omega) rfl (ef_X0_firstCatch (d := d + 31) (h := h) g hk5) rfl ?_
    change am_At _ _ _ 43 [_, _, _] [_] _ _
    cases hyp
    exact am_iret dX11_anglers_43 rfl
  · intro hc4
    have hc4 : x2 = 0 := hc4
    replace hyp := it_pos hc4 hyp
    refine am_aload_n dX11_anglers_26 rfl ?_
    refine am_getR 11 11 51 dX11_anglers_27 fg_X11_91 (sh_0 g) (by decide) rfl (rf_0_11 g) ?_
    refine am_getI 0 3 dX11_anglers_30 fg_X11_368 (sh_51 g) (by decide) rfl ?_
    refine am_goto (10) 43 dX11_anglers_33 rfl ?_
    cases hyp
    exact am_iret dX11_anglers_43 rfl
theorem ef_X11_barge {d : Nat} {h : am_H} (g : lay h) {x1 x2 : Int32} {M : Mem} {y : (Int32 ⊕ String) × Mem} (hyp : f_X11_barge x1 x2 M = some y) : am_Ev (d + 1) mX11_barge [.inr (0, 0), am_I x1, am_I x2] (am_hM h M) (am_o1 h y) := by
  unfold f_X11_barge at hyp
  refine am_Ev.mk (by decide +kernel) rfl rfl (am_oc1 h y) (am_os1 h y) ?_
  change am_At _ _ _ 0 [_, _, _] [] _ _
  refine am_aload_n dX11_barge_0 rfl ?_
  refine am_iload_n dX11_barge_1 rfl ?_
  refine am_aload_n dX11_barge_2 rfl ?_
  refine am_getR 11 1 3 dX11_barge_3 fg_X11_19 (sh_0 g) (by decide) rfl (rf_0_1 g) ?_
  refine am_getI 1 5 dX11_barge_6 fg_X11_182 (sh_3 g) (by decide) rfl ?_
  obtain ⟨⟨y1, M1⟩, hk1, hyp⟩ := bd_some hyp
  rcases y1 with v1 | E1
  rotate_left
  · try dsimp only at hyp
    cases hyp
    exact am_callVX [_, _] dX11_barge_9 ml_X11_233 vm_X11_needThere (sh_0 g) rfl (fun _ => Nat.le_of_ble_eq_true rfl) (by omega) rfl (am_o0t (ef_X11_needThere (d := d + 0) (h := h) g hk1)) rfl
  try dsimp only at hyp
  refine am_callV [_, _] dX11_barge_9 ml_X11_233 vm_X11_needThere (sh_0 g) rfl (fun _ => Nat.le_of_ble_eq_true rfl) (by omega) rfl (am_o0v (ef_X11_needThere (d := d + 0) (h := h) g hk1)) rfl ?_
  change am_At _ _ _ 12 [_, _, _] [] _ _
  refine am_aload_n dX11_barge_12 rfl ?_
  refine am_iload_n dX11_barge_13 rfl ?_
  refine am_iconst 0 (v := 0) dX11_barge_14 (by decide) ?_
  refine am_iconst 4 (v := 4) dX11_barge_15 (by decide) ?_
  obtain ⟨⟨y2, M2⟩, hk2, hyp⟩ := bd_some hyp
  rcases y2 with v2 | E2
  rotate_left
  · try dsimp only at hyp
    cases hyp
    exact am_callVX [_, _, _] dX11_barge_16 ml_X11_178 vm_X11_needFit (sh_0 g) rfl (fun _ => Nat.le_of_ble_eq_true rfl) (by omega) rfl (am_o0t (ef_X11_needFit (d := d + 0) (h := h) g hk2)) rfl
  try dsimp only at hyp
  refine am_callV [_, _, _] dX11_barge_16 ml_X11_178 vm_X11_needFit (sh_0 g) rfl (fun _ => Nat.le_of_ble_eq_true rfl) (by omega) rfl (am_o0v (ef_X11_needFit (d := d + 0) (h := h) g hk2)) rfl ?_
  change am_At _ _ _ 19 [_, _, _] [] _ _
  refine am_iload_n dX11_barge_19 rfl ?_
  by_cases hc3 : x2 = (0 : Int32)
  · refine am_tabIn (32) 52 dX11_barge_20 (by rw [hc3]; decide) (by rw [hc3]; decide) (by rw [hc3]; rfl) rfl ?_
    replace hyp := it_pos hc3 hyp
    refine am_aload_n dX11_barge_52 rfl ?_
    refine am_getR 11 1 3 dX11_barge_53 fg_X11_19 (sh_0 g) (by decide) rfl (rf_0_1 g) ?_
    refine am_getR 1 6 8 dX11_barge_56 fg_X11_236 (sh_3 g) (by decide) rfl (rf_3_6 g) ?_
    refine am_iload_n dX11_barge_59 rfl ?_
    obtain ⟨hg4, hyp⟩ := gd_some hyp
    refine am_iald dX11_barge_60 (am_ia.one (sh_8 g)) (am_lit hg4) ?_
    cases hyp
    exact am_iret dX11_barge_61 rfl
  · have hc3n := hc3
    replace hyp := it_neg hc3n hyp
    by_cases hc5 : x2 = (1 : Int32)
    · refine am_tabIn (42) 62 dX11_barge_20 (by rw [hc5]; decide) (by rw [hc5]; decide) (by rw [hc5]; rfl) rfl ?_
      replace hyp := it_pos hc5 hyp
      refine am_aload_n dX11_barge_62 rfl ?_
      refine am_getR 11 1 3 dX11_barge_63 fg_X11_19 (sh_0 g) (by decide) rfl (rf_0_1 g) ?_
      refine am_getR 1 7 9 dX11_barge_66 fg_X11_239 (sh_3 g) (by decide) rfl (rf_3_7 g) ?_
      refine am_iload_n dX11_barge_69 rfl ?_
      obtain ⟨hg6, hyp⟩ := gd_some hyp
      refine am_iald dX11_barge_70 (am_ia.one (sh_9 g)) (am_lit hg6) ?_
      cases hyp
      exact am_iret dX11_barge_71 rfl
    · have hc5n := hc5
      replace hyp := it_neg hc5n hyp
      by_cases hc7 : x2 = (2 : Int32)
      · refine am_tabIn (52) 72 dX11_barge_20 (by rw [hc7]; decide) (by rw [hc7]; decide) (by rw [hc7]; rfl) rfl ?_
        replace hyp := it_pos hc7 hyp
        refine am_aload_n dX11_barge_72 rfl ?_
        refine am_getR 11 5 29 dX11_barge_73 fg_X11_45 (sh_0 g) (by decide) rfl (rf_0_5 g) ?_
        refine am_iload_n dX11_barge_76 rfl ?_
        obtain ⟨v8, hk8, hyp⟩ := bd_some hyp
        try dsimp only at hyp
        refine am_callV [_] dX11_barge_77 ml_X11_242 vm_X8_passedBy (sh_29 g) rfl (fun _ => Nat.le_of_ble_eq_true rfl) (by omega) rfl (ef_X8_passedBy_30 (d := d + 0) (h := h) g hk8) rfl ?_
        change am_At _ _ _ 80 [_, _, _] [_] _ _
        cases hyp
        exact am_iret dX11_barge_80 rfl
      · have hc7n := hc7
        replace hyp := it_neg hc7n hyp
        by_cases hc9 : x2 = (3 : Int32)
        · refine am_tabIn (61) 81 dX11_barge_20 (by rw [hc9]; decide) (by rw [hc9]; decide) (by rw [hc9]; rfl) rfl ?_
          replace hyp := it_pos hc9 hyp
          refine am_aload_n dX11_barge_81 rfl ?_
          refine am_getR 11 5 29 dX11_barge_82 fg_X11_45 (sh_0 g) (by decide) rfl (rf_0_5 g) ?_
          refine am_iload_n dX11_barge_85 rfl ?_
          obtain ⟨v10, hk10, hyp⟩ := bd_some hyp
          try dsimp only at hyp
          refine am_callV [_] dX11_barge_86 ml_X11_245 vm_X8_whereIs (sh_29 g) rfl (fun _ => Nat.le_of_ble_eq_true rfl) (by omega) rfl (ef_X8_whereIs_30 (d := d + 0) (h := h) g hk10) rfl ?_
          change am_At _ _ _ 89 [_, _, _] [_] _ _
          cases hyp
          exact am_iret dX11_barge_89 rfl
        · have hc9n := hc9
          replace hyp := it_neg hc9n hyp
          refine am_tabOut 90 dX11_barge_20 (by have q0 := lv_neT (a := 0) hc3n (by decide); have q1 := lv_neT (a := 1) hc5n (by decide); have q2 := lv_neT (a := 2) hc7n (by decide); have q3 := lv_neT (a := 3) hc9n (by decide); omega) rfl ?_
          refine am_aload_n dX11_barge_90 rfl ?_
          refine am_getR 11 5 29 dX11_barge_91 fg_X11_45 (sh_0 g) (by decide) rfl (rf_0_5 g) ?_
          refine am_iload_n dX11_barge_94 rfl ?_
          obtain ⟨v11, hk11, hyp⟩ := bd_some hyp
          try dsimp only at hyp
          refine am_callV [_] dX11_barge_95 ml_X11_245 vm_X8_whereIs (sh_29 g) rfl (fun _ => Nat.le_of_ble_eq_true rfl) (by omega) rfl (ef_X8_whereIs_30 (d := d + 0) (h := h) g hk11) rfl ?_
          change am_At _ _ _ 98 [_, _, _] [_] _ _
          refine am_iconst 2 (v := 2) dX11_barge_98 (by decide) ?_
          refine am_icmp_ne (14) 113 dX11_barge_99 rfl ?_ ?_
          · intro hc12n
            have hc12n : ¬ (v11 = (2 : Int32)) := hc12n
            replace hyp := it_neg hc12n hyp
            refine am_iconst (-1) (v := (-1)) dX11_barge_113 (by decide) ?_
            cases hyp
            exact am_iret dX11_barge_114 rfl
          · intro hc12
            have hc12 : v11 = (2 : Int32) := hc12
            replace hyp := it_pos hc12 hyp
            refine am_aload_n dX11_barge_102 rfl ?_
            refine am_getR 11 5 29 dX11_barge_103 fg_X11_45 (sh_0 g) (by decide) rfl (rf_0_5 g) ?_
            refine am_iload_n dX11_barge_106 rfl ?_
            obtain ⟨v13, hk13, hyp⟩ := bd_some hyp
            try dsimp only at hyp
            refine am_callV [_] dX11_barge_107 ml_X11_248 vm_X8_throughHour (sh_29 g) rfl (fun _ => Nat.le_of_ble_eq_true rfl) (by omega) rfl (ef_X8_throughHour_30 (d := d + 0) (h := h) g hk13) rfl ?_
            change am_At _ _ _ 110 [_, _, _] [_] _ _
            refine am_goto (4) 114 dX11_barge_110 rfl ?_
            cases hyp
            exact am_iret dX11_barge_114 rfl
theorem eL_X11_narrow_23 {d : Nat} {h : am_H} (g : lay h) {x1 x2 : Int32} {M : Mem} {r : am_R} (n : Nat) : ∀ (s : Int32 × Int32 × Int32 × Int32) (e : Int32 × Int32), wh (L_X11_narrow_23 x1 M) n s = some e → (match e with | (x3, x4) => am_At am_X0 (d + 2) mX11_narrow 83 [some (.inr (0, 0)), some (am_I (x1)), some (am_I (x2)), some (am_I (x3)), some (am_I (x4)), none, none] [] (am_hM h M) r) → (match s with | (x3, x4, x5, x6) => am_At am_X0 (d + 2) mX11_narrow 23 [some (.inr (0, 0)), some (am_I (x1)), some (am_I (x2)), some (am_I (x3)), some (am_I (x4)), some (am_I (x5)), some (am_I (x6))] [] (am_hM h M) r) := by
  refine am_wh (At := fun (s : Int32 × Int32 × Int32 × Int32) => match s with | (x3, x4, x5, x6) => am_At am_X0 (d + 2) mX11_narrow 23 [some (.inr (0, 0)), some (am_I (x1)), some (am_I (x2)), some (am_I (x3)), some (am_I (x4)), some (am_I (x5)), some (am_I (x6))] [] (am_hM h M) r) (Ex := fun (e : Int32 × Int32) => match e with | (x3, x4) => am_At am_X0 (d + 2) mX11_narrow 83 [some (.inr (0, 0)), some (am_I (x1)), some (am_I (x2)), some (am_I (x3)), some (am_I (x4)), none, none] [] (am_hM h M) r) ?_ n
  rintro ⟨x3, x4, x5, x6⟩ y hyp hx
  unfold L_X11_narrow_23 at hyp
  try dsimp only at hyp
  change am_At _ _ _ 23 [_, _, _, _, _, _, _] [] _ _
  refine am_iload dX11_narrow_23 rfl ?_
  refine am_aload_n dX11_narrow_25 rfl ?_
  refine am_getR 11 1 3 dX11_narrow_26 fg_X11_19 (sh_0 g) (by decide) rfl (rf_0_1 g) ?_
  refine am_getI 1 0 dX11_narrow_29 fg_X11_142 (sh_3 g) (by decide) rfl ?_
  refine am_icmp_ge (51) 83 dX11_narrow_32 rfl ?_ ?_
  · intro hc3
    have hc3 : (M 3 0 0) ≤ x6 := hc3
    replace hyp := it_pos hc3 hyp
    cases hyp
    refine am_At.drop 5 ?_
    refine am_At.drop 6 ?_
    exact hx
  · intro hc3n
    have hc3n : ¬ ((M 3 0 0) ≤ x6) := hc3n
    replace hyp := it_neg hc3n hyp
    refine am_iload_n dX11_narrow_35 rfl ?_
    refine am_aload_n dX11_narrow_36 rfl ?_
    refine am_getR 11 1 3 dX11_narrow_37 fg_X11_19 (sh_0 g) (by decide) rfl (rf_0_1 g) ?_
    refine am_getR 1 1 4 dX11_narrow_40 fg_X11_212 (sh_3 g) (by decide) rfl (rf_3_1 g) ?_
    refine am_iload dX11_narrow_43 rfl ?_
    obtain ⟨hg4, hyp⟩ := gd_some hyp
    refine am_iald dX11_narrow_45 (am_ia.one (sh_4 g)) (am_lit hg4) ?_
    refine am_icmp_gt (10) 56 dX11_narrow_46 rfl ?_ ?_
    · intro hc5
      have hc5 : (M 4 0 x6.toNatClampNeg) < x1 := hc5
      replace hyp := it_pos hc5 hyp
      refine am_iconst 0 (v := 0) dX11_narrow_56 (by decide) ?_
      refine am_istore dX11_narrow_57 (am_lb rfl) ?_
      change am_At _ _ _ 59 [_, _, _, _, _, _, _] [] _ _
      refine am_iload dX11_narrow_59 rfl ?_
      refine am_iload_n dX11_narrow_61 rfl ?_
      refine am_icmp_le (15) 77 dX11_narrow_62 rfl ?_ ?_
      · intro hc6
        have hc6 : (0 : Int32) ≤ x3 := hc6
        replace hyp := it_pos hc6 hyp
        refine am_iinc dX11_narrow_77 rfl (am_ix _) ?_
        change am_At _ _ _ 80 [_, _, _, _, _, _, _] [] _ _
        refine am_goto (-57) 23 dX11_narrow_80 rfl ?_
        cases hyp
        exact hx
      · intro hc6n
        have hc6n : ¬ ((0 : Int32) ≤ x3) := hc6n
        replace hyp := it_neg hc6n hyp
        refine am_iload dX11_narrow_65 rfl ?_
        refine am_istore_n dX11_narrow_67 (am_lb rfl) ?_
        change am_At _ _ _ 68 [_, _, _, _, _, _, _] [] _ _
        refine am_iload dX11_narrow_68 rfl ?_
        refine am_iload dX11_narrow_70 rfl ?_
        refine am_isub dX11_narrow_72 ?_
        refine am_iconst 1 (v := 1) dX11_narrow_73 (by decide) ?_
        refine am_iadd dX11_narrow_74 ?_
        refine am_istore dX11_narrow_75 (am_lb rfl) ?_
        change am_At _ _ _ 77 [_, _, _, _, _, _, _] [] _ _
        refine am_iinc dX11_narrow_77 rfl (am_ix _) ?_
        change am_At _ _ _ 80 [_, _, _, _, _, _, _] [] _ _
        refine am_goto (-57) 23 dX11_narrow_80 rfl ?_
        cases hyp
        exact hx
    · intro hc5n
      have hc5n : ¬ ((M 4 0 x6.toNatClampNeg) < x1) := hc5n
      replace hyp := it_neg hc5n hyp
      refine am_iload dX11_narrow_49 rfl ?_
      refine am_iconst 1 (v := 1) dX11_narrow_51 (by decide) ?_
      refine am_iadd dX11_narrow_52 ?_
      refine am_goto (4) 57 dX11_narrow_53 rfl ?_
      refine am_istore dX11_narrow_57 (am_lb rfl) ?_
      change am_At _ _ _ 59 [_, _, _, _, _, _, _] [] _ _
      refine am_iload dX11_narrow_59 rfl ?_
      refine am_iload_n dX11_narrow_61 rfl ?_
      refine am_icmp_le (15) 77 dX11_narrow_62 rfl ?_ ?_
      · intro hc7
        have hc7 : (x5 + (1 : Int32)) ≤ x3 := hc7
        replace hyp := it_pos hc7 hyp
        refine am_iinc dX11_narrow_77 rfl (am_ix _) ?_
        change am_At _ _ _ 80 [_, _, _, _, _, _, _] [] _ _
        refine am_goto (-57) 23 dX11_narrow_80 rfl ?_
        cases hyp
        exact hx
      · intro hc7n
        have hc7n : ¬ ((x5 + (1 : Int32)) ≤ x3) := hc7n
        replace hyp := it_neg hc7n hyp
        refine am_iload dX11_narrow_65 rfl ?_
        refine am_istore_n dX11_narrow_67 (am_lb rfl) ?_
        change am_At _ _ _ 68 [_, _, _, _, _, _, _] [] _ _
        refine am_iload dX11_narrow_68 rfl ?_
        refine am_iload dX11_narrow_70 rfl ?_
        refine am_isub dX11_narrow_72 ?_
        refine am_iconst 1 (v := 1) dX11_narrow_73 (by decide) ?_
        refine am_iadd dX11_narrow_74 ?_
        refine am_istore dX11_narrow_75 (am_lb rfl) ?_
        change am_At _ _ _ 77 [_, _, _, _, _, _, _] [] _ _
        refine am_iinc dX11_narrow_77 rfl (am_ix _) ?_
        change am_At _ _ _ 80 [_, _, _, _, _, _, _] [] _ _
        refine am_goto (-57) 23 dX11_narrow_80 rfl ?_
        cases hyp
        exact hx
theorem ef_X11_narrow {d : Nat} {h : am_H} (g : lay h) {x1 x2 : Int32} {M : Mem} {y : (Int32 ⊕ String) × Mem} (hyp : f_X11_narrow x1 x2 M = some y) : am_Ev (d + 2) mX11_narrow [.inr (0, 0), am_I x1, am_I x2] (am_hM h M) (am_o1 h y) := by
  unfold f_X11_narrow at hyp
  refine am_Ev.mk (by decide +kernel) rfl rfl (am_oc1 h y) (am_os1 h y) ?_
  change am_At _ _ _ 0 [_, _, _, _, _, _, _] [] _ _
  refine am_aload_n dX11_narrow_0 rfl ?_
  refine am_iload_n dX11_narrow_1 rfl ?_
  obtain ⟨⟨y1, M1⟩, hk1, hyp⟩ := bd_some hyp
  rcases y1 with v1 | E1
  rotate_left
  · try dsimp only at hyp
    cases hyp
    exact am_callVX [_] dX11_narrow_2 ml_X11_272 vm_X11_needMast (sh_0 g) rfl (fun _ => Nat.le_of_ble_eq_true rfl) (by omega) rfl (am_o0t (ef_X11_needMast (d := d + 0) (h := h) g hk1)) rfl
  try dsimp only at hyp
  refine am_callV [_] dX11_narrow_2 ml_X11_272 vm_X11_needMast (sh_0 g) rfl (fun _ => Nat.le_of_ble_eq_true rfl) (by omega) rfl (am_o0v (ef_X11_needMast (d := d + 0) (h := h) g hk1)) rfl ?_
  change am_At _ _ _ 5 [_, _, _, _, _, _, _] [] _ _
  refine am_aload_n dX11_narrow_5 rfl ?_
  refine am_iload_n dX11_narrow_6 rfl ?_
  refine am_iconst 0 (v := 0) dX11_narrow_7 (by decide) ?_
  refine am_iconst 2 (v := 2) dX11_narrow_8 (by decide) ?_
  obtain ⟨⟨y2, M2⟩, hk2, hyp⟩ := bd_some hyp
  rcases y2 with v2 | E2
  rotate_left
  · try dsimp only at hyp
    cases hyp
    exact am_callVX [_, _, _] dX11_narrow_9 ml_X11_178 vm_X11_needFit (sh_0 g) rfl (fun _ => Nat.le_of_ble_eq_true rfl) (by omega) rfl (am_o0t (ef_X11_needFit (d := d + 1) (h := h) g hk2)) rfl
  try dsimp only at hyp
  refine am_callV [_, _, _] dX11_narrow_9 ml_X11_178 vm_X11_needFit (sh_0 g) rfl (fun _ => Nat.le_of_ble_eq_true rfl) (by omega) rfl (am_o0v (ef_X11_needFit (d := d + 1) (h := h) g hk2)) rfl ?_
  change am_At _ _ _ 12 [_, _, _, _, _, _, _] [] _ _
  refine am_iconst 0 (v := 0) dX11_narrow_12 (by decide) ?_
  refine am_istore_n dX11_narrow_13 (am_lb rfl) ?_
  change am_At _ _ _ 14 [_, _, _, _, _, _, _] [] _ _
  refine am_iconst (-1) (v := (-1)) dX11_narrow_14 (by decide) ?_
  refine am_istore dX11_narrow_15 (am_lb rfl) ?_
  change am_At _ _ _ 17 [_, _, _, _, _, _, _] [] _ _
  refine am_iconst 0 (v := 0) dX11_narrow_17 (by decide) ?_
  refine am_istore dX11_narrow_18 (am_lb rfl) ?_
  change am_At _ _ _ 20 [_, _, _, _, _, _, _] [] _ _
  refine am_iconst 0 (v := 0) dX11_narrow_20 (by decide) ?_
  refine am_istore dX11_narrow_21 (am_lb rfl) ?_
  change am_At _ _ _ 23 [_, _, _, _, _, _, _] [] _ _
  obtain ⟨⟨x3_8, x4_8⟩, hw8, hyp⟩ := bd_some hyp
  try dsimp only at hyp
  refine eL_X11_narrow_23 (d := d) (h := h) g (M := M2) FU ((0 : Int32), (-1 : Int32), (0 : Int32), (0 : Int32)) (x3_8, x4_8) hw8 ?_
  change am_At _ _ _ 83 [_, _, _, _, _, _, _] [] _ _
  refine am_iload_n dX11_narrow_83 rfl ?_
  refine am_if_ne (12) 96 dX11_narrow_84 rfl ?_ ?_
  · intro hc9n
    have hc9n : ¬ (x2 = 0) := hc9n
    replace hyp := it_neg hc9n hyp
    refine am_iload_n dX11_narrow_96 rfl ?_
    refine am_iconst 1 (v := 1) dX11_narrow_97 (by decide) ?_
    refine am_icmp_ne (7) 105 dX11_narrow_98 rfl ?_ ?_
    · intro hc10n
      have hc10n : ¬ (x2 = (1 : Int32)) := hc10n
      replace hyp := it_neg hc10n hyp
      refine am_iload dX11_narrow_105 rfl ?_
      cases hyp
      exact am_iret dX11_narrow_107 rfl
    · intro hc10
      have hc10 : x2 = (1 : Int32) := hc10
      replace hyp := it_pos hc10 hyp
      refine am_iload_n dX11_narrow_101 rfl ?_
      refine am_goto (5) 107 dX11_narrow_102 rfl ?_
      cases hyp
      exact am_iret dX11_narrow_107 rfl
  · intro hc9
    have hc9 : x2 = 0 := hc9
    replace hyp := it_pos hc9 hyp
    refine am_aload_n dX11_narrow_87 rfl ?_
    refine am_getR 11 1 3 dX11_narrow_88 fg_X11_19 (sh_0 g) (by decide) rfl (rf_0_1 g) ?_
    refine am_iload_n dX11_narrow_91 rfl ?_
    obtain ⟨v11, hk11, hyp⟩ := bd_some hyp
    try dsimp only at hyp
    refine am_callV [_] dX11_narrow_92 ml_X11_275 vm_X1_lowerThan (sh_3 g) rfl (fun _ => Nat.le_of_ble_eq_true rfl) (by omega) rfl (ef_X1_lowerThan (d := d + 1) (h := h) g hk11) rfl ?_
    change am_At _ _ _ 95 [_, _, _, _, _, _, _] [_] _ _
    cases hyp
    exact am_iret dX11_narrow_95 rfl
theorem ef_X11_needBits {d : Nat} {h : am_H} (g : lay h) {x1 x2 : Int32} {M : Mem} {y : (Int32 ⊕ String) × Mem} (hyp : f_X11_needBits x1 x2 M = some y) : am_Ev (d + 1) mX11_needBits [.inr (0, 0), am_I x1, am_I x2] (am_hM h M) (am_o0 h y) := by
  unfold f_X11_needBits at hyp
  refine am_Ev.mk (by decide +kernel) rfl rfl (am_oc0 h y) (am_os0 h y) ?_
  change am_At _ _ _ 0 [_, _, _] [] _ _
  refine am_aload_n dX11_needBits_0 rfl ?_
  refine am_iload_n dX11_needBits_1 rfl ?_
  refine am_iconst 0 (v := 0) dX11_needBits_2 (by decide) ?_
  refine am_iload_n dX11_needBits_3 rfl ?_
  refine am_callS (c := 0) (k := 0) (n := 0) (w := 0) [_] dX11_needBits_4 ml_X11_411 sm_X11_allBits rfl (fun _ => Nat.le_of_ble_eq_true rfl) (by omega) rfl (ef_X11_allBits (d := d + 0) (h := am_hM h M) (x0 := x2)  rfl) rfl ?_
  change am_At _ _ _ 7 [_, _, _] [_, _, _, _] _ _
  obtain ⟨⟨y1, M1⟩, hk1, hyp⟩ := bd_some hyp
  rcases y1 with v1 | E1
  rotate_left
  · try dsimp only at hyp
    cases hyp
    exact am_callVX [_, _, _] dX11_needBits_7 ml_X11_178 vm_X11_needFit (sh_0 g) rfl (fun _ => Nat.le_of_ble_eq_true rfl) (by omega) rfl (am_o0t (ef_X11_needFit (d := d + 0) (h := h) g hk1)) rfl
  try dsimp only at hyp
  refine am_callV [_, _, _] dX11_needBits_7 ml_X11_178 vm_X11_needFit (sh_0 g) rfl (fun _ => Nat.le_of_ble_eq_true rfl) (by omega) rfl (am_o0v (ef_X11_needFit (d := d + 0) (h := h) g hk1)) rfl ?_
  change am_At _ _ _ 10 [_, _, _] [] _ _
  cases hyp
  exact am_vret dX11_needBits_10 rfl
theorem ef_X11_needBoard {d : Nat} {h : am_H} (g : lay h) {x1 : Int32} {M : Mem} {y : (Int32 ⊕ String) × Mem} (hyp : f_X11_needBoard x1 M = some y) : am_Ev (d + 1) mX11_needBoard [.inr (0, 0), am_I x1] (am_hM h M) (am_o0 h y) := by
  unfold f_X11_needBoard at hyp
  refine am_Ev.mk (by decide +kernel) rfl rfl (am_oc0 h y) (am_os0 h y) ?_
  change am_At _ _ _ 0 [_, _] [] _ _
  refine am_aload_n dX11_needBoard_0 rfl ?_
  refine am_iload_n dX11_needBoard_1 rfl ?_
  refine am_aload_n dX11_needBoard_2 rfl ?_
  refine am_getR 11 1 3 dX11_needBoard_3 fg_X11_19 (sh_0 g) (by decide) rfl (rf_0_1 g) ?_
  refine am_getI 1 0 dX11_needBoard_6 fg_X11_142 (sh_3 g) (by decide) rfl ?_
  obtain ⟨⟨y1, M1⟩, hk1, hyp⟩ := bd_some hyp
  rcases y1 with v1 | E1
  rotate_left
  · try dsimp only at hyp
    cases hyp
    exact am_callVX [_, _] dX11_needBoard_9 ml_X11_233 vm_X11_needThere (sh_0 g) rfl (fun _ => Nat.le_of_ble_eq_true rfl) (by omega) rfl (am_o0t (ef_X11_needThere (d := d + 0) (h := h) g hk1)) rfl
  try dsimp only at hyp
  refine am_callV [_, _] dX11_needBoard_9 ml_X11_233 vm_X11_needThere (sh_0 g) rfl (fun _ => Nat.le_of_ble_eq_true rfl) (by omega) rfl (am_o0v (ef_X11_needThere (d := d + 0) (h := h) g hk1)) rfl ?_
  change am_At _ _ _ 12 [_, _] [] _ _
  cases hyp
  exact am_vret dX11_needBoard_12 rfl
theorem ef_X11_stand {d : Nat} {h : am_H} (g : lay h) {x1 x2 : Int32} {M : Mem} {y : (Int32 ⊕ String) × Mem} (hyp : f_X11_stand x1 x2 M = some y) : am_Ev (d + 32) mX11_stand [.inr (0, 0), am_I x1, am_I x2] (am_hM h M) (am_o1 h y) := by
  unfold f_X11_stand at hyp
  refine am_Ev.mk (by decide +kernel) rfl rfl (am_oc1 h y) (am_os1 h y) ?_
  change am_At _ _ _ 0 [_, _, _] [] _ _
  refine am_aload_n dX11_stand_0 rfl ?_
  refine am_iload_n dX11_stand_1 rfl ?_
  obtain ⟨⟨y1, M1⟩, hk1, hyp⟩ := bd_some hyp
  rcases y1 with v1 | E1
  rotate_left
  · try dsimp only at hyp
    cases hyp
    exact am_callVX [_] dX11_stand_2 ml_X11_209 vm_X11_needBoard (sh_0 g) rfl (fun _ => Nat.le_of_ble_eq_true rfl) (by omega) rfl (am_o0t (ef_X11_needBoard (d := d + 30) (h := h) g hk1)) rfl
  try dsimp only at hyp
  refine am_callV [_] dX11_stand_2 ml_X11_209 vm_X11_needBoard (sh_0 g) rfl (fun _ => Nat.le_of_ble_eq_true rfl) (by omega) rfl (am_o0v (ef_X11_needBoard (d := d + 30) (h := h) g hk1)) rfl ?_
  change am_At _ _ _ 5 [_, _, _] [] _ _
  refine am_aload_n dX11_stand_5 rfl ?_
  refine am_iload_n dX11_stand_6 rfl ?_
  refine am_iconst 0 (v := 0) dX11_stand_7 (by decide) ?_
  refine am_iconst 4 (v := 4) dX11_stand_8 (by decide) ?_
  obtain ⟨⟨y2, M2⟩, hk2, hyp⟩ := bd_some hyp
  rcases y2 with v2 | E2
  rotate_left
  · try dsimp only at hyp
    cases hyp
    exact am_callVX [_, _, _] dX11_stand_9 ml_X11_178 vm_X11_needFit (sh_0 g) rfl (fun _ => Nat.le_of_ble_eq_true rfl) (by omega) rfl (am_o0t (ef_X11_needFit (d := d + 31) (h := h) g hk2)) rfl
  try dsimp only at hyp
  refine am_callV [_, _, _] dX11_stand_9 ml_X11_178 vm_X11_needFit (sh_0 g) rfl (fun _ => Nat.le_of_ble_eq_true rfl) (by omega) rfl (am_o0v (ef_X11_needFit (d := d + 31) (h := h) g hk2)) rfl ?_
  change am_At _ _ _ 12 [_, _, _] [] _ _
  refine am_aload_n dX11_stand_12 rfl ?_
  refine am_getR 11 11 51 dX11_stand_13 fg_X11_91 (sh_0 g) (by decide) rfl (rf_0_11 g) ?_
  refine am_iload_n dX11_stand_16 rfl ?_
  obtain ⟨M3, hk3, hyp⟩ := bd_some hyp
  try dsimp only at hyp
  refine am_callV [_] dX11_stand_17 ml_X11_365 vm_X0_settle (sh_51 g) rfl (fun _ => Nat.le_of_ble_eq_true rfl) (by omega) rfl (ef_X0_settle (d := d + 0) (h := h) g hk3) rfl ?_
  change am_At _ _ _ 20 [_, _, _] [] _ _
  refine am_aload_n dX11_stand_20 rfl ?_
  refine am_getR 11 11 51 dX11_stand_21 fg_X11_91 (sh_0 g) (by decide) rfl (rf_0_11 g) ?_
  refine am_getI 0 3 dX11_stand_24 fg_X11_368 (sh_51 g) (by decide) rfl ?_
  refine am_if_ne (7) 34 dX11_stand_27 rfl ?_ ?_
  · intro hc4n
    have hc4n : ¬ ((M3 51 0 3) = 0) := hc4n
    replace hyp := it_neg hc4n hyp
    refine am_aload_n dX11_stand_34 rfl ?_
    refine am_getR 11 11 51 dX11_stand_35 fg_X11_91 (sh_0 g) (by decide) rfl (rf_0_11 g) ?_
    refine am_getR 0 2 53 dX11_stand_38 fg_X11_374 (sh_51 g) (by decide) rfl (rf_51_2 g) ?_
    refine am_iload_n dX11_stand_41 rfl ?_
    obtain ⟨hg5, hyp⟩ := gd_some hyp
    refine am_iald dX11_stand_42 (am_ia.one (sh_53 g)) (am_lit hg5) ?_
    cases hyp
    exact am_iret dX11_stand_43 rfl
  · intro hc4
    have hc4 : (M3 51 0 3) = 0 := hc4
    replace hyp := it_pos hc4 hyp
    refine am_iconst 0 (v := 0) dX11_stand_30 (by decide) ?_
    refine am_goto (12) 43 dX11_stand_31 rfl ?_
    cases hyp
    exact am_iret dX11_stand_43 rfl
theorem eL_X11_worst_14 {d : Nat} {h : am_H} (g : lay h) {x1 : Int32} {M : Mem} {r : am_R} (n : Nat) : ∀ (s : Int32 × Int32 × Int32) (e : Int32), wh (L_X11_worst_14 x1 M) n s = some e → ((fun (x2 : Int32) => am_At am_X0 (d + 1) mX11_worst 71 [some (.inr (0, 0)), some (am_I (x1)), some (am_I (x2)), none, none, none] [] (am_hM h M) r) e) → (match s with | (x2, x3, x4) => am_At am_X0 (d + 1) mX11_worst 14 [some (.inr (0, 0)), some (am_I (x1)), some (am_I (x2)), some (am_I (x3)), some (am_I (x4)), none] [] (am_hM h M) r) := by
  refine am_wh (At := fun (s : Int32 × Int32 × Int32) => match s with | (x2, x3, x4) => am_At am_X0 (d + 1) mX11_worst 14 [some (.inr (0, 0)), some (am_I (x1)), some (am_I (x2)), some (am_I (x3)), some (am_I (x4)), none] [] (am_hM h M) r) (Ex := fun (e : Int32) => (fun (x2 : Int32) => am_At am_X0 (d + 1) mX11_worst 71 [some (.inr (0, 0)), some (am_I (x1)), some (am_I (x2)), none, none, none] [] (am_hM h M) r) e) ?_ n
  rintro ⟨x2, x3, x4⟩ y hyp hx
  unfold L_X11_worst_14 at hyp
  try dsimp only at hyp
  change am_At _ _ _ 14 [_, _, _, _, _, _] [] _ _
  refine am_iload dX11_worst_14 rfl ?_
  refine am_aload_n dX11_worst_16 rfl ?_
  refine am_getR 11 1 3 dX11_worst_17 fg_X11_19 (sh_0 g) (by decide) rfl (rf_0_1 g) ?_
  refine am_getI 1 0 dX11_worst_20 fg_X11_142 (sh_3 g) (by decide) rfl ?_
  refine am_icmp_ge (48) 71 dX11_worst_23 rfl ?_ ?_
  · intro hc2
    have hc2 : (M 3 0 0) ≤ x4 := hc2
    replace hyp := it_pos hc2 hyp
    cases hyp
    refine am_At.drop 3 ?_
    refine am_At.drop 4 ?_
    exact hx
  · intro hc2n
    have hc2n : ¬ ((M 3 0 0) ≤ x4) := hc2n
    replace hyp := it_neg hc2n hyp
    refine am_iload_n dX11_worst_26 rfl ?_
    refine am_if_ne (15) 42 dX11_worst_27 rfl ?_ ?_
    · intro hc3n
      have hc3n : ¬ (x1 = 0) := hc3n
      replace hyp := it_neg hc3n hyp
      refine am_aload_n dX11_worst_42 rfl ?_
      refine am_getR 11 5 29 dX11_worst_43 fg_X11_45 (sh_0 g) (by decide) rfl (rf_0_5 g) ?_
      refine am_iload dX11_worst_46 rfl ?_
      obtain ⟨v4, hk4, hyp⟩ := bd_some hyp
      try dsimp only at hyp
      refine am_callV [_] dX11_worst_48 ml_X11_230 vm_X8_knocksAt (sh_29 g) rfl (fun _ => Nat.le_of_ble_eq_true rfl) (by omega) rfl (ef_X8_knocksAt_30 (d := d + 0) (h := h) g hk4) rfl ?_
      change am_At _ _ _ 51 [_, _, _, _, _, _] [_] _ _
      refine am_istore dX11_worst_51 (am_lb rfl) ?_
      change am_At _ _ _ 53 [_, _, _, _, _, _] [] _ _
      refine am_iload dX11_worst_53 rfl ?_
      refine am_iload_n dX11_worst_55 rfl ?_
      refine am_icmp_le (9) 65 dX11_worst_56 rfl ?_ ?_
      · intro hc5
        have hc5 : v4 ≤ x3 := hc5
        replace hyp := it_pos hc5 hyp
        refine am_iinc dX11_worst_65 rfl (am_ix _) ?_
        change am_At _ _ _ 68 [_, _, _, _, _, _] [] _ _
        refine am_goto (-54) 14 dX11_worst_68 rfl ?_
        cases hyp
        refine am_At.drop 5 ?_
        exact hx
      · intro hc5n
        have hc5n : ¬ (v4 ≤ x3) := hc5n
        replace hyp := it_neg hc5n hyp
        refine am_iload dX11_worst_59 rfl ?_
        refine am_istore_n dX11_worst_61 (am_lb rfl) ?_
        change am_At _ _ _ 62 [_, _, _, _, _, _] [] _ _
        refine am_iload dX11_worst_62 rfl ?_
        refine am_istore_n dX11_worst_64 (am_lb rfl) ?_
        change am_At _ _ _ 65 [_, _, _, _, _, _] [] _ _
        refine am_iinc dX11_worst_65 rfl (am_ix _) ?_
        change am_At _ _ _ 68 [_, _, _, _, _, _] [] _ _
        refine am_goto (-54) 14 dX11_worst_68 rfl ?_
        cases hyp
        refine am_At.drop 5 ?_
        exact hx
    · intro hc3
      have hc3 : x1 = 0 := hc3
      replace hyp := it_pos hc3 hyp
      refine am_aload_n dX11_worst_30 rfl ?_
      refine am_getR 11 5 29 dX11_worst_31 fg_X11_45 (sh_0 g) (by decide) rfl (rf_0_5 g) ?_
      refine am_iload dX11_worst_34 rfl ?_
      obtain ⟨v6, hk6, hyp⟩ := bd_some hyp
      try dsimp only at hyp
      refine am_callV [_] dX11_worst_36 ml_X11_227 vm_X8_finesOf (sh_29 g) rfl (fun _ => Nat.le_of_ble_eq_true rfl) (by omega) rfl (ef_X8_finesOf_30 (d := d + 0) (h := h) g hk6) rfl ?_
      change am_At _ _ _ 39 [_, _, _, _, _, _] [_] _ _
      refine am_goto (12) 51 dX11_worst_39 rfl ?_
      refine am_istore dX11_worst_51 (am_lb rfl) ?_
      change am_At _ _ _ 53 [_, _, _, _, _, _] [] _ _
      refine am_iload dX11_worst_53 rfl ?_
      refine am_iload_n dX11_worst_55 rfl ?_
      refine am_icmp_le (9) 65 dX11_worst_56 rfl ?_ ?_
      · intro hc7
        have hc7 : v6 ≤ x3 := hc7
        replace hyp := it_pos hc7 hyp
        refine am_iinc dX11_worst_65 rfl (am_ix _) ?_
        change am_At _ _ _ 68 [_, _, _, _, _, _] [] _ _
        refine am_goto (-54) 14 dX11_worst_68 rfl ?_
        cases hyp
        refine am_At.drop 5 ?_
        exact hx
      · intro hc7n
        have hc7n : ¬ (v6 ≤ x3) := hc7n
        replace hyp := it_neg hc7n hyp
        refine am_iload dX11_worst_59 rfl ?_
        refine am_istore_n dX11_worst_61 (am_lb rfl) ?_
        change am_At _ _ _ 62 [_, _, _, _, _, _] [] _ _
        refine am_iload dX11_worst_62 rfl ?_
        refine am_istore_n dX11_worst_64 (am_lb rfl) ?_
        change am_At _ _ _ 65 [_, _, _, _, _, _] [] _ _
        refine am_iinc dX11_worst_65 rfl (am_ix _) ?_
        change am_At _ _ _ 68 [_, _, _, _, _, _] [] _ _
        refine am_goto (-54) 14 dX11_worst_68 rfl ?_
        cases hyp
        refine am_At.drop 5 ?_
        exact hx
theorem ef_X11_worst {d : Nat} {h : am_H} (g : lay h) {x1 : Int32} {M : Mem} {y : (Int32 ⊕ String) × Mem} (hyp : f_X11_worst x1 M = some y) : am_Ev (d + 1) mX11_worst [.inr (0, 0), am_I x1] (am_hM h M) (am_o1 h y) := by
  unfold f_X11_worst at hyp
  refine am_Ev.mk (by decide +kernel) rfl rfl (am_oc1 h y) (am_os1 h y) ?_
  change am_At _ _ _ 0 [_, _, _, _, _, _] [] _ _
  refine am_aload_n dX11_worst_0 rfl ?_
  refine am_iload_n dX11_worst_1 rfl ?_
  refine am_iconst 0 (v := 0) dX11_worst_2 (by decide) ?_
  refine am_iconst 1 (v := 1) dX11_worst_3 (by decide) ?_
  obtain ⟨⟨y1, M1⟩, hk1, hyp⟩ := bd_some hyp
  rcases y1 with v1 | E1
  rotate_left
  · try dsimp only at hyp
    cases hyp
    exact am_callVX [_, _, _] dX11_worst_4 ml_X11_178 vm_X11_needFit (sh_0 g) rfl (fun _ => Nat.le_of_ble_eq_true rfl) (by omega) rfl (am_o0t (ef_X11_needFit (d := d + 0) (h := h) g hk1)) rfl
  try dsimp only at hyp
  refine am_callV [_, _, _] dX11_worst_4 ml_X11_178 vm_X11_needFit (sh_0 g) rfl (fun _ => Nat.le_of_ble_eq_true rfl) (by omega) rfl (am_o0v (ef_X11_needFit (d := d + 0) (h := h) g hk1)) rfl ?_
  change am_At _ _ _ 7 [_, _, _, _, _, _] [] _ _
  refine am_iconst (-1) (v := (-1)) dX11_worst_7 (by decide) ?_
  refine am_istore_n dX11_worst_8 (am_lb rfl) ?_
  change am_At _ _ _ 9 [_, _, _, _, _, _] [] _ _
  refine am_iconst 0 (v := 0) dX11_worst_9 (by decide) ?_
  refine am_istore_n dX11_worst_10 (am_lb rfl) ?_
  change am_At _ _ _ 11 [_, _, _, _, _, _] [] _ _
  refine am_iconst 0 (v := 0) dX11_worst_11 (by decide) ?_
  refine am_istore dX11_worst_12 (am_lb rfl) ?_
  change am_At _ _ _ 14 [_, _, _, _, _, _] [] _ _
  obtain ⟨x2_8, hw8, hyp⟩ := bd_some hyp
  try dsimp only at hyp
  refine eL_X11_worst_14 (d := d) (h := h) g (M := M1) FU ((-1 : Int32), (0 : Int32), (0 : Int32)) x2_8 hw8 ?_
  change am_At _ _ _ 71 [_, _, _, _, _, _] [] _ _
  refine am_iload_n dX11_worst_71 rfl ?_
  cases hyp
  exact am_iret dX11_worst_72 rfl
theorem ef_X12_areBoards {d : Nat} {h : am_H} (g : lay h) {x1 : Int32} {M : Mem} {v : Int32} (hyp : f_X12_areBoards x1 M = v) : am_Ev (d + 1) mX12_areBoards [.inr (54, 0), am_I x1] (am_hM h M) (.inl (some (am_I v), am_hM h M)) := by
  unfold f_X12_areBoards at hyp
  refine am_Ev.mk (by decide +kernel) rfl rfl (Nat.le_refl _) (Nat.le_refl _) ?_
  change am_At _ _ _ 0 [_, _] [] _ _
  refine am_iload_n dX12_areBoards_0 rfl ?_
  refine am_iconst 0 (v := 0) dX12_areBoards_1 (by decide) ?_
  refine am_iconst 1 (v := 1) dX12_areBoards_2 (by decide) ?_
  refine am_aload_n dX12_areBoards_3 rfl ?_
  refine am_getR 12 12 58 dX12_areBoards_4 fg_X12_23 (sh_54 g) (by decide) rfl (rf_54_12 g) ?_
  refine am_iconst 0 (v := 0) dX12_areBoards_7 (by decide) ?_
  refine am_iald dX12_areBoards_8 (am_ia.one (sh_58 g)) (am_lit rfl) ?_
  refine am_ishl dX12_areBoards_9 ?_
  refine am_iconst 1 (v := 1) dX12_areBoards_10 (by decide) ?_
  refine am_isub dX12_areBoards_11 ?_
  refine am_callS (c := 0) (k := 0) (n := 0) (w := 0) [_, _, _] dX12_areBoards_12 ml_X12_137 sm_X12_in rfl (fun _ => Nat.le_of_ble_eq_true rfl) (by omega) rfl (ef_X12_in (d := d + 0) (h := am_hM h M) (x0 := x1) (x1 := (0 : Int32)) (x2 := (((1 : Int32) <<< ((M 58 0 0) &&& 31)) - (1 : Int32)))  rfl) rfl ?_
  change am_At _ _ _ 15 [_, _] [_] _ _
  cases hyp
  exact am_zret dX12_areBoards_15 rfl (isb_nf (isb_X12_in _ _ _)).1
theorem ef_X12_barge {d : Nat} {h : am_H} (g : lay h) {x1 x2 : Int32} {M : Mem} {v : Int32} {M' : Mem} (hyp : f_X12_barge x1 x2 M = some (v, M')) : am_Ev (d + 1) mX12_barge [.inr (54, 0), am_I x1, am_I x2] (am_hM h M) (.inl (some (am_I v), am_hM h M')) := by
  unfold f_X12_barge at hyp
  refine am_Ev.mk (by decide +kernel) rfl rfl (Nat.le_refl _) (Nat.le_refl _) ?_
  change am_At _ _ _ 0 [_, _, _] [] _ _
  refine am_aload_n dX12_barge_0 rfl ?_
  refine am_iconst 0 (v := 0) dX12_barge_1 (by decide) ?_
  refine am_putI 12 0 dX12_barge_2 (Or.inl fp_X12_103) (sh_54 g) (by decide) rfl rfl rfl ?_
  refine am_aload_n dX12_barge_5 rfl ?_
  refine am_iload_n dX12_barge_6 rfl ?_
  refine am_iconst 0 (v := 0) dX12_barge_7 (by decide) ?_
  refine am_aload_n dX12_barge_8 rfl ?_
  refine am_getR 12 12 58 dX12_barge_9 fg_X12_23 (sh_54 g) (by decide) rfl (rf_54_12 g) ?_
  refine am_iconst 1 (v := 1) dX12_barge_12 (by decide) ?_
  refine am_iald dX12_barge_13 (am_ia.one (sh_58 g)) (am_lit rfl) ?_
  refine am_iconst 1 (v := 1) dX12_barge_14 (by decide) ?_
  refine am_isub dX12_barge_15 ?_
  refine am_callS (c := 0) (k := 0) (n := 0) (w := 0) [_, _, _] dX12_barge_16 ml_X12_137 sm_X12_in rfl (fun _ => Nat.le_of_ble_eq_true rfl) (by omega) rfl (ef_X12_in (d := d + 0) (h := am_hM h (am_u3 M 54 0 0 (0 : Int32))) (x0 := x1) (x1 := (0 : Int32)) (x2 := ((M 58 0 1) - (1 : Int32)))  rfl) rfl ?_
  change am_At _ _ _ 19 [_, _, _] [_, _] _ _
  refine am_if_ne (7) 26 dX12_barge_19 rfl ?_ ?_
  · intro hc1n
    have hc1n : ¬ ((f_X12_in x1 (0 : Int32) ((M 58 0 1) - (1 : Int32))) = 0) := hc1n
    replace hyp := it_neg hc1n hyp
    refine am_iconst 0 (v := 0) dX12_barge_26 (by decide) ?_
    refine am_iconst 1 (v := 1) dX12_barge_27 (by decide) ?_
    refine am_iconst 0 (v := 0) dX12_barge_28 (by decide) ?_
    obtain ⟨⟨v2, M2⟩, hk2, hyp⟩ := bd_some hyp
    try dsimp only at hyp
    refine am_callV [_, _, _] dX12_barge_29 ml_X12_179 vm_X12_bad (sh_54 g) rfl (fun _ => Nat.le_of_ble_eq_true rfl) (by omega) rfl (ef_X12_bad (d := d + 0) (h := h) g hk2) rfl ?_
    change am_At _ _ _ 32 [_, _, _] [_] _ _
    refine am_if_ne (26) 58 dX12_barge_32 rfl ?_ ?_
    · intro hc3n
      have hc3n : ¬ (v2 = 0) := hc3n
      replace hyp := it_neg hc3n hyp
      refine am_iconst 0 (v := 0) dX12_barge_58 (by decide) ?_
      cases hyp
      exact am_iret dX12_barge_59 rfl
    · intro hc3
      have hc3 : v2 = 0 := hc3
      replace hyp := it_pos hc3 hyp
      refine am_aload_n dX12_barge_35 rfl ?_
      refine am_iload_n dX12_barge_36 rfl ?_
      refine am_iconst 0 (v := 0) dX12_barge_37 (by decide) ?_
      refine am_iconst 4 (v := 4) dX12_barge_38 (by decide) ?_
      refine am_callS (c := 0) (k := 0) (n := 0) (w := 0) [_, _, _] dX12_barge_39 ml_X12_137 sm_X12_in rfl (fun _ => Nat.le_of_ble_eq_true rfl) (by omega) rfl (ef_X12_in (d := d + 0) (h := am_hM h M2) (x0 := x2) (x1 := (0 : Int32)) (x2 := (4 : Int32))  rfl) rfl ?_
      change am_At _ _ _ 42 [_, _, _] [_, _] _ _
      refine am_if_ne (7) 49 dX12_barge_42 rfl ?_ ?_
      · intro hc4n
        have hc4n : ¬ ((f_X12_in x2 (0 : Int32) (4 : Int32)) = 0) := hc4n
        replace hyp := it_neg hc4n hyp
        refine am_iconst 0 (v := 0) dX12_barge_49 (by decide) ?_
        refine am_iconst 2 (v := 2) dX12_barge_50 (by decide) ?_
        refine am_iconst 1 (v := 1) dX12_barge_51 (by decide) ?_
        obtain ⟨⟨v5, M5⟩, hk5, hyp⟩ := bd_some hyp
        try dsimp only at hyp
        refine am_callV [_, _, _] dX12_barge_52 ml_X12_179 vm_X12_bad (sh_54 g) rfl (fun _ => Nat.le_of_ble_eq_true rfl) (by omega) rfl (ef_X12_bad (d := d + 0) (h := h) g hk5) rfl ?_
        change am_At _ _ _ 55 [_, _, _] [_] _ _
        refine am_if_eq (5) 60 dX12_barge_55 rfl ?_ ?_
        · intro hc6
          have hc6 : v5 = 0 := hc6
          replace hyp := it_pos hc6 hyp
          refine am_iload_n dX12_barge_60 rfl ?_
          by_cases hc7 : x2 = (0 : Int32)
          · refine am_tabIn (31) 92 dX12_barge_61 (by rw [hc7]; decide) (by rw [hc7]; decide) (by rw [hc7]; rfl) rfl ?_
            replace hyp := it_pos hc7 hyp
            refine am_aload_n dX12_barge_92 rfl ?_
            refine am_getR 12 16 62 dX12_barge_93 fg_X12_37 (sh_54 g) (by decide) rfl (rf_54_16 g) ?_
            refine am_iload_n dX12_barge_96 rfl ?_
            obtain ⟨hg8, hyp⟩ := gd_some hyp
            refine am_aald dX12_barge_97 (sh_62 g) (am_lit hg8) ?_
            refine am_iload_n dX12_barge_98 rfl ?_
            obtain ⟨hg9, hyp⟩ := gd_some hyp
            refine am_iald dX12_barge_99 (am_ia.row (sh_62 g) (by omega) (am_vlt (am_lit hg8))) (am_lit hg9) ?_
            cases hyp
            exact am_iret dX12_barge_100 rfl
          · have hc7n := hc7
            replace hyp := it_neg hc7n hyp
            by_cases hc10 : x2 = (1 : Int32)
            · refine am_tabIn (31) 92 dX12_barge_61 (by rw [hc10]; decide) (by rw [hc10]; decide) (by rw [hc10]; rfl) rfl ?_
              replace hyp := it_pos hc10 hyp
              refine am_aload_n dX12_barge_92 rfl ?_
              refine am_getR 12 16 62 dX12_barge_93 fg_X12_37 (sh_54 g) (by decide) rfl (rf_54_16 g) ?_
              refine am_iload_n dX12_barge_96 rfl ?_
              obtain ⟨hg11, hyp⟩ := gd_some hyp
              refine am_aald dX12_barge_97 (sh_62 g) (am_lit hg11) ?_
              refine am_iload_n dX12_barge_98 rfl ?_
              obtain ⟨hg12, hyp⟩ := gd_some hyp
              refine am_iald dX12_barge_99 (am_ia.row (sh_62 g) (by omega) (am_vlt (am_lit hg11))) (am_lit hg12) ?_
              cases hyp
              exact am_iret dX12_barge_100 rfl
            · have hc10n := hc10
              replace hyp := it_neg hc10n hyp
              by_cases hc13 : x2 = (2 : Int32)
              · refine am_tabIn (40) 101 dX12_barge_61 (by rw [hc13]; decide) (by rw [hc13]; decide) (by rw [hc13]; rfl) rfl ?_
                replace hyp := it_pos hc13 hyp
                refine am_aload_n dX12_barge_101 rfl ?_
                refine am_getR 12 29 72 dX12_barge_102 fg_X12_67 (sh_54 g) (by decide) rfl (rf_54_29 g) ?_
                refine am_bipush 48 (v := 48) dX12_barge_105 (by decide) ?_
                refine am_iload_n dX12_barge_107 rfl ?_
                refine am_iadd dX12_barge_108 ?_
                obtain ⟨hg14, hyp⟩ := gd_some hyp
                refine am_iald dX12_barge_109 (am_ia.one (sh_72 g)) (am_lit hg14) ?_
                cases hyp
                exact am_iret dX12_barge_110 rfl
              · have hc13n := hc13
                replace hyp := it_neg hc13n hyp
                by_cases hc15 : x2 = (3 : Int32)
                · refine am_tabIn (50) 111 dX12_barge_61 (by rw [hc15]; decide) (by rw [hc15]; decide) (by rw [hc15]; rfl) rfl ?_
                  replace hyp := it_pos hc15 hyp
                  refine am_aload_n dX12_barge_111 rfl ?_
                  refine am_getR 12 29 72 dX12_barge_112 fg_X12_67 (sh_54 g) (by decide) rfl (rf_54_29 g) ?_
                  refine am_bipush 53 (v := 53) dX12_barge_115 (by decide) ?_
                  refine am_iload_n dX12_barge_117 rfl ?_
                  refine am_iadd dX12_barge_118 ?_
                  obtain ⟨hg16, hyp⟩ := gd_some hyp
                  refine am_iald dX12_barge_119 (am_ia.one (sh_72 g)) (am_lit hg16) ?_
                  cases hyp
                  exact am_iret dX12_barge_120 rfl
                · have hc15n := hc15
                  replace hyp := it_neg hc15n hyp
                  refine am_tabOut 121 dX12_barge_61 (by have q0 := lv_neT (a := 0) hc7n (by decide); have q1 := lv_neT (a := 1) hc10n (by decide); have q2 := lv_neT (a := 2) hc13n (by decide); have q3 := lv_neT (a := 3) hc15n (by decide); omega) rfl ?_
                  refine am_aload_n dX12_barge_121 rfl ?_
                  refine am_getR 12 29 72 dX12_barge_122 fg_X12_67 (sh_54 g) (by decide) rfl (rf_54_29 g) ?_
                  refine am_bipush 58 (v := 58) dX12_barge_125 (by decide) ?_
                  refine am_iload_n dX12_barge_127 rfl ?_
                  refine am_iadd dX12_barge_128 ?_
                  obtain ⟨hg17, hyp⟩ := gd_some hyp
                  refine am_iald dX12_barge_129 (am_ia.one (sh_72 g)) (am_lit hg17) ?_
                  cases hyp
                  exact am_iret dX12_barge_130 rfl
        · intro hc6n
          have hc6n : ¬ (v5 = 0) := hc6n
          replace hyp := it_neg hc6n hyp
          refine am_iconst 0 (v := 0) dX12_barge_58 (by decide) ?_
          cases hyp
          exact am_iret dX12_barge_59 rfl
      · intro hc4
        have hc4 : (f_X12_in x2 (0 : Int32) (4 : Int32)) = 0 := hc4
        replace hyp := it_pos hc4 hyp
        refine am_iconst 1 (v := 1) dX12_barge_45 (by decide) ?_
        refine am_goto (4) 50 dX12_barge_46 rfl ?_
        refine am_iconst 2 (v := 2) dX12_barge_50 (by decide) ?_
        refine am_iconst 1 (v := 1) dX12_barge_51 (by decide) ?_
        obtain ⟨⟨v18, M18⟩, hk18, hyp⟩ := bd_some hyp
        try dsimp only at hyp
        refine am_callV [_, _, _] dX12_barge_52 ml_X12_179 vm_X12_bad (sh_54 g) rfl (fun _ => Nat.le_of_ble_eq_true rfl) (by omega) rfl (ef_X12_bad (d := d + 0) (h := h) g hk18) rfl ?_
        change am_At _ _ _ 55 [_, _, _] [_] _ _
        refine am_if_eq (5) 60 dX12_barge_55 rfl ?_ ?_
        · intro hc19
          have hc19 : v18 = 0 := hc19
          replace hyp := it_pos hc19 hyp
          refine am_iload_n dX12_barge_60 rfl ?_
          by_cases hc20 : x2 = (0 : Int32)
          · refine am_tabIn (31) 92 dX12_barge_61 (by rw [hc20]; decide) (by rw [hc20]; decide) (by rw [hc20]; rfl) rfl ?_
            replace hyp := it_pos hc20 hyp
            refine am_aload_n dX12_barge_92 rfl ?_
            refine am_getR 12 16 62 dX12_barge_93 fg_X12_37 (sh_54 g) (by decide) rfl (rf_54_16 g) ?_
            refine am_iload_n dX12_barge_96 rfl ?_
            obtain ⟨hg21, hyp⟩ := gd_some hyp
            refine am_aald dX12_barge_97 (sh_62 g) (am_lit hg21) ?_
            refine am_iload_n dX12_barge_98 rfl ?_
            obtain ⟨hg22, hyp⟩ := gd_some hyp
            refine am_iald dX12_barge_99 (am_ia.row (sh_62 g) (by omega) (am_vlt (am_lit hg21))) (am_lit hg22) ?_
            cases hyp
            exact am_iret dX12_barge_100 rfl
          · have hc20n := hc20
            replace hyp := it_neg hc20n hyp
            by_cases hc23 : x2 = (1 : Int32)
            · refine am_tabIn (31) 92 dX12_barge_61 (by rw [hc23]; decide) (by rw [hc23]; decide) (by rw [hc23]; rfl) rfl ?_
              replace hyp := it_pos hc23 hyp
              refine am_aload_n dX12_barge_92 rfl ?_
              refine am_getR 12 16 62 dX12_barge_93 fg_X12_37 (sh_54 g) (by decide) rfl (rf_54_16 g) ?_
              refine am_iload_n dX12_barge_96 rfl ?_
              obtain ⟨hg24, hyp⟩ := gd_some hyp
              refine am_aald dX12_barge_97 (sh_62 g) (am_lit hg24) ?_
              refine am_iload_n dX12_barge_98 rfl ?_
              obtain ⟨hg25, hyp⟩ := gd_some hyp
              refine am_iald dX12_barge_99 (am_ia.row (sh_62 g) (by omega) (am_vlt (am_lit hg24))) (am_lit hg25) ?_
              cases hyp
              exact am_iret dX12_barge_100 rfl
            · have hc23n := hc23
              replace hyp := it_neg hc23n hyp
              by_cases hc26 : x2 = (2 : Int32)
              · refine am_tabIn (40) 101 dX12_barge_61 (by rw [hc26]; decide) (by rw [hc26]; decide) (by rw [hc26]; rfl) rfl ?_
                replace hyp := it_pos hc26 hyp
                refine am_aload_n dX12_barge_101 rfl ?_
                refine am_getR 12 29 72 dX12_barge_102 fg_X12_67 (sh_54 g) (by decide) rfl (rf_54_29 g) ?_
                refine am_bipush 48 (v := 48) dX12_barge_105 (by decide) ?_
                refine am_iload_n dX12_barge_107 rfl ?_
                refine am_iadd dX12_barge_108 ?_
                obtain ⟨hg27, hyp⟩ := gd_some hyp
                refine am_iald dX12_barge_109 (am_ia.one (sh_72 g)) (am_lit hg27) ?_
                cases hyp
                exact am_iret dX12_barge_110 rfl
              · have hc26n := hc26
                replace hyp := it_neg hc26n hyp
                by_cases hc28 : x2 = (3 : Int32)
                · refine am_tabIn (50) 111 dX12_barge_61 (by rw [hc28]; decide) (by rw [hc28]; decide) (by rw [hc28]; rfl) rfl ?_
                  replace hyp := it_pos hc28 hyp
                  refine am_aload_n dX12_barge_111 rfl ?_
                  refine am_getR 12 29 72 dX12_barge_112 fg_X12_67 (sh_54 g) (by decide) rfl (rf_54_29 g) ?_
                  refine am_bipush 53 (v := 53) dX12_barge_115 (by decide) ?_
                  refine am_iload_n dX12_barge_117 rfl ?_
                  refine am_iadd dX12_barge_118 ?_
                  obtain ⟨hg29, hyp⟩ := gd_some hyp
                  refine am_iald dX12_barge_119 (am_ia.one (sh_72 g)) (am_lit hg29) ?_
                  cases hyp
                  exact am_iret dX12_barge_120 rfl
                · have hc28n := hc28
                  replace hyp := it_neg hc28n hyp
                  refine am_tabOut 121 dX12_barge_61 (by have q0 := lv_neT (a := 0) hc20n (by decide); have q1 := lv_neT (a := 1) hc23n (by decide); have q2 := lv_neT (a := 2) hc26n (by decide); have q3 := lv_neT (a := 3) hc28n (by decide); omega) rfl ?_
                  refine am_aload_n dX12_barge_121 rfl ?_
                  refine am_getR 12 29 72 dX12_barge_122 fg_X12_67 (sh_54 g) (by decide) rfl (rf_54_29 g) ?_
                  refine am_bipush 58 (v := 58) dX12_barge_125 (by decide) ?_
                  refine am_iload_n dX12_barge_127 rfl ?_
                  refine am_iadd dX12_barge_128 ?_
                  obtain ⟨hg30, hyp⟩ := gd_some hyp
                  refine am_iald dX12_barge_129 (am_ia.one (sh_72 g)) (am_lit hg30) ?_
                  cases hyp
                  exact am_iret dX12_barge_130 rfl
        · intro hc19n
          have hc19n : ¬ (v18 = 0) := hc19n
          replace hyp := it_neg hc19n hyp
          refine am_iconst 0 (v := 0) dX12_barge_58 (by decide) ?_
          cases hyp
          exact am_iret dX12_barge_59 rfl
  · intro hc1
    have hc1 : (f_X12_in x1 (0 : Int32) ((M 58 0 1) - (1 : Int32))) = 0 := hc1
    replace hyp := it_pos hc1 hyp
    refine am_iconst 1 (v := 1) dX12_barge_22 (by decide) ?_
    refine am_goto (4) 27 dX12_barge_23 rfl ?_
    refine am_iconst 1 (v := 1) dX12_barge_27 (by decide) ?_
    refine am_iconst 0 (v := 0) dX12_barge_28 (by decide) ?_
    obtain ⟨⟨v31, M31⟩, hk31, hyp⟩ := bd_some hyp
    try dsimp only at hyp
    refine am_callV [_, _, _] dX12_barge_29 ml_X12_179 vm_X12_bad (sh_54 g) rfl (fun _ => Nat.le_of_ble_eq_true rfl) (by omega) rfl (ef_X12_bad (d := d + 0) (h := h) g hk31) rfl ?_
    change am_At _ _ _ 32 [_, _, _] [_] _ _
    refine am_if_ne (26) 58 dX12_barge_32 rfl ?_ ?_
    · intro hc32n
      have hc32n : ¬ (v31 = 0) := hc32n
      replace hyp := it_neg hc32n hyp
      refine am_iconst 0 (v := 0) dX12_barge_58 (by decide) ?_
      cases hyp
      exact am_iret dX12_barge_59 rfl
    · intro hc32
      have hc32 : v31 = 0 := hc32
      replace hyp := it_pos hc32 hyp
      refine am_aload_n dX12_barge_35 rfl ?_
      refine am_iload_n dX12_barge_36 rfl ?_
      refine am_iconst 0 (v := 0) dX12_barge_37 (by decide) ?_
      refine am_iconst 4 (v := 4) dX12_barge_38 (by decide) ?_
      refine am_callS (c := 0) (k := 0) (n := 0) (w := 0) [_, _, _] dX12_barge_39 ml_X12_137 sm_X12_in rfl (fun _ => Nat.le_of_ble_eq_true rfl) (by omega) rfl (ef_X12_in (d := d + 0) (h := am_hM h M31) (x0 := x2) (x1 := (0 : Int32)) (x2 := (4 : Int32))  rfl) rfl ?_
      change am_At _ _ _ 42 [_, _, _] [_, _] _ _
      refine am_if_ne (7) 49 dX12_barge_42 rfl ?_ ?_
      · intro hc33n
        have hc33n : ¬ ((f_X12_in x2 (0 : Int32) (4 : Int32)) = 0) := hc33n
        replace hyp := it_neg hc33n hyp
        refine am_iconst 0 (v := 0) dX12_barge_49 (by decide) ?_
        refine am_iconst 2 (v := 2) dX12_barge_50 (by decide) ?_
        refine am_iconst 1 (v := 1) dX12_barge_51 (by decide) ?_
        obtain ⟨⟨v34, M34⟩, hk34, hyp⟩ := bd_some hyp
        try dsimp only at hyp
        refine am_callV [_, _, _] dX12_barge_52 ml_X12_179 vm_X12_bad (sh_54 g) rfl (fun _ => Nat.le_of_ble_eq_true rfl) (by omega) rfl (ef_X12_bad (d := d + 0) (h := h) g hk34) rfl ?_
        change am_At _ _ _ 55 [_, _, _] [_] _ _
        refine am_if_eq (5) 60 dX12_barge_55 rfl ?_ ?_
        · intro hc35
          have hc35 : v34 = 0 := hc35
          replace hyp := it_pos hc35 hyp
          refine am_iload_n dX12_barge_60 rfl ?_
          by_cases hc36 : x2 = (0 : Int32)
          · refine am_tabIn (31) 92 dX12_barge_61 (by rw [hc36]; decide) (by rw [hc36]; decide) (by rw [hc36]; rfl) rfl ?_
            replace hyp := it_pos hc36 hyp
            refine am_aload_n dX12_barge_92 rfl ?_
            refine am_getR 12 16 62 dX12_barge_93 fg_X12_37 (sh_54 g) (by decide) rfl (rf_54_16 g) ?_
            refine am_iload_n dX12_barge_96 rfl ?_
            obtain ⟨hg37, hyp⟩ := gd_some hyp
            refine am_aald dX12_barge_97 (sh_62 g) (am_lit hg37) ?_
            refine am_iload_n dX12_barge_98 rfl ?_
            obtain ⟨hg38, hyp⟩ := gd_some hyp
            refine am_iald dX12_barge_99 (am_ia.row (sh_62 g) (by omega) (am_vlt (am_lit hg37))) (am_lit hg38) ?_
            cases hyp
            exact am_iret dX12_barge_100 rfl
          · have hc36n := hc36
            replace hyp := it_neg hc36n hyp
            by_cases hc39 : x2 = (1 : Int32)
            · refine am_tabIn (31) 92 dX12_barge_61 (by rw [hc39]; decide) (by rw [hc39]; decide) (by rw [hc39]; rfl) rfl ?_
              replace hyp := it_pos hc39 hyp
              refine am_aload_n dX12_barge_92 rfl ?_
              refine am_getR 12 16 62 dX12_barge_93 fg_X12_37 (sh_54 g) (by decide) rfl (rf_54_16 g) ?_
              refine am_iload_n dX12_barge_96 rfl ?_
              obtain ⟨hg40, hyp⟩ := gd_some hyp
              refine am_aald dX12_barge_97 (sh_62 g) (am_lit hg40) ?_
              refine am_iload_n dX12_barge_98 rfl ?_
              obtain ⟨hg41, hyp⟩ := gd_some hyp
              refine am_iald dX12_barge_99 (am_ia.row (sh_62 g) (by omega) (am_vlt (am_lit hg40))) (am_lit hg41) ?_
              cases hyp
              exact am_iret dX12_barge_100 rfl
            · have hc39n := hc39
              replace hyp := it_neg hc39n hyp
              by_cases hc42 : x2 = (2 : Int32)
              · refine am_tabIn (40) 101 dX12_barge_61 (by rw [hc42]; decide) (by rw [hc42]; decide) (by rw [hc42]; rfl) rfl ?_
                replace hyp := it_pos hc42 hyp
                refine am_aload_n dX12_barge_101 rfl ?_
                refine am_getR 12 29 72 dX12_barge_102 fg_X12_67 (sh_54 g) (by decide) rfl (rf_54_29 g) ?_
                refine am_bipush 48 (v := 48) dX12_barge_105 (by decide) ?_
                refine am_iload_n dX12_barge_107 rfl ?_
                refine am_iadd dX12_barge_108 ?_
                obtain ⟨hg43, hyp⟩ := gd_some hyp
                refine am_iald dX12_barge_109 (am_ia.one (sh_72 g)) (am_lit hg43) ?_
                cases hyp
                exact am_iret dX12_barge_110 rfl
              · have hc42n := hc42
                replace hyp := it_neg hc42n hyp
                by_cases hc44 : x2 = (3 : Int32)
                · refine am_tabIn (50) 111 dX12_barge_61 (by rw [hc44]; decide) (by rw [hc44]; decide) (by rw [hc44]; rfl) rfl ?_
                  replace hyp := it_pos hc44 hyp
                  refine am_aload_n dX12_barge_111 rfl ?_
                  refine am_getR 12 29 72 dX12_barge_112 fg_X12_67 (sh_54 g) (by decide) rfl (rf_54_29 g) ?_
                  refine am_bipush 53 (v := 53) dX12_barge_115 (by decide) ?_
                  refine am_iload_n dX12_barge_117 rfl ?_
                  refine am_iadd dX12_barge_118 ?_
                  obtain ⟨hg45, hyp⟩ := gd_some hyp
                  refine am_iald dX12_barge_119 (am_ia.one (sh_72 g)) (am_lit hg45) ?_
                  cases hyp
                  exact am_iret dX12_barge_120 rfl
                · have hc44n := hc44
                  replace hyp := it_neg hc44n hyp
                  refine am_tabOut 121 dX12_barge_61 (by have q0 := lv_neT (a := 0) hc36n (by decide); have q1 := lv_neT (a := 1) hc39n (by decide); have q2 := lv_neT (a := 2) hc42n (by decide); have q3 := lv_neT (a := 3) hc44n (by decide); omega) rfl ?_
                  refine am_aload_n dX12_barge_121 rfl ?_
                  refine am_getR 12 29 72 dX12_barge_122 fg_X12_67 (sh_54 g) (by decide) rfl (rf_54_29 g) ?_
                  refine am_bipush 58 (v := 58) dX12_barge_125 (by decide) ?_
                  refine am_iload_n dX12_barge_127 rfl ?_
                  refine am_iadd dX12_barge_128 ?_
                  obtain ⟨hg46, hyp⟩ := gd_some hyp
                  refine am_iald dX12_barge_129 (am_ia.one (sh_72 g)) (am_lit hg46) ?_
                  cases hyp
                  exact am_iret dX12_barge_130 rfl
        · intro hc35n
          have hc35n : ¬ (v34 = 0) := hc35n
          replace hyp := it_neg hc35n hyp
          refine am_iconst 0 (v := 0) dX12_barge_58 (by decide) ?_
          cases hyp
          exact am_iret dX12_barge_59 rfl
      · intro hc33
        have hc33 : (f_X12_in x2 (0 : Int32) (4 : Int32)) = 0 := hc33
        replace hyp := it_pos hc33 hyp
        refine am_iconst 1 (v := 1) dX12_barge_45 (by decide) ?_
        refine am_goto (4) 50 dX12_barge_46 rfl ?_
        refine am_iconst 2 (v := 2) dX12_barge_50 (by decide) ?_
        refine am_iconst 1 (v := 1) dX12_barge_51 (by decide) ?_
        obtain ⟨⟨v47, M47⟩, hk47, hyp⟩ := bd_some hyp
        try dsimp only at hyp
        refine am_callV [_, _, _] dX12_barge_52 ml_X12_179 vm_X12_bad (sh_54 g) rfl (fun _ => Nat.le_of_ble_eq_true rfl) (by omega) rfl (ef_X12_bad (d := d + 0) (h := h) g hk47) rfl ?_
        change am_At _ _ _ 55 [_, _, _] [_] _ _
        refine am_if_eq (5) 60 dX12_barge_55 rfl ?_ ?_
        · intro hc48
          have hc48 : v47 = 0 := hc48
          replace hyp := it_pos hc48 hyp
          refine am_iload_n dX12_barge_60 rfl ?_
          by_cases hc49 : x2 = (0 : Int32)
          · refine am_tabIn (31) 92 dX12_barge_61 (by rw [hc49]; decide) (by rw [hc49]; decide) (by rw [hc49]; rfl) rfl ?_
            replace hyp := it_pos hc49 hyp
            refine am_aload_n dX12_barge_92 rfl ?_
            refine am_getR 12 16 62 dX12_barge_93 fg_X12_37 (sh_54 g) (by decide) rfl (rf_54_16 g) ?_
            refine am_iload_n dX12_barge_96 rfl ?_
            obtain ⟨hg50, hyp⟩ := gd_some hyp
            refine am_aald dX12_barge_97 (sh_62 g) (am_lit hg50) ?_
            refine am_iload_n dX12_barge_98 rfl ?_
            obtain ⟨hg51, hyp⟩ := gd_some hyp
            refine am_iald dX12_barge_99 (am_ia.row (sh_62 g) (by omega) (am_vlt (am_lit hg50))) (am_lit hg51) ?_
            cases hyp
            exact am_iret dX12_barge_100 rfl
          · have hc49n := hc49
            replace hyp := it_neg hc49n hyp
            by_cases hc52 : x2 = (1 : Int32)
            · refine am_tabIn (31) 92 dX12_barge_61 (by rw [hc52]; decide) (by rw [hc52]; decide) (by rw [hc52]; rfl) rfl ?_
              replace hyp := it_pos hc52 hyp
              refine am_aload_n dX12_barge_92 rfl ?_
              refine am_getR 12 16 62 dX12_barge_93 fg_X12_37 (sh_54 g) (by decide) rfl (rf_54_16 g) ?_
              refine am_iload_n dX12_barge_96 rfl ?_
              obtain ⟨hg53, hyp⟩ := gd_some hyp
              refine am_aald dX12_barge_97 (sh_62 g) (am_lit hg53) ?_
              refine am_iload_n dX12_barge_98 rfl ?_
              obtain ⟨hg54, hyp⟩ := gd_some hyp
              refine am_iald dX12_barge_99 (am_ia.row (sh_62 g) (by omega) (am_vlt (am_lit hg53))) (am_lit hg54) ?_
              cases hyp
              exact am_iret dX12_barge_100 rfl
            · have hc52n := hc52
              replace hyp := it_neg hc52n hyp
              by_cases hc55 : x2 = (2 : Int32)
              · refine am_tabIn (40) 101 dX12_barge_61 (by rw [hc55]; decide) (by rw [hc55]; decide) (by rw [hc55]; rfl) rfl ?_
                replace hyp := it_pos hc55 hyp
                refine am_aload_n dX12_barge_101 rfl ?_
                refine am_getR 12 29 72 dX12_barge_102 fg_X12_67 (sh_54 g) (by decide) rfl (rf_54_29 g) ?_
                refine am_bipush 48 (v := 48) dX12_barge_105 (by decide) ?_
                refine am_iload_n dX12_barge_107 rfl ?_
                refine am_iadd dX12_barge_108 ?_
                obtain ⟨hg56, hyp⟩ := gd_some hyp
                refine am_iald dX12_barge_109 (am_ia.one (sh_72 g)) (am_lit hg56) ?_
                cases hyp
                exact am_iret dX12_barge_110 rfl
              · have hc55n := hc55
                replace hyp := it_neg hc55n hyp
                by_cases hc57 : x2 = (3 : Int32)
                · refine am_tabIn (50) 111 dX12_barge_61 (by rw [hc57]; decide) (by rw [hc57]; decide) (by rw [hc57]; rfl) rfl ?_
                  replace hyp := it_pos hc57 hyp
                  refine am_aload_n dX12_barge_111 rfl ?_
                  refine am_getR 12 29 72 dX12_barge_112 fg_X12_67 (sh_54 g) (by decide) rfl (rf_54_29 g) ?_
                  refine am_bipush 53 (v := 53) dX12_barge_115 (by decide) ?_
                  refine am_iload_n dX12_barge_117 rfl ?_
                  refine am_iadd dX12_barge_118 ?_
                  obtain ⟨hg58, hyp⟩ := gd_some hyp
                  refine am_iald dX12_barge_119 (am_ia.one (sh_72 g)) (am_lit hg58) ?_
                  cases hyp
                  exact am_iret dX12_barge_120 rfl
                · have hc57n := hc57
                  replace hyp := it_neg hc57n hyp
                  refine am_tabOut 121 dX12_barge_61 (by have q0 := lv_neT (a := 0) hc49n (by decide); have q1 := lv_neT (a := 1) hc52n (by decide); have q2 := lv_neT (a := 2) hc55n (by decide); have q3 := lv_neT (a := 3) hc57n (by decide); omega) rfl ?_
                  refine am_aload_n dX12_barge_121 rfl ?_
                  refine am_getR 12 29 72 dX12_barge_122 fg_X12_67 (sh_54 g) (by decide) rfl (rf_54_29 g) ?_
                  refine am_bipush 58 (v := 58) dX12_barge_125 (by decide) ?_
                  refine am_iload_n dX12_barge_127 rfl ?_
                  refine am_iadd dX12_barge_128 ?_
                  obtain ⟨hg59, hyp⟩ := gd_some hyp
                  refine am_iald dX12_barge_129 (am_ia.one (sh_72 g)) (am_lit hg59) ?_
                  cases hyp
                  exact am_iret dX12_barge_130 rfl
        · intro hc48n
          have hc48n : ¬ (v47 = 0) := hc48n
          replace hyp := it_neg hc48n hyp
          refine am_iconst 0 (v := 0) dX12_barge_58 (by decide) ?_
          cases hyp
          exact am_iret dX12_barge_59 rfl
