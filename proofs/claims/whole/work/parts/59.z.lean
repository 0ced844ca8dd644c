/-! what the constructors call, while the heap still grows -/
def layZ (N : Nat) (h : am_H) : Prop := h.1 = am_SH.take N ∧ (82 ≤ N → ∀ q ∈ am_RF, 54 ≤ q.1 → h.2.2 q.1 q.2.1 = some q.2.2)
theorem layZ.swW {h : am_H} {a b : Nat} (g : layZ 28 h) : layZ 28 (swW h a b) := ⟨g.1, fun z => absurd z (by decide)⟩
theorem zh_28_23 {h : am_H} (g : layZ 28 h) : h.1[23]? = some (3, 7, 0) := by rw [g.1]; rfl
theorem zh_28_25 {h : am_H} (g : layZ 28 h) : h.1[25]? = some (100, 150, 0) := by rw [g.1]; rfl
theorem zef_X3_add_24 {d : Nat} {h : am_H} (g : layZ 28 h) (hW : h.2.2 23 0 = some 24 ∧ h.2.2 23 2 = some 25) {x1 : Int32} {M : Mem} {M' : Mem} (hyp : f_X3_add 24 25 x1 M = some M') : am_Ev (d + 0) mX3_add [.inr (23, 0), am_I x1] (am_hM h M) (.inl (none, am_hM h M')) := by
  unfold f_X3_add at hyp
  refine am_Ev.mk (by decide +kernel) rfl rfl (Nat.le_refl _) (Nat.le_refl _) ?_
  change am_At _ _ _ 0 [_, _] [] _ _
  refine am_aload_n dX3_add_0 rfl ?_
  refine am_getI 3 3 dX3_add_1 fg_X3_27 (zh_28_23 g) (by decide) rfl ?_
  refine am_aload_n dX3_add_4 rfl ?_
  refine am_getR 3 2 25 dX3_add_5 fg_X3_15 (zh_28_23 g) (by decide) rfl hW.2 ?_
  refine am_alen dX3_add_8 (am_ia.one (zh_28_25 g)) rfl ?_
  refine am_icmp_ge (23) 32 dX3_add_9 rfl ?_ ?_
  · intro hc1
    have hc1 : (150 : Int32) ≤ (M 23 0 3) := hc1
    replace hyp := it_pos hc1 hyp
    cases hyp
    exact am_vret dX3_add_32 rfl
  · intro hc1n
    have hc1n : ¬ ((150 : Int32) ≤ (M 23 0 3)) := hc1n
    replace hyp := it_neg hc1n hyp
    refine am_aload_n dX3_add_12 rfl ?_
    refine am_getR 3 2 25 dX3_add_13 fg_X3_15 (zh_28_23 g) (by decide) rfl hW.2 ?_
    refine am_aload_n dX3_add_16 rfl ?_
    refine am_getI 3 3 dX3_add_17 fg_X3_27 (zh_28_23 g) (by decide) rfl ?_
    refine am_iload_n dX3_add_20 rfl ?_
    obtain ⟨hg2, hyp⟩ := gd_some hyp
    refine am_iast dX3_add_21 (am_ia.one (zh_28_25 g)) (am_lit hg2) ?_
    refine am_aload_n dX3_add_22 rfl ?_
    refine am_dup dX3_add_23 (fun _ => rfl) ?_
    refine am_getI 3 3 dX3_add_24 fg_X3_27 (zh_28_23 g) (by decide) rfl ?_
    refine am_iconst 1 (v := 1) dX3_add_27 (by decide) ?_
    refine am_iadd dX3_add_28 ?_
    refine am_putI 3 3 dX3_add_29 (Or.inl fp_X3_27) (zh_28_23 g) (by decide) rfl rfl rfl ?_
    cases hyp
    exact am_vret dX3_add_32 rfl
theorem zeL_X3_adoptDraft_33_25 {d : Nat} {h : am_H} (g : layZ 28 h) (hW : h.2.2 23 0 = some 25 ∧ h.2.2 23 2 = some 24) {r : am_R} (n : Nat) : ∀ (s : Int32 × Mem) (e : Mem), wh (L_X3_adoptDraft_33 25 24) n s = some e → ((fun (M : Mem) => am_At am_X0 (d + 0) mX3_adoptDraft 74 [some (.inr (23, 0)), some (.inr (24, 0)), none] [] (am_hM h M) r) e) → (match s with | (x2, M) => am_At am_X0 (d + 0) mX3_adoptDraft 33 [some (.inr (23, 0)), some (.inr (24, 0)), some (am_I (x2))] [] (am_hM h M) r) := by
  refine am_wh (At := fun (s : Int32 × Mem) => match s with | (x2, M) => am_At am_X0 (d + 0) mX3_adoptDraft 33 [some (.inr (23, 0)), some (.inr (24, 0)), some (am_I (x2))] [] (am_hM h M) r) (Ex := fun (e : Mem) => (fun (M : Mem) => am_At am_X0 (d + 0) mX3_adoptDraft 74 [some (.inr (23, 0)), some (.inr (24, 0)), none] [] (am_hM h M) r) e) ?_ n
  rintro ⟨x2, M⟩ y hyp hx
  unfold L_X3_adoptDraft_33 at hyp
  try dsimp only at hyp
  change am_At _ _ _ 33 [_, _, _] [] _ _
  refine am_iload_n dX3_adoptDraft_33 rfl ?_
  refine am_aload_n dX3_adoptDraft_34 rfl ?_
  refine am_getI 3 1 dX3_adoptDraft_35 fg_X3_55 (zh_28_23 g) (by decide) rfl ?_
  refine am_icmp_ge (36) 74 dX3_adoptDraft_38 rfl ?_ ?_
  · intro hc1
    have hc1 : (M 23 0 1) ≤ x2 := hc1
    replace hyp := it_pos hc1 hyp
    cases hyp
    refine am_At.drop 2 ?_
    exact hx
  · intro hc1n
    have hc1n : ¬ ((M 23 0 1) ≤ x2) := hc1n
    replace hyp := it_neg hc1n hyp
    refine am_aload_n dX3_adoptDraft_41 rfl ?_
    refine am_aload_n dX3_adoptDraft_42 rfl ?_
    refine am_getI 3 4 dX3_adoptDraft_43 fg_X3_51 (zh_28_23 g) (by decide) rfl ?_
    refine am_if_ne (14) 60 dX3_adoptDraft_46 rfl ?_ ?_
    · intro hc2n
      have hc2n : ¬ ((M 23 0 4) = 0) := hc2n
      replace hyp := it_neg hc2n hyp
      refine am_iconst 1 (v := 1) dX3_adoptDraft_60 (by decide) ?_
      refine am_goto (4) 65 dX3_adoptDraft_61 rfl ?_
      refine am_putI 3 4 dX3_adoptDraft_65 (Or.inl fp_X3_51) (zh_28_23 g) (by decide) rfl rfl rfl ?_
      refine am_iinc dX3_adoptDraft_68 rfl (am_ix _) ?_
      change am_At _ _ _ 71 [_, _, _] [] _ _
      refine am_goto (-38) 33 dX3_adoptDraft_71 rfl ?_
      cases hyp
      exact hx
    · intro hc2
      have hc2 : (M 23 0 4) = 0 := hc2
      replace hyp := it_pos hc2 hyp
      refine am_aload_n dX3_adoptDraft_49 rfl ?_
      refine am_getR 3 0 25 dX3_adoptDraft_50 fg_X3_9 (zh_28_23 g) (by decide) rfl hW.1 ?_
      refine am_iload_n dX3_adoptDraft_53 rfl ?_
      obtain ⟨hg3, hyp⟩ := gd_some hyp
      refine am_iald dX3_adoptDraft_54 (am_ia.one (zh_28_25 g)) (am_lit hg3) ?_
      refine am_bipush 7 (v := 7) dX3_adoptDraft_55 (by decide) ?_
      refine am_icmp_ne (7) 64 dX3_adoptDraft_57 rfl ?_ ?_
      · intro hc4n
        have hc4n : ¬ ((M 25 0 x2.toNatClampNeg) = (7 : Int32)) := hc4n
        replace hyp := it_neg hc4n hyp
        refine am_iconst 0 (v := 0) dX3_adoptDraft_64 (by decide) ?_
        refine am_putI 3 4 dX3_adoptDraft_65 (Or.inl fp_X3_51) (zh_28_23 g) (by decide) rfl rfl rfl ?_
        refine am_iinc dX3_adoptDraft_68 rfl (am_ix _) ?_
        change am_At _ _ _ 71 [_, _, _] [] _ _
        refine am_goto (-38) 33 dX3_adoptDraft_71 rfl ?_
        cases hyp
        exact hx
      · intro hc4
        have hc4 : (M 25 0 x2.toNatClampNeg) = (7 : Int32) := hc4
        replace hyp := it_pos hc4 hyp
        refine am_iconst 1 (v := 1) dX3_adoptDraft_60 (by decide) ?_
        refine am_goto (4) 65 dX3_adoptDraft_61 rfl ?_
        refine am_putI 3 4 dX3_adoptDraft_65 (Or.inl fp_X3_51) (zh_28_23 g) (by decide) rfl rfl rfl ?_
        refine am_iinc dX3_adoptDraft_68 rfl (am_ix _) ?_
        change am_At _ _ _ 71 [_, _, _] [] _ _
        refine am_goto (-38) 33 dX3_adoptDraft_71 rfl ?_
        cases hyp
        exact hx
theorem zef_X3_adoptDraft_24 {d : Nat} {h : am_H} (g : layZ 28 h) (hW : h.2.2 23 0 = some 24 ∧ h.2.2 23 2 = some 25) {M : Mem} {M' : Mem} (hyp : f_X3_adoptDraft 24 25 M = some M') : am_Ev (d + 0) mX3_adoptDraft [.inr (23, 0)] (am_hM h M) (.inl (none, am_hM (swW h 24 25) M')) := by
  unfold f_X3_adoptDraft at hyp
  refine am_Ev.mk (by decide +kernel) rfl rfl (Nat.le_refl _) (Nat.le_refl _) ?_
  change am_At _ _ _ 0 [_, _, _] [] _ _
  refine am_aload_n dX3_adoptDraft_0 rfl ?_
  refine am_getR 3 0 24 dX3_adoptDraft_1 fg_X3_9 (zh_28_23 g) (by decide) rfl hW.1 ?_
  refine am_astore_n dX3_adoptDraft_4 (am_lb rfl) ?_
  change am_At _ _ _ 5 [_, _, _] [] _ _
  refine am_aload_n dX3_adoptDraft_5 rfl ?_
  refine am_aload_n dX3_adoptDraft_6 rfl ?_
  refine am_getR 3 2 25 dX3_adoptDraft_7 fg_X3_15 (zh_28_23 g) (by decide) rfl hW.2 ?_
  refine am_putR 3 0 (t := 25) dX3_adoptDraft_10 (Or.inl fp_X3_9) (zh_28_23 g) (by decide) rfl (fun _ => rfl) (fun _ => rfl) ?_
  refine am_aload_n dX3_adoptDraft_13 rfl ?_
  refine am_aload_n dX3_adoptDraft_14 rfl ?_
  refine am_putR 3 2 (t := 24) dX3_adoptDraft_15 (Or.inl fp_X3_15) (zh_28_23 (h := h) g) (by decide) rfl (fun _ => rfl) (fun _ => rfl) ?_
  have g2 : layZ 28 (swW h 24 25) := layZ.swW g
  have hW2 : (swW h 24 25).2.2 23 0 = some 25 ∧ (swW h 24 25).2.2 23 2 = some 24 := ⟨rfl, rfl⟩
  change am_At _ _ _ 18 [_, _, _] [] (am_hM (swW h 24 25) M) _
  refine am_aload_n dX3_adoptDraft_18 rfl ?_
  refine am_aload_n dX3_adoptDraft_19 rfl ?_
  refine am_getI 3 3 dX3_adoptDraft_20 fg_X3_27 (zh_28_23 g2) (by decide) rfl ?_
  refine am_putI 3 1 dX3_adoptDraft_23 (Or.inl fp_X3_55) (zh_28_23 g2) (by decide) rfl rfl rfl ?_
  refine am_aload_n dX3_adoptDraft_26 rfl ?_
  refine am_iconst 0 (v := 0) dX3_adoptDraft_27 (by decide) ?_
  refine am_putI 3 4 dX3_adoptDraft_28 (Or.inl fp_X3_51) (zh_28_23 g2) (by decide) rfl rfl rfl ?_
  refine am_iconst 0 (v := 0) dX3_adoptDraft_31 (by decide) ?_
  refine am_istore_n dX3_adoptDraft_32 (am_lb rfl) ?_
  change am_At _ _ _ 33 [_, _, _] [] _ _
  obtain ⟨M1, hw1, hyp⟩ := bd_some hyp
  try dsimp only at hyp
  refine zeL_X3_adoptDraft_33_25 (d := d) (h := (swW h 24 25)) g2 hW2  FU ((0 : Int32), (am_u3 (am_u3 M 23 0 1 (M 23 0 3)) 23 0 4 (0 : Int32))) M1 hw1 ?_
  change am_At _ _ _ 74 [_, _, _] [] _ _
  cases hyp
  exact am_vret dX3_adoptDraft_74 rfl
theorem zef_X3_beUntold_24 {d : Nat} {h : am_H} (g : layZ 28 h) (hW : h.2.2 23 0 = some 24 ∧ h.2.2 23 2 = some 25) {M : Mem} {M' : Mem} (hyp : f_X3_beUntold 24 25 M = some M') : am_Ev (d + 1) mX3_beUntold [.inr (23, 0)] (am_hM h M) (.inl (none, am_hM (swW h 24 25) M')) := by
  unfold f_X3_beUntold at hyp
  refine am_Ev.mk (by decide +kernel) rfl rfl (Nat.le_refl _) (Nat.le_refl _) ?_
  change am_At _ _ _ 0 [_] [] _ _
  refine am_aload_n dX3_beUntold_0 rfl ?_
  refine am_iconst 0 (v := 0) dX3_beUntold_1 (by decide) ?_
  refine am_putI 3 3 dX3_beUntold_2 (Or.inl fp_X3_27) (zh_28_23 g) (by decide) rfl rfl rfl ?_
  refine am_aload_n dX3_beUntold_5 rfl ?_
  refine am_bipush 16 (v := 16) dX3_beUntold_6 (by decide) ?_
  obtain ⟨M1, hk1, hyp⟩ := bd_some hyp
  try dsimp only at hyp
  refine am_callV [_] dX3_beUntold_8 ml_X3_31 vm_X3_add (zh_28_23 g) rfl (fun _ => Nat.le_of_ble_eq_true rfl) (by omega) rfl (zef_X3_add_24 (d := d + 0) (h := h) g hW hk1) rfl ?_
  change am_At _ _ _ 11 [_] [] _ _
  refine am_aload_n dX3_beUntold_11 rfl ?_
  refine am_iconst 0 (v := 0) dX3_beUntold_12 (by decide) ?_
  obtain ⟨M2, hk2, hyp⟩ := bd_some hyp
  try dsimp only at hyp
  refine am_callV [_] dX3_beUntold_13 ml_X3_31 vm_X3_add (zh_28_23 g) rfl (fun _ => Nat.le_of_ble_eq_true rfl) (by omega) rfl (zef_X3_add_24 (d := d + 0) (h := h) g hW hk2) rfl ?_
  change am_At _ _ _ 16 [_] [] _ _
  refine am_aload_n dX3_beUntold_16 rfl ?_
  refine am_bipush 27 (v := 27) dX3_beUntold_17 (by decide) ?_
  obtain ⟨M3, hk3, hyp⟩ := bd_some hyp
  try dsimp only at hyp
  refine am_callV [_] dX3_beUntold_19 ml_X3_31 vm_X3_add (zh_28_23 g) rfl (fun _ => Nat.le_of_ble_eq_true rfl) (by omega) rfl (zef_X3_add_24 (d := d + 0) (h := h) g hW hk3) rfl ?_
  change am_At _ _ _ 22 [_] [] _ _
  refine am_aload_n dX3_beUntold_22 rfl ?_
  refine am_bipush 11 (v := 11) dX3_beUntold_23 (by decide) ?_
  obtain ⟨M4, hk4, hyp⟩ := bd_some hyp
  try dsimp only at hyp
  refine am_callV [_] dX3_beUntold_25 ml_X3_31 vm_X3_add (zh_28_23 g) rfl (fun _ => Nat.le_of_ble_eq_true rfl) (by omega) rfl (zef_X3_add_24 (d := d + 0) (h := h) g hW hk4) rfl ?_
  change am_At _ _ _ 28 [_] [] _ _
  refine am_aload_n dX3_beUntold_28 rfl ?_
  refine am_bipush 27 (v := 27) dX3_beUntold_29 (by decide) ?_
  obtain ⟨M5, hk5, hyp⟩ := bd_some hyp
  try dsimp only at hyp
  refine am_callV [_] dX3_beUntold_31 ml_X3_31 vm_X3_add (zh_28_23 g) rfl (fun _ => Nat.le_of_ble_eq_true rfl) (by omega) rfl (zef_X3_add_24 (d := d + 0) (h := h) g hW hk5) rfl ?_
  change am_At _ _ _ 34 [_] [] _ _
  refine am_aload_n dX3_beUntold_34 rfl ?_
  refine am_iconst 0 (v := 0) dX3_beUntold_35 (by decide) ?_
  obtain ⟨M6, hk6, hyp⟩ := bd_some hyp
  try dsimp only at hyp
  refine am_callV [_] dX3_beUntold_36 ml_X3_31 vm_X3_add (zh_28_23 g) rfl (fun _ => Nat.le_of_ble_eq_true rfl) (by omega) rfl (zef_X3_add_24 (d := d + 0) (h := h) g hW hk6) rfl ?_
  change am_At _ _ _ 39 [_] [] _ _
  refine am_aload_n dX3_beUntold_39 rfl ?_
  refine am_bipush 11 (v := 11) dX3_beUntold_40 (by decide) ?_
  obtain ⟨M7, hk7, hyp⟩ := bd_some hyp
  try dsimp only at hyp
  refine am_callV [_] dX3_beUntold_42 ml_X3_31 vm_X3_add (zh_28_23 g) rfl (fun _ => Nat.le_of_ble_eq_true rfl) (by omega) rfl (zef_X3_add_24 (d := d + 0) (h := h) g hW hk7) rfl ?_
  change am_At _ _ _ 45 [_] [] _ _
  refine am_aload_n dX3_beUntold_45 rfl ?_
  refine am_bipush 9 (v := 9) dX3_beUntold_46 (by decide) ?_
  obtain ⟨M8, hk8, hyp⟩ := bd_some hyp
  try dsimp only at hyp
  refine am_callV [_] dX3_beUntold_48 ml_X3_31 vm_X3_add (zh_28_23 g) rfl (fun _ => Nat.le_of_ble_eq_true rfl) (by omega) rfl (zef_X3_add_24 (d := d + 0) (h := h) g hW hk8) rfl ?_
  change am_At _ _ _ 51 [_] [] _ _
  refine am_aload_n dX3_beUntold_51 rfl ?_
  refine am_bipush 11 (v := 11) dX3_beUntold_52 (by decide) ?_
  obtain ⟨M9, hk9, hyp⟩ := bd_some hyp
  try dsimp only at hyp
  refine am_callV [_] dX3_beUntold_54 ml_X3_31 vm_X3_add (zh_28_23 g) rfl (fun _ => Nat.le_of_ble_eq_true rfl) (by omega) rfl (zef_X3_add_24 (d := d + 0) (h := h) g hW hk9) rfl ?_
  change am_At _ _ _ 57 [_] [] _ _
  refine am_aload_n dX3_beUntold_57 rfl ?_
  obtain ⟨M10, hk10, hyp⟩ := bd_some hyp
  try dsimp only at hyp
  refine am_callV [] dX3_beUntold_58 ml_X3_35 vm_X3_adoptDraft (zh_28_23 g) rfl (fun _ => Nat.le_of_ble_eq_true rfl) (by omega) rfl (zef_X3_adoptDraft_24 (d := d + 0) (h := h) g hW hk10) rfl ?_
  change am_At _ _ _ 61 [_] [] _ _
  have g2 : layZ 28 (swW h 24 25) := layZ.swW g
  have hW2 : (swW h 24 25).2.2 23 0 = some 25 ∧ (swW h 24 25).2.2 23 2 = some 24 := ⟨rfl, rfl⟩
  change am_At _ _ _ 61 [_] [] (am_hM (swW h 24 25) M10) _
  cases hyp
  exact am_vret dX3_beUntold_61 rfl
theorem zh_51_45 {h : am_H} (g : layZ 51 h) : h.1[45]? = some (5, 8, 0) := by rw [g.1]; rfl
theorem zh_51_46 {h : am_H} (g : layZ 51 h) : h.1[46]? = some (100, 16, 0) := by rw [g.1]; rfl
theorem zef_X5_clearBook_46 {d : Nat} {h : am_H} (g : layZ 51 h) (hN : h.2.2 45 1 = some 46 ∧ h.2.2 45 2 = some 47) {M : Mem} {M' : Mem} (hyp : f_X5_clearBook 46 47 M = M') : am_Ev (d + 1) mX5_clearBook [.inr (45, 0)] (am_hM h M) (.inl (none, am_hM h M')) := by
  unfold f_X5_clearBook at hyp
  refine am_Ev.mk (by decide +kernel) rfl rfl (Nat.le_refl _) (Nat.le_refl _) ?_
  change am_At _ _ _ 0 [_] [] _ _
  refine am_aload_n dX5_clearBook_0 rfl ?_
  refine am_getR 5 1 46 dX5_clearBook_1 fg_X5_9 (zh_51_45 g) (by decide) rfl hN.1 ?_
  refine am_iconst (-1) (v := (-1)) dX5_clearBook_4 (by decide) ?_
  refine am_callS (c := 0) (k := 0) (n := 0) (w := 0) [_, _] dX5_clearBook_5 ml_X5_34 sm_J7_fill_53178 rfl (fun _ => Nat.le_of_ble_eq_true rfl) (by omega) rfl (ev_fill (d := d + 0) (h := am_hM h M) (v := (-1 : Int32)) (zh_51_46 g) (by decide)) rfl ?_
  change am_At _ _ _ 8 [_] [] _ _
  refine am_aload_n dX5_clearBook_8 rfl ?_
  refine am_iconst 0 (v := 0) dX5_clearBook_9 (by decide) ?_
  refine am_putI 5 3 dX5_clearBook_10 (Or.inl fp_X5_40) (zh_51_45 g) (by decide) rfl rfl rfl ?_
  cases hyp
  exact am_vret dX5_clearBook_13 rfl
theorem zh_82_54 {h : am_H} (g : layZ 82 h) : h.1[54]? = some (12, 50, 0) := by rw [g.1]; rfl
theorem zh_82_57 {h : am_H} (g : layZ 82 h) : h.1[57]? = some (100, 5, 0) := by rw [g.1]; rfl
theorem zr_54_11 {h : am_H} (g : layZ 82 h) : h.2.2 54 11 = some 57 := g.2 (by decide) (54, 11, 57) (by decide) (by decide)
theorem zeL_X12_tellsNothing_2 {d : Nat} {h : am_H} (g : layZ 82 h) {r : am_R} (n : Nat) : ∀ (s : Int32 × Mem) (e : Mem), wh (L_X12_tellsNothing_2) n s = some e → ((fun (M : Mem) => am_At am_X0 (d + 0) mX12_tellsNothing 20 [some (.inr (54, 0)), none] [] (am_hM h M) r) e) → (match s with | (x1, M) => am_At am_X0 (d + 0) mX12_tellsNothing 2 [some (.inr (54, 0)), some (am_I (x1))] [] (am_hM h M) r) := by
  refine am_wh (At := fun (s : Int32 × Mem) => match s with | (x1, M) => am_At am_X0 (d + 0) mX12_tellsNothing 2 [some (.inr (54, 0)), some (am_I (x1))] [] (am_hM h M) r) (Ex := fun (e : Mem) => (fun (M : Mem) => am_At am_X0 (d + 0) mX12_tellsNothing 20 [some (.inr (54, 0)), none] [] (am_hM h M) r) e) ?_ n
  rintro ⟨x1, M⟩ y hyp hx
  unfold L_X12_tellsNothing_2 at hyp
  try dsimp only at hyp
  change am_At _ _ _ 2 [_, _] [] _ _
  refine am_iload_n dX12_tellsNothing_2 rfl ?_
  refine am_iconst 3 (v := 3) dX12_tellsNothing_3 (by decide) ?_
  refine am_icmp_ge (16) 20 dX12_tellsNothing_4 rfl ?_ ?_
  · intro hc1
    have hc1 : (3 : Int32) ≤ x1 := hc1
    replace hyp := it_pos hc1 hyp
    cases hyp
    refine am_At.drop 1 ?_
    exact hx
  · intro hc1n
    have hc1n : ¬ ((3 : Int32) ≤ x1) := hc1n
    replace hyp := it_neg hc1n hyp
    refine am_aload_n dX12_tellsNothing_7 rfl ?_
    refine am_getR 12 11 57 dX12_tellsNothing_8 fg_X12_20 (zh_82_54 g) (by decide) rfl (zr_54_11 g) ?_
    refine am_iload_n dX12_tellsNothing_11 rfl ?_
    refine am_iconst 0 (v := 0) dX12_tellsNothing_12 (by decide) ?_
    obtain ⟨hg2, hyp⟩ := gd_some hyp
    refine am_iast dX12_tellsNothing_13 (am_ia.one (zh_82_57 g)) (am_lit hg2) ?_
    refine am_iinc dX12_tellsNothing_14 rfl (am_ix _) ?_
    change am_At _ _ _ 17 [_, _] [] _ _
    refine am_goto (-15) 2 dX12_tellsNothing_17 rfl ?_
    cases hyp
    exact hx
theorem zef_X12_tellsNothing {d : Nat} {h : am_H} (g : layZ 82 h) {M : Mem} {M' : Mem} (hyp : f_X12_tellsNothing M = some M') : am_Ev (d + 0) mX12_tellsNothing [.inr (54, 0)] (am_hM h M) (.inl (none, am_hM h M')) := by
  unfold f_X12_tellsNothing at hyp
  refine am_Ev.mk (by decide +kernel) rfl rfl (Nat.le_refl _) (Nat.le_refl _) ?_
  change am_At _ _ _ 0 [_, _] [] _ _
  refine am_iconst 0 (v := 0) dX12_tellsNothing_0 (by decide) ?_
  refine am_istore_n dX12_tellsNothing_1 (am_lb rfl) ?_
  change am_At _ _ _ 2 [_, _] [] _ _
  obtain ⟨M3, hw3, hyp⟩ := bd_some hyp
  try dsimp only at hyp
  refine zeL_X12_tellsNothing_2 (d := d) (h := h) g  FU ((0 : Int32), M) M3 hw3 ?_
  change am_At _ _ _ 20 [_, _] [] _ _
  refine am_aload_n dX12_tellsNothing_20 rfl ?_
  refine am_getR 12 11 57 dX12_tellsNothing_21 fg_X12_20 (zh_82_54 g) (by decide) rfl (zr_54_11 g) ?_
  refine am_iconst 3 (v := 3) dX12_tellsNothing_24 (by decide) ?_
  refine am_iconst 2 (v := 2) dX12_tellsNothing_25 (by decide) ?_
  refine am_iast dX12_tellsNothing_26 (am_ia.one (zh_82_57 g)) (am_lit rfl) ?_
  refine am_aload_n dX12_tellsNothing_27 rfl ?_
  refine am_getR 12 11 57 dX12_tellsNothing_28 fg_X12_20 (zh_82_54 g) (by decide) rfl (zr_54_11 g) ?_
  refine am_iconst 4 (v := 4) dX12_tellsNothing_31 (by decide) ?_
  refine am_iconst 2 (v := 2) dX12_tellsNothing_32 (by decide) ?_
  refine am_iast dX12_tellsNothing_33 (am_ia.one (zh_82_57 g)) (am_lit rfl) ?_
  cases hyp
  exact am_vret dX12_tellsNothing_34 rfl
theorem zh_82_60 {h : am_H} (g : layZ 82 h) : h.1[60]? = some (103, 16, 4) := by rw [g.1]; rfl
theorem zh_82_59 {h : am_H} (g : layZ 82 h) : h.1[59]? = some (103, 16, 4) := by rw [g.1]; rfl
theorem zeL_X12_lays_b_10 {d : Nat} {h : am_H} (g : layZ 82 h) {x2 x3 : Int32} {r : am_R} (n : Nat) : ∀ (s : Int32 × Mem) (e : Mem), wh (L_X12_lays_b_10 x3) n s = some e → ((fun (M : Mem) => am_At am_X0 (d + 0) mX12_lays 37 [some (.inr (59, 0)), some (.inr (60, 0)), some (am_I (x2)), some (am_I (x3)), none] [] (am_hM h M) r) e) → (match s with | (x4, M) => am_At am_X0 (d + 0) mX12_lays 10 [some (.inr (59, 0)), some (.inr (60, 0)), some (am_I (x2)), some (am_I (x3)), some (am_I (x4))] [] (am_hM h M) r) := by
  refine am_wh (At := fun (s : Int32 × Mem) => match s with | (x4, M) => am_At am_X0 (d + 0) mX12_lays 10 [some (.inr (59, 0)), some (.inr (60, 0)), some (am_I (x2)), some (am_I (x3)), some (am_I (x4))] [] (am_hM h M) r) (Ex := fun (e : Mem) => (fun (M : Mem) => am_At am_X0 (d + 0) mX12_lays 37 [some (.inr (59, 0)), some (.inr (60, 0)), some (am_I (x2)), some (am_I (x3)), none] [] (am_hM h M) r) e) ?_ n
  rintro ⟨x4, M⟩ y hyp hx
  unfold L_X12_lays_b_10 at hyp
  try dsimp only at hyp
  change am_At _ _ _ 10 [_, _, _, _, _] [] _ _
  refine am_iload dX12_lays_10 rfl ?_
  refine am_aload_n dX12_lays_12 rfl ?_
  refine am_iload_n dX12_lays_13 rfl ?_
  obtain ⟨hg2, hyp⟩ := gd_some hyp
  refine am_aald dX12_lays_14 (zh_82_60 g) (am_lit hg2) ?_
  refine am_alen dX12_lays_15 (am_ia.row (zh_82_60 g) (by omega) (am_vlt (am_lit hg2))) rfl ?_
  refine am_icmp_ge (21) 37 dX12_lays_16 rfl ?_ ?_
  · intro hc3
    have hc3 : (4 : Int32) ≤ x4 := hc3
    replace hyp := it_pos hc3 hyp
    cases hyp
    refine am_At.drop 4 ?_
    exact hx
  · intro hc3n
    have hc3n : ¬ ((4 : Int32) ≤ x4) := hc3n
    replace hyp := it_neg hc3n hyp
    refine am_aload_n dX12_lays_19 rfl ?_
    refine am_iload_n dX12_lays_20 rfl ?_
    refine am_aald dX12_lays_21 (zh_82_60 g) (am_lit hg2) ?_
    refine am_iload dX12_lays_22 rfl ?_
    refine am_aload_n dX12_lays_24 rfl ?_
    refine am_iload_n dX12_lays_25 rfl ?_
    refine am_aald dX12_lays_26 (zh_82_59 g) (am_lit hg2) ?_
    refine am_iload dX12_lays_27 rfl ?_
    obtain ⟨hg4, hyp⟩ := gd_some hyp
    refine am_iald dX12_lays_29 (am_ia.row (zh_82_59 g) (by omega) (am_vlt (am_lit hg2))) (am_lit hg4) ?_
    refine am_iast dX12_lays_30 (am_ia.row (zh_82_60 g) (by omega) (am_vlt (am_lit hg2))) (am_lit hg4) ?_
    refine am_iinc dX12_lays_31 rfl (am_ix _) ?_
    change am_At _ _ _ 34 [_, _, _, _, _] [] _ _
    refine am_goto (-24) 10 dX12_lays_34 rfl ?_
    cases hyp
    exact hx
theorem zeL_X12_lays_b_2 {d : Nat} {h : am_H} (g : layZ 82 h) {x2 : Int32} {r : am_R} (n : Nat) : ∀ (s : Int32 × Mem) (e : Mem), wh (L_X12_lays_b_2 x2) n s = some e → ((fun (M : Mem) => am_At am_X0 (d + 0) mX12_lays 43 [some (.inr (59, 0)), some (.inr (60, 0)), some (am_I (x2)), none, none] [] (am_hM h M) r) e) → (match s with | (x3, M) => am_At am_X0 (d + 0) mX12_lays 2 [some (.inr (59, 0)), some (.inr (60, 0)), some (am_I (x2)), some (am_I (x3)), none] [] (am_hM h M) r) := by
  refine am_wh (At := fun (s : Int32 × Mem) => match s with | (x3, M) => am_At am_X0 (d + 0) mX12_lays 2 [some (.inr (59, 0)), some (.inr (60, 0)), some (am_I (x2)), some (am_I (x3)), none] [] (am_hM h M) r) (Ex := fun (e : Mem) => (fun (M : Mem) => am_At am_X0 (d + 0) mX12_lays 43 [some (.inr (59, 0)), some (.inr (60, 0)), some (am_I (x2)), none, none] [] (am_hM h M) r) e) ?_ n
  rintro ⟨x3, M⟩ y hyp hx
  unfold L_X12_lays_b_2 at hyp
  try dsimp only at hyp
  change am_At _ _ _ 2 [_, _, _, _, _] [] _ _
  refine am_iload_n dX12_lays_2 rfl ?_
  refine am_iload_n dX12_lays_3 rfl ?_
  refine am_icmp_ge (39) 43 dX12_lays_4 rfl ?_ ?_
  · intro hc1
    have hc1 : x2 ≤ x3 := hc1
    replace hyp := it_pos hc1 hyp
    cases hyp
    refine am_At.drop 3 ?_
    exact hx
  · intro hc1n
    have hc1n : ¬ (x2 ≤ x3) := hc1n
    replace hyp := it_neg hc1n hyp
    refine am_iconst 0 (v := 0) dX12_lays_7 (by decide) ?_
    refine am_istore dX12_lays_8 (am_lb rfl) ?_
    change am_At _ _ _ 10 [_, _, _, _, _] [] _ _
    obtain ⟨M5, hw5, hyp⟩ := bd_some hyp
    try dsimp only at hyp
    refine zeL_X12_lays_b_10 (d := d) (h := h) g  FU ((0 : Int32), M) M5 hw5 ?_
    change am_At _ _ _ 37 [_, _, _, _, _] [] _ _
    refine am_iinc dX12_lays_37 rfl (am_ix _) ?_
    change am_At _ _ _ 40 [_, _, _, _, _] [] _ _
    refine am_goto (-38) 2 dX12_lays_40 rfl ?_
    cases hyp
    exact hx
theorem zef_X12_lays_b {d : Nat} {h : am_H} (g : layZ 82 h) {x2 : Int32} {M : Mem} {M' : Mem} (hyp : f_X12_lays_b x2 M = some M') : am_Ev (d + 0) mX12_lays [.inr (59, 0), .inr (60, 0), am_I x2] (am_hM h M) (.inl (none, am_hM h M')) := by
  unfold f_X12_lays_b at hyp
  refine am_Ev.mk (by decide +kernel) rfl rfl (Nat.le_refl _) (Nat.le_refl _) ?_
  change am_At _ _ _ 0 [_, _, _, _, _] [] _ _
  refine am_iconst 0 (v := 0) dX12_lays_0 (by decide) ?_
  refine am_istore_n dX12_lays_1 (am_lb rfl) ?_
  change am_At _ _ _ 2 [_, _, _, _, _] [] _ _
  obtain ⟨M6, hw6, hyp⟩ := bd_some hyp
  try dsimp only at hyp
  refine zeL_X12_lays_b_2 (d := d) (h := h) g  FU ((0 : Int32), M) M6 hw6 ?_
  change am_At _ _ _ 43 [_, _, _, _, _] [] _ _
  cases hyp
  exact am_vret dX12_lays_43 rfl
theorem zh_82_62 {h : am_H} (g : layZ 82 h) : h.1[62]? = some (103, 4, 2) := by rw [g.1]; rfl
theorem zh_82_61 {h : am_H} (g : layZ 82 h) : h.1[61]? = some (103, 4, 2) := by rw [g.1]; rfl
theorem zeL_X12_lays_g_10 {d : Nat} {h : am_H} (g : layZ 82 h) {x2 x3 : Int32} {r : am_R} (n : Nat) : ∀ (s : Int32 × Mem) (e : Mem), wh (L_X12_lays_g_10 x3) n s = some e → ((fun (M : Mem) => am_At am_X0 (d + 0) mX12_lays 37 [some (.inr (61, 0)), some (.inr (62, 0)), some (am_I (x2)), some (am_I (x3)), none] [] (am_hM h M) r) e) → (match s with | (x4, M) => am_At am_X0 (d + 0) mX12_lays 10 [some (.inr (61, 0)), some (.inr (62, 0)), some (am_I (x2)), some (am_I (x3)), some (am_I (x4))] [] (am_hM h M) r) := by
  refine am_wh (At := fun (s : Int32 × Mem) => match s with | (x4, M) => am_At am_X0 (d + 0) mX12_lays 10 [some (.inr (61, 0)), some (.inr (62, 0)), some (am_I (x2)), some (am_I (x3)), some (am_I (x4))] [] (am_hM h M) r) (Ex := fun (e : Mem) => (fun (M : Mem) => am_At am_X0 (d + 0) mX12_lays 37 [some (.inr (61, 0)), some (.inr (62, 0)), some (am_I (x2)), some (am_I (x3)), none] [] (am_hM h M) r) e) ?_ n
  rintro ⟨x4, M⟩ y hyp hx
  unfold L_X12_lays_g_10 at hyp
  try dsimp only at hyp
  change am_At _ _ _ 10 [_, _, _, _, _] [] _ _
  refine am_iload dX12_lays_10 rfl ?_
  refine am_aload_n dX12_lays_12 rfl ?_
  refine am_iload_n dX12_lays_13 rfl ?_
  obtain ⟨hg2, hyp⟩ := gd_some hyp
  refine am_aald dX12_lays_14 (zh_82_62 g) (am_lit hg2) ?_
  refine am_alen dX12_lays_15 (am_ia.row (zh_82_62 g) (by omega) (am_vlt (am_lit hg2))) rfl ?_
  refine am_icmp_ge (21) 37 dX12_lays_16 rfl ?_ ?_
  · intro hc3
    have hc3 : (2 : Int32) ≤ x4 := hc3
    replace hyp := it_pos hc3 hyp
    cases hyp
    refine am_At.drop 4 ?_
    exact hx
  · intro hc3n
    have hc3n : ¬ ((2 : Int32) ≤ x4) := hc3n
    replace hyp := it_neg hc3n hyp
    refine am_aload_n dX12_lays_19 rfl ?_
    refine am_iload_n dX12_lays_20 rfl ?_
    refine am_aald dX12_lays_21 (zh_82_62 g) (am_lit hg2) ?_
    refine am_iload dX12_lays_22 rfl ?_
    refine am_aload_n dX12_lays_24 rfl ?_
    refine am_iload_n dX12_lays_25 rfl ?_
    refine am_aald dX12_lays_26 (zh_82_61 g) (am_lit hg2) ?_
    refine am_iload dX12_lays_27 rfl ?_
    obtain ⟨hg4, hyp⟩ := gd_some hyp
    refine am_iald dX12_lays_29 (am_ia.row (zh_82_61 g) (by omega) (am_vlt (am_lit hg2))) (am_lit hg4) ?_
    refine am_iast dX12_lays_30 (am_ia.row (zh_82_62 g) (by omega) (am_vlt (am_lit hg2))) (am_lit hg4) ?_
    refine am_iinc dX12_lays_31 rfl (am_ix _) ?_
    change am_At _ _ _ 34 [_, _, _, _, _] [] _ _
    refine am_goto (-24) 10 dX12_lays_34 rfl ?_
    cases hyp
    exact hx
theorem zeL_X12_lays_g_2 {d : Nat} {h : am_H} (g : layZ 82 h) {x2 : Int32} {r : am_R} (n : Nat) : ∀ (s : Int32 × Mem) (e : Mem), wh (L_X12_lays_g_2 x2) n s = some e → ((fun (M : Mem) => am_At am_X0 (d + 0) mX12_lays 43 [some (.inr (61, 0)), some (.inr (62, 0)), some (am_I (x2)), none, none] [] (am_hM h M) r) e) → (match s with | (x3, M) => am_At am_X0 (d + 0) mX12_lays 2 [some (.inr (61, 0)), some (.inr (62, 0)), some (am_I (x2)), some (am_I (x3)), none] [] (am_hM h M) r) := by
  refine am_wh (At := fun (s : Int32 × Mem) => match s with | (x3, M) => am_At am_X0 (d + 0) mX12_lays 2 [some (.inr (61, 0)), some (.inr (62, 0)), some (am_I (x2)), some (am_I (x3)), none] [] (am_hM h M) r) (Ex := fun (e : Mem) => (fun (M : Mem) => am_At am_X0 (d + 0) mX12_lays 43 [some (.inr (61, 0)), some (.inr (62, 0)), some (am_I (x2)), none, none] [] (am_hM h M) r) e) ?_ n
  rintro ⟨x3, M⟩ y hyp hx
  unfold L_X12_lays_g_2 at hyp
  try dsimp only at hyp
  change am_At _ _ _ 2 [_, _, _, _, _] [] _ _
  refine am_iload_n dX12_lays_2 rfl ?_
  refine am_iload_n dX12_lays_3 rfl ?_
  refine am_icmp_ge (39) 43 dX12_lays_4 rfl ?_ ?_
  · intro hc1
    have hc1 : x2 ≤ x3 := hc1
    replace hyp := it_pos hc1 hyp
    cases hyp
    refine am_At.drop 3 ?_
    exact hx
  · intro hc1n
    have hc1n : ¬ (x2 ≤ x3) := hc1n
    replace hyp := it_neg hc1n hyp
    refine am_iconst 0 (v := 0) dX12_lays_7 (by decide) ?_
    refine am_istore dX12_lays_8 (am_lb rfl) ?_
    change am_At _ _ _ 10 [_, _, _, _, _] [] _ _
    obtain ⟨M5, hw5, hyp⟩ := bd_some hyp
    try dsimp only at hyp
    refine zeL_X12_lays_g_10 (d := d) (h := h) g  FU ((0 : Int32), M) M5 hw5 ?_
    change am_At _ _ _ 37 [_, _, _, _, _] [] _ _
    refine am_iinc dX12_lays_37 rfl (am_ix _) ?_
    change am_At _ _ _ 40 [_, _, _, _, _] [] _ _
    refine am_goto (-38) 2 dX12_lays_40 rfl ?_
    cases hyp
    exact hx
theorem zef_X12_lays_g {d : Nat} {h : am_H} (g : layZ 82 h) {x2 : Int32} {M : Mem} {M' : Mem} (hyp : f_X12_lays_g x2 M = some M') : am_Ev (d + 0) mX12_lays [.inr (61, 0), .inr (62, 0), am_I x2] (am_hM h M) (.inl (none, am_hM h M')) := by
  unfold f_X12_lays_g at hyp
  refine am_Ev.mk (by decide +kernel) rfl rfl (Nat.le_refl _) (Nat.le_refl _) ?_
  change am_At _ _ _ 0 [_, _, _, _, _] [] _ _
  refine am_iconst 0 (v := 0) dX12_lays_0 (by decide) ?_
  refine am_istore_n dX12_lays_1 (am_lb rfl) ?_
  change am_At _ _ _ 2 [_, _, _, _, _] [] _ _
  obtain ⟨M6, hw6, hyp⟩ := bd_some hyp
  try dsimp only at hyp
  refine zeL_X12_lays_g_2 (d := d) (h := h) g  FU ((0 : Int32), M) M6 hw6 ?_
  change am_At _ _ _ 43 [_, _, _, _, _] [] _ _
  cases hyp
  exact am_vret dX12_lays_43 rfl
theorem zh_82_64 {h : am_H} (g : layZ 82 h) : h.1[64]? = some (103, 8, 3) := by rw [g.1]; rfl
theorem zh_82_63 {h : am_H} (g : layZ 82 h) : h.1[63]? = some (103, 8, 3) := by rw [g.1]; rfl
theorem zeL_X12_lays_s_10 {d : Nat} {h : am_H} (g : layZ 82 h) {x2 x3 : Int32} {r : am_R} (n : Nat) : ∀ (s : Int32 × Mem) (e : Mem), wh (L_X12_lays_s_10 x3) n s = some e → ((fun (M : Mem) => am_At am_X0 (d + 0) mX12_lays 37 [some (.inr (63, 0)), some (.inr (64, 0)), some (am_I (x2)), some (am_I (x3)), none] [] (am_hM h M) r) e) → (match s with | (x4, M) => am_At am_X0 (d + 0) mX12_lays 10 [some (.inr (63, 0)), some (.inr (64, 0)), some (am_I (x2)), some (am_I (x3)), some (am_I (x4))] [] (am_hM h M) r) := by
  refine am_wh (At := fun (s : Int32 × Mem) => match s with | (x4, M) => am_At am_X0 (d + 0) mX12_lays 10 [some (.inr (63, 0)), some (.inr (64, 0)), some (am_I (x2)), some (am_I (x3)), some (am_I (x4))] [] (am_hM h M) r) (Ex := fun (e : Mem) => (fun (M : Mem) => am_At am_X0 (d + 0) mX12_lays 37 [some (.inr (63, 0)), some (.inr (64, 0)), some (am_I (x2)), some (am_I (x3)), none] [] (am_hM h M) r) e) ?_ n
  rintro ⟨x4, M⟩ y hyp hx
  unfold L_X12_lays_s_10 at hyp
  try dsimp only at hyp
  change am_At _ _ _ 10 [_, _, _, _, _] [] _ _
  refine am_iload dX12_lays_10 rfl ?_
  refine am_aload_n dX12_lays_12 rfl ?_
  refine am_iload_n dX12_lays_13 rfl ?_
  obtain ⟨hg2, hyp⟩ := gd_some hyp
  refine am_aald dX12_lays_14 (zh_82_64 g) (am_lit hg2) ?_
  refine am_alen dX12_lays_15 (am_ia.row (zh_82_64 g) (by omega) (am_vlt (am_lit hg2))) rfl ?_
  refine am_icmp_ge (21) 37 dX12_lays_16 rfl ?_ ?_
  · intro hc3
    have hc3 : (3 : Int32) ≤ x4 := hc3
    replace hyp := it_pos hc3 hyp
    cases hyp
    refine am_At.drop 4 ?_
    exact hx
  · intro hc3n
    have hc3n : ¬ ((3 : Int32) ≤ x4) := hc3n
    replace hyp := it_neg hc3n hyp
    refine am_aload_n dX12_lays_19 rfl ?_
    refine am_iload_n dX12_lays_20 rfl ?_
    refine am_aald dX12_lays_21 (zh_82_64 g) (am_lit hg2) ?_
    refine am_iload dX12_lays_22 rfl ?_
    refine am_aload_n dX12_lays_24 rfl ?_
    refine am_iload_n dX12_lays_25 rfl ?_
    refine am_aald dX12_lays_26 (zh_82_63 g) (am_lit hg2) ?_
    refine am_iload dX12_lays_27 rfl ?_
    obtain ⟨hg4, hyp⟩ := gd_some hyp
    refine am_iald dX12_lays_29 (am_ia.row (zh_82_63 g) (by omega) (am_vlt (am_lit hg2))) (am_lit hg4) ?_
    refine am_iast dX12_lays_30 (am_ia.row (zh_82_64 g) (by omega) (am_vlt (am_lit hg2))) (am_lit hg4) ?_
    refine am_iinc dX12_lays_31 rfl (am_ix _) ?_
    change am_At _ _ _ 34 [_, _, _, _, _] [] _ _
    refine am_goto (-24) 10 dX12_lays_34 rfl ?_
    cases hyp
    exact hx
theorem zeL_X12_lays_s_2 {d : Nat} {h : am_H} (g : layZ 82 h) {x2 : Int32} {r : am_R} (n : Nat) : ∀ (s : Int32 × Mem) (e : Mem), wh (L_X12_lays_s_2 x2) n s = some e → ((fun (M : Mem) => am_At am_X0 (d + 0) mX12_lays 43 [some (.inr (63, 0)), some (.inr (64, 0)), some (am_I (x2)), none, none] [] (am_hM h M) r) e) → (match s with | (x3, M) => am_At am_X0 (d + 0) mX12_lays 2 [some (.inr (63, 0)), some (.inr (64, 0)), some (am_I (x2)), some (am_I (x3)), none] [] (am_hM h M) r) := by
  refine am_wh (At := fun (s : Int32 × Mem) => match s with | (x3, M) => am_At am_X0 (d + 0) mX12_lays 2 [some (.inr (63, 0)), some (.inr (64, 0)), some (am_I (x2)), some (am_I (x3)), none] [] (am_hM h M) r) (Ex := fun (e : Mem) => (fun (M : Mem) => am_At am_X0 (d + 0) mX12_lays 43 [some (.inr (63, 0)), some (.inr (64, 0)), some (am_I (x2)), none, none] [] (am_hM h M) r) e) ?_ n
  rintro ⟨x3, M⟩ y hyp hx
  unfold L_X12_lays_s_2 at hyp
  try dsimp only at hyp
  change am_At _ _ _ 2 [_, _, _, _, _] [] _ _
  refine am_iload_n dX12_lays_2 rfl ?_
  refine am_iload_n dX12_lays_3 rfl ?_
  refine am_icmp_ge (39) 43 dX12_lays_4 rfl ?_ ?_
  · intro hc1
    have hc1 : x2 ≤ x3 := hc1
    replace hyp := it_pos hc1 hyp
    cases hyp
    refine am_At.drop 3 ?_
    exact hx
  · intro hc1n
    have hc1n : ¬ (x2 ≤ x3) := hc1n
    replace hyp := it_neg hc1n hyp
    refine am_iconst 0 (v := 0) dX12_lays_7 (by decide) ?_
    refine am_istore dX12_lays_8 (am_lb rfl) ?_
    change am_At _ _ _ 10 [_, _, _, _, _] [] _ _
    obtain ⟨M5, hw5, hyp⟩ := bd_some hyp
    try dsimp only at hyp
    refine zeL_X12_lays_s_10 (d := d) (h := h) g  FU ((0 : Int32), M) M5 hw5 ?_
    change am_At _ _ _ 37 [_, _, _, _, _] [] _ _
    refine am_iinc dX12_lays_37 rfl (am_ix _) ?_
    change am_At _ _ _ 40 [_, _, _, _, _] [] _ _
    refine am_goto (-38) 2 dX12_lays_40 rfl ?_
    cases hyp
    exact hx
theorem zef_X12_lays_s {d : Nat} {h : am_H} (g : layZ 82 h) {x2 : Int32} {M : Mem} {M' : Mem} (hyp : f_X12_lays_s x2 M = some M') : am_Ev (d + 0) mX12_lays [.inr (63, 0), .inr (64, 0), am_I x2] (am_hM h M) (.inl (none, am_hM h M')) := by
  unfold f_X12_lays_s at hyp
  refine am_Ev.mk (by decide +kernel) rfl rfl (Nat.le_refl _) (Nat.le_refl _) ?_
  change am_At _ _ _ 0 [_, _, _, _, _] [] _ _
  refine am_iconst 0 (v := 0) dX12_lays_0 (by decide) ?_
  refine am_istore_n dX12_lays_1 (am_lb rfl) ?_
  change am_At _ _ _ 2 [_, _, _, _, _] [] _ _
  obtain ⟨M6, hw6, hyp⟩ := bd_some hyp
  try dsimp only at hyp
  refine zeL_X12_lays_s_2 (d := d) (h := h) g  FU ((0 : Int32), M) M6 hw6 ?_
  change am_At _ _ _ 43 [_, _, _, _, _] [] _ _
  cases hyp
  exact am_vret dX12_lays_43 rfl
theorem zh_82_58 {h : am_H} (g : layZ 82 h) : h.1[58]? = some (100, 5, 0) := by rw [g.1]; rfl
theorem zr_54_12 {h : am_H} (g : layZ 82 h) : h.2.2 54 12 = some 58 := g.2 (by decide) (54, 12, 58) (by decide) (by decide)
theorem zeL_X12_beginsAnew_2 {d : Nat} {h : am_H} (g : layZ 82 h) {r : am_R} (n : Nat) : ∀ (s : Int32 × Mem) (e : Mem), wh (L_X12_beginsAnew_2) n s = some e → ((fun (M : Mem) => am_At am_X0 (d + 1) mX12_beginsAnew 25 [some (.inr (54, 0)), none] [] (am_hM h M) r) e) → (match s with | (x1, M) => am_At am_X0 (d + 1) mX12_beginsAnew 2 [some (.inr (54, 0)), some (am_I (x1))] [] (am_hM h M) r) := by
  refine am_wh (At := fun (s : Int32 × Mem) => match s with | (x1, M) => am_At am_X0 (d + 1) mX12_beginsAnew 2 [some (.inr (54, 0)), some (am_I (x1))] [] (am_hM h M) r) (Ex := fun (e : Mem) => (fun (M : Mem) => am_At am_X0 (d + 1) mX12_beginsAnew 25 [some (.inr (54, 0)), none] [] (am_hM h M) r) e) ?_ n
  rintro ⟨x1, M⟩ y hyp hx
  unfold L_X12_beginsAnew_2 at hyp
  try dsimp only at hyp
  change am_At _ _ _ 2 [_, _] [] _ _
  refine am_iload_n dX12_beginsAnew_2 rfl ?_
  refine am_iconst 5 (v := 5) dX12_beginsAnew_3 (by decide) ?_
  refine am_icmp_ge (21) 25 dX12_beginsAnew_4 rfl ?_ ?_
  · intro hc1
    have hc1 : (5 : Int32) ≤ x1 := hc1
    replace hyp := it_pos hc1 hyp
    cases hyp
    refine am_At.drop 1 ?_
    exact hx
  · intro hc1n
    have hc1n : ¬ ((5 : Int32) ≤ x1) := hc1n
    replace hyp := it_neg hc1n hyp
    refine am_aload_n dX12_beginsAnew_7 rfl ?_
    refine am_getR 12 12 58 dX12_beginsAnew_8 fg_X12_23 (zh_82_54 g) (by decide) rfl (zr_54_12 g) ?_
    refine am_iload_n dX12_beginsAnew_11 rfl ?_
    refine am_aload_n dX12_beginsAnew_12 rfl ?_
    refine am_getR 12 11 57 dX12_beginsAnew_13 fg_X12_20 (zh_82_54 g) (by decide) rfl (zr_54_11 g) ?_
    refine am_iload_n dX12_beginsAnew_16 rfl ?_
    obtain ⟨hg2, hyp⟩ := gd_some hyp
    refine am_iald dX12_beginsAnew_17 (am_ia.one (zh_82_57 g)) (am_lit hg2) ?_
    refine am_iast dX12_beginsAnew_18 (am_ia.one (zh_82_58 g)) (am_lit hg2) ?_
    refine am_iinc dX12_beginsAnew_19 rfl (am_ix _) ?_
    change am_At _ _ _ 22 [_, _] [] _ _
    refine am_goto (-20) 2 dX12_beginsAnew_22 rfl ?_
    cases hyp
    exact hx
theorem zh_82_72 {h : am_H} (g : layZ 82 h) : h.1[72]? = some (100, 66, 0) := by rw [g.1]; rfl
theorem zr_54_29 {h : am_H} (g : layZ 82 h) : h.2.2 54 29 = some 72 := g.2 (by decide) (54, 29, 72) (by decide) (by decide)
theorem zeL_X12_beginsAnew_78 {d : Nat} {h : am_H} (g : layZ 82 h) {r : am_R} (n : Nat) : ∀ (s : Int32 × Mem) (e : Mem), wh (L_X12_beginsAnew_78) n s = some e → ((fun (M : Mem) => am_At am_X0 (d + 1) mX12_beginsAnew 118 [some (.inr (54, 0)), none] [] (am_hM h M) r) e) → (match s with | (x1, M) => am_At am_X0 (d + 1) mX12_beginsAnew 78 [some (.inr (54, 0)), some (am_I (x1))] [] (am_hM h M) r) := by
  refine am_wh (At := fun (s : Int32 × Mem) => match s with | (x1, M) => am_At am_X0 (d + 1) mX12_beginsAnew 78 [some (.inr (54, 0)), some (am_I (x1))] [] (am_hM h M) r) (Ex := fun (e : Mem) => (fun (M : Mem) => am_At am_X0 (d + 1) mX12_beginsAnew 118 [some (.inr (54, 0)), none] [] (am_hM h M) r) e) ?_ n
  rintro ⟨x1, M⟩ y hyp hx
  unfold L_X12_beginsAnew_78 at hyp
  try dsimp only at hyp
  change am_At _ _ _ 78 [_, _] [] _ _
  refine am_iload_n dX12_beginsAnew_78 rfl ?_
  refine am_bipush 66 (v := 66) dX12_beginsAnew_79 (by decide) ?_
  refine am_icmp_ge (37) 118 dX12_beginsAnew_81 rfl ?_ ?_
  · intro hc7
    have hc7 : (66 : Int32) ≤ x1 := hc7
    replace hyp := it_pos hc7 hyp
    cases hyp
    refine am_At.drop 1 ?_
    exact hx
  · intro hc7n
    have hc7n : ¬ ((66 : Int32) ≤ x1) := hc7n
    replace hyp := it_neg hc7n hyp
    refine am_aload_n dX12_beginsAnew_84 rfl ?_
    refine am_getR 12 29 72 dX12_beginsAnew_85 fg_X12_67 (zh_82_54 g) (by decide) rfl (zr_54_29 g) ?_
    refine am_iload_n dX12_beginsAnew_88 rfl ?_
    refine am_iload_n dX12_beginsAnew_89 rfl ?_
    refine am_bipush 58 (v := 58) dX12_beginsAnew_90 (by decide) ?_
    refine am_bipush 62 (v := 62) dX12_beginsAnew_92 (by decide) ?_
    refine am_callS (c := 0) (k := 0) (n := 0) (w := 0) [_, _, _] dX12_beginsAnew_94 ml_X12_137 sm_X12_in rfl (fun _ => Nat.le_of_ble_eq_true rfl) (by omega) rfl (ef_X12_in (d := d + 0) (h := am_hM h M) (x0 := x1) (x1 := (58 : Int32)) (x2 := (62 : Int32))  rfl) rfl ?_
    change am_At _ _ _ 97 [_, _] [_, _, _] _ _
    refine am_if_ne (9) 106 dX12_beginsAnew_97 rfl ?_ ?_
    · intro hc8n
      have hc8n : ¬ ((f_X12_in x1 (58 : Int32) (62 : Int32)) = 0) := hc8n
      replace hyp := it_neg hc8n hyp
      refine am_iconst (-1) (v := (-1)) dX12_beginsAnew_106 (by decide) ?_
      refine am_goto (4) 111 dX12_beginsAnew_107 rfl ?_
      obtain ⟨hg9, hyp⟩ := gd_some hyp
      refine am_iast dX12_beginsAnew_111 (am_ia.one (zh_82_72 g)) (am_lit hg9) ?_
      refine am_iinc dX12_beginsAnew_112 rfl (am_ix _) ?_
      change am_At _ _ _ 115 [_, _] [] _ _
      refine am_goto (-37) 78 dX12_beginsAnew_115 rfl ?_
      cases hyp
      exact hx
    · intro hc8
      have hc8 : (f_X12_in x1 (58 : Int32) (62 : Int32)) = 0 := hc8
      replace hyp := it_pos hc8 hyp
      refine am_iload_n dX12_beginsAnew_100 rfl ?_
      refine am_bipush 64 (v := 64) dX12_beginsAnew_101 (by decide) ?_
      refine am_icmp_ne (7) 110 dX12_beginsAnew_103 rfl ?_ ?_
      · intro hc10n
        have hc10n : ¬ (x1 = (64 : Int32)) := hc10n
        replace hyp := it_neg hc10n hyp
        refine am_iconst 0 (v := 0) dX12_beginsAnew_110 (by decide) ?_
        obtain ⟨hg11, hyp⟩ := gd_some hyp
        refine am_iast dX12_beginsAnew_111 (am_ia.one (zh_82_72 g)) (am_lit hg11) ?_
        refine am_iinc dX12_beginsAnew_112 rfl (am_ix _) ?_
        change am_At _ _ _ 115 [_, _] [] _ _
        refine am_goto (-37) 78 dX12_beginsAnew_115 rfl ?_
        cases hyp
        exact hx
      · intro hc10
        have hc10 : x1 = (64 : Int32) := hc10
        replace hyp := it_pos hc10 hyp
        refine am_iconst (-1) (v := (-1)) dX12_beginsAnew_106 (by decide) ?_
        refine am_goto (4) 111 dX12_beginsAnew_107 rfl ?_
        obtain ⟨hg12, hyp⟩ := gd_some hyp
        refine am_iast dX12_beginsAnew_111 (am_ia.one (zh_82_72 g)) (am_lit hg12) ?_
        refine am_iinc dX12_beginsAnew_112 rfl (am_ix _) ?_
        change am_At _ _ _ 115 [_, _] [] _ _
        refine am_goto (-37) 78 dX12_beginsAnew_115 rfl ?_
        cases hyp
        exact hx
theorem zr_54_13 {h : am_H} (g : layZ 82 h) : h.2.2 54 13 = some 59 := g.2 (by decide) (54, 13, 59) (by decide) (by decide)
theorem zr_54_14 {h : am_H} (g : layZ 82 h) : h.2.2 54 14 = some 60 := g.2 (by decide) (54, 14, 60) (by decide) (by decide)
theorem zr_54_15 {h : am_H} (g : layZ 82 h) : h.2.2 54 15 = some 61 := g.2 (by decide) (54, 15, 61) (by decide) (by decide)
theorem zr_54_16 {h : am_H} (g : layZ 82 h) : h.2.2 54 16 = some 62 := g.2 (by decide) (54, 16, 62) (by decide) (by decide)
theorem zr_54_17 {h : am_H} (g : layZ 82 h) : h.2.2 54 17 = some 63 := g.2 (by decide) (54, 17, 63) (by decide) (by decide)
theorem zr_54_18 {h : am_H} (g : layZ 82 h) : h.2.2 54 18 = some 64 := g.2 (by decide) (54, 18, 64) (by decide) (by decide)
theorem zef_X12_beginsAnew {d : Nat} {h : am_H} (g : layZ 82 h) {M : Mem} {M' : Mem} (hyp : f_X12_beginsAnew M = some M') : am_Ev (d + 1) mX12_beginsAnew [.inr (54, 0)] (am_hM h M) (.inl (none, am_hM h M')) := by
  unfold f_X12_beginsAnew at hyp
  refine am_Ev.mk (by decide +kernel) rfl rfl (Nat.le_refl _) (Nat.le_refl _) ?_
  change am_At _ _ _ 0 [_, _] [] _ _
  refine am_iconst 0 (v := 0) dX12_beginsAnew_0 (by decide) ?_
  refine am_istore_n dX12_beginsAnew_1 (am_lb rfl) ?_
  change am_At _ _ _ 2 [_, _] [] _ _
  obtain ⟨M3, hw3, hyp⟩ := bd_some hyp
  try dsimp only at hyp
  refine zeL_X12_beginsAnew_2 (d := d) (h := h) g  FU ((0 : Int32), M) M3 hw3 ?_
  change am_At _ _ _ 25 [_, _] [] _ _
  refine am_aload_n dX12_beginsAnew_25 rfl ?_
  refine am_getR 12 13 59 dX12_beginsAnew_26 fg_X12_28 (zh_82_54 g) (by decide) rfl (zr_54_13 g) ?_
  refine am_aload_n dX12_beginsAnew_29 rfl ?_
  refine am_getR 12 14 60 dX12_beginsAnew_30 fg_X12_31 (zh_82_54 g) (by decide) rfl (zr_54_14 g) ?_
  refine am_aload_n dX12_beginsAnew_33 rfl ?_
  refine am_getR 12 12 58 dX12_beginsAnew_34 fg_X12_23 (zh_82_54 g) (by decide) rfl (zr_54_12 g) ?_
  refine am_iconst 0 (v := 0) dX12_beginsAnew_37 (by decide) ?_
  refine am_iald dX12_beginsAnew_38 (am_ia.one (zh_82_58 g)) (am_lit rfl) ?_
  obtain ⟨M4, hk4, hyp⟩ := bd_some hyp
  try dsimp only at hyp
  refine am_callS (c := 0) (k := 0) (n := 0) (w := 0) [_, _, _] dX12_beginsAnew_39 ml_X12_192 sm_X12_lays rfl (fun _ => Nat.le_of_ble_eq_true rfl) (by omega) rfl (zef_X12_lays_b (d := d + 0) (h := h) g hk4) rfl ?_
  change am_At _ _ _ 42 [_, _] [] _ _
  refine am_aload_n dX12_beginsAnew_42 rfl ?_
  refine am_getR 12 15 61 dX12_beginsAnew_43 fg_X12_34 (zh_82_54 g) (by decide) rfl (zr_54_15 g) ?_
  refine am_aload_n dX12_beginsAnew_46 rfl ?_
  refine am_getR 12 16 62 dX12_beginsAnew_47 fg_X12_37 (zh_82_54 g) (by decide) rfl (zr_54_16 g) ?_
  refine am_aload_n dX12_beginsAnew_50 rfl ?_
  refine am_getR 12 12 58 dX12_beginsAnew_51 fg_X12_23 (zh_82_54 g) (by decide) rfl (zr_54_12 g) ?_
  refine am_iconst 1 (v := 1) dX12_beginsAnew_54 (by decide) ?_
  refine am_iald dX12_beginsAnew_55 (am_ia.one (zh_82_58 g)) (am_lit rfl) ?_
  obtain ⟨M5, hk5, hyp⟩ := bd_some hyp
  try dsimp only at hyp
  refine am_callS (c := 0) (k := 0) (n := 0) (w := 0) [_, _, _] dX12_beginsAnew_56 ml_X12_192 sm_X12_lays rfl (fun _ => Nat.le_of_ble_eq_true rfl) (by omega) rfl (zef_X12_lays_g (d := d + 0) (h := h) g hk5) rfl ?_
  change am_At _ _ _ 59 [_, _] [] _ _
  refine am_aload_n dX12_beginsAnew_59 rfl ?_
  refine am_getR 12 17 63 dX12_beginsAnew_60 fg_X12_40 (zh_82_54 g) (by decide) rfl (zr_54_17 g) ?_
  refine am_aload_n dX12_beginsAnew_63 rfl ?_
  refine am_getR 12 18 64 dX12_beginsAnew_64 fg_X12_43 (zh_82_54 g) (by decide) rfl (zr_54_18 g) ?_
  refine am_aload_n dX12_beginsAnew_67 rfl ?_
  refine am_getR 12 12 58 dX12_beginsAnew_68 fg_X12_23 (zh_82_54 g) (by decide) rfl (zr_54_12 g) ?_
  refine am_iconst 2 (v := 2) dX12_beginsAnew_71 (by decide) ?_
  refine am_iald dX12_beginsAnew_72 (am_ia.one (zh_82_58 g)) (am_lit rfl) ?_
  obtain ⟨M6, hk6, hyp⟩ := bd_some hyp
  try dsimp only at hyp
  refine am_callS (c := 0) (k := 0) (n := 0) (w := 0) [_, _, _] dX12_beginsAnew_73 ml_X12_192 sm_X12_lays rfl (fun _ => Nat.le_of_ble_eq_true rfl) (by omega) rfl (zef_X12_lays_s (d := d + 0) (h := h) g hk6) rfl ?_
  change am_At _ _ _ 76 [_, _] [] _ _
  refine am_iconst 0 (v := 0) dX12_beginsAnew_76 (by decide) ?_
  refine am_istore_n dX12_beginsAnew_77 (am_lb rfl) ?_
  change am_At _ _ _ 78 [_, _] [] _ _
  obtain ⟨M13, hw13, hyp⟩ := bd_some hyp
  try dsimp only at hyp
  refine zeL_X12_beginsAnew_78 (d := d) (h := h) g  FU ((0 : Int32), M6) M13 hw13 ?_
  change am_At _ _ _ 118 [_, _] [] _ _
  refine am_aload_n dX12_beginsAnew_118 rfl ?_
  refine am_iconst 0 (v := 0) dX12_beginsAnew_119 (by decide) ?_
  refine am_putI 12 19 dX12_beginsAnew_120 (Or.inl fp_X12_196) (zh_82_54 g) (by decide) rfl rfl rfl ?_
  refine am_aload_n dX12_beginsAnew_123 rfl ?_
  refine am_iconst 0 (v := 0) dX12_beginsAnew_124 (by decide) ?_
  refine am_putI 12 34 dX12_beginsAnew_125 (Or.inl fp_X12_199) (zh_82_54 g) (by decide) rfl rfl rfl ?_
  refine am_aload_n dX12_beginsAnew_128 rfl ?_
  refine am_iconst 0 (v := 0) dX12_beginsAnew_129 (by decide) ?_
  refine am_putI 12 35 dX12_beginsAnew_130 (Or.inl fp_X12_202) (zh_82_54 g) (by decide) rfl rfl rfl ?_
  refine am_aload_n dX12_beginsAnew_133 rfl ?_
  refine am_iconst 0 (v := 0) dX12_beginsAnew_134 (by decide) ?_
  refine am_putI 12 36 dX12_beginsAnew_135 (Or.inl fp_X12_205) (zh_82_54 g) (by decide) rfl rfl rfl ?_
  refine am_aload_n dX12_beginsAnew_138 rfl ?_
  refine am_iconst 0 (v := 0) dX12_beginsAnew_139 (by decide) ?_
  refine am_putI 12 37 dX12_beginsAnew_140 (Or.inl fp_X12_208) (zh_82_54 g) (by decide) rfl rfl rfl ?_
  cases hyp
  exact am_vret dX12_beginsAnew_143 rfl
theorem HB.z {N : Nat} {R : List (Nat × Nat × Nat)} {M : Mem} (hN : N < 82) : layZ N (HB N R M) := ⟨rfl, fun z => absurd z (by omega)⟩
theorem HB.z82 {R : List (Nat × Nat × Nat)} {M : Mem} (hR : ∀ q ∈ am_RF, 54 ≤ q.1 → rfR R q.1 q.2.1 = some q.2.2) : layZ 82 (HB 82 R M) := ⟨rfl, fun _ => hR⟩
theorem HB.sw {R : List (Nat × Nat × Nat)} {M : Mem} : swW (HB 28 R M) 24 25 = HB 28 ((23, 2, 24) :: (23, 0, 25) :: R) M := by
  unfold swW
  rw [HB.ur, HB.ur]
theorem zf_beUntold {d : Nat} {M MU : Mem} {R : List (Nat × Nat × Nat)} (hW : rfR R 23 0 = some 24 ∧ rfR R 23 2 = some 25) (hU : f_X3_beUntold 24 25 M = some MU) : am_Ev (d + 1) mX3_beUntold [.inr (23, 0)] (HB 28 R M) (.inl (none, HB 28 ((23, 2, 24) :: (23, 0, 25) :: R) MU)) := by
  have E := zef_X3_beUntold_24 (d := d) (h := HB 28 R M) (HB.z (by decide)) hW hU
  rw [HB.sw] at E
  exact E
theorem zf_clearBook {d : Nat} {M M' : Mem} {R : List (Nat × Nat × Nat)} (hW : rfR R 45 1 = some 46 ∧ rfR R 45 2 = some 47) (hU : f_X5_clearBook 46 47 M = M') : am_Ev (d + 1) mX5_clearBook [.inr (45, 0)] (HB 51 R M) (.inl (none, HB 51 R M')) := zef_X5_clearBook_46 (d := d) (h := HB 51 R M) (HB.z (by decide)) hW hU
theorem zf_tellsNothing {d : Nat} {M M' : Mem} {R : List (Nat × Nat × Nat)} (hR : ∀ q ∈ am_RF, 54 ≤ q.1 → rfR R q.1 q.2.1 = some q.2.2) (hU : f_X12_tellsNothing M = some M') : am_Ev (d + 0) mX12_tellsNothing [.inr (54, 0)] (HB 82 R M) (.inl (none, HB 82 R M')) := zef_X12_tellsNothing (d := d) (h := HB 82 R M) (HB.z82 hR) hU
theorem zf_beginsAnew {d : Nat} {M M' : Mem} {R : List (Nat × Nat × Nat)} (hR : ∀ q ∈ am_RF, 54 ≤ q.1 → rfR R q.1 q.2.1 = some q.2.2) (hU : f_X12_beginsAnew M = some M') : am_Ev (d + 1) mX12_beginsAnew [.inr (54, 0)] (HB 82 R M) (.inl (none, HB 82 R M')) := zef_X12_beginsAnew (d := d) (h := HB 82 R M) (HB.z82 hR) hU
theorem am_Z.cb {n : Nat} {M : Mem} (h : am_Z n M) (hn : Nat.ble 47 n = true) : am_Z n (f_X5_clearBook 46 47 M) := by
  have hn := Nat.le_of_ble_eq_true hn
  intro c r f hc
  unfold f_X5_clearBook
  unfold am_u3 fillM
  have hc2 := h c r f hc
  split
  · omega
  · split
    · omega
    · exact hc2
