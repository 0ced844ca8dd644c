theorem eL_X11_often_19_24 {d : Nat} {h : am_H} (g : lay h) (hW : h.2.2 23 0 = some 24 ∧ h.2.2 23 2 = some 25) {x1 x2 : Int32} {r : am_R} (n : Nat) : ∀ (s : Int32 × Int32 × Mem) (e : Int32 × Mem), wh (L_X11_often_19 24 25 x1 x2) n s = some e → (match e with | (x3, M) => am_At am_X0 (d + 5) mX11_often 47 [some (.inr (0, 0)), some (am_I (x1)), some (am_I (x2)), some (am_I (x3)), none] [] (am_hM h M) r) → (match s with | (x3, x4, M) => am_At am_X0 (d + 5) mX11_often 19 [some (.inr (0, 0)), some (am_I (x1)), some (am_I (x2)), some (am_I (x3)), some (am_I (x4))] [] (am_hM h M) r) := by
  refine am_wh (At := fun (s : Int32 × Int32 × Mem) => match s with | (x3, x4, M) => am_At am_X0 (d + 5) mX11_often 19 [some (.inr (0, 0)), some (am_I (x1)), some (am_I (x2)), some (am_I (x3)), some (am_I (x4))] [] (am_hM h M) r) (Ex := fun (e : Int32 × Mem) => match e with | (x3, M) => am_At am_X0 (d + 5) mX11_often 47 [some (.inr (0, 0)), some (am_I (x1)), some (am_I (x2)), some (am_I (x3)), none] [] (am_hM h M) r) ?_ n
  rintro ⟨x3, x4, M⟩ y hyp hx
  unfold L_X11_often_19 at hyp
  try dsimp only at hyp
  change am_At _ _ _ 19 [_, _, _, _, _] [] _ _
  refine am_iload dX11_often_19 rfl ?_
  refine am_iload_n dX11_often_21 rfl ?_
  refine am_icmp_ge (25) 47 dX11_often_22 rfl ?_ ?_
  · intro hc3
    have hc3 : x2 ≤ x4 := hc3
    replace hyp := it_pos hc3 hyp
    cases hyp
    refine am_At.drop 4 ?_
    exact hx
  · intro hc3n
    have hc3n : ¬ (x2 ≤ x4) := hc3n
    replace hyp := it_neg hc3n hyp
    refine am_iload_n dX11_often_25 rfl ?_
    refine am_aload_n dX11_often_26 rfl ?_
    refine am_getR 11 8 38 dX11_often_27 fg_X11_68 (sh_0 g) (by decide) rfl (rf_0_8 g) ?_
    refine am_iload dX11_often_30 rfl ?_
    obtain ⟨⟨v4, M4⟩, hk4, hyp⟩ := bd_some hyp
    try dsimp only at hyp
    refine am_callV [_] dX11_often_32 ml_X11_278 vm_X6_openIn (sh_38 g) rfl (fun _ => Nat.le_of_ble_eq_true rfl) (by omega) rfl (ef_X6_openIn_24 (d := d + 0) (h := h) g hW hk4) rfl ?_
    change am_At _ _ _ 35 [_, _, _, _, _] [_, _] _ _
    refine am_iload_n dX11_often_35 rfl ?_
    refine am_ishr dX11_often_36 ?_
    refine am_iconst 1 (v := 1) dX11_often_37 (by decide) ?_
    refine am_iand dX11_often_38 ?_
    refine am_iadd dX11_often_39 ?_
    refine am_istore_n dX11_often_40 (am_lb rfl) ?_
    change am_At _ _ _ 41 [_, _, _, _, _] [] _ _
    refine am_iinc dX11_often_41 rfl (am_ix _) ?_
    change am_At _ _ _ 44 [_, _, _, _, _] [] _ _
    refine am_goto (-25) 19 dX11_often_44 rfl ?_
    cases hyp
    exact hx
theorem ef_X11_often_24 {d : Nat} {h : am_H} (g : lay h) (hW : h.2.2 23 0 = some 24 ∧ h.2.2 23 2 = some 25) {x1 x2 : Int32} {M : Mem} {y : (Int32 ⊕ String) × Mem} (hyp : f_X11_often 24 25 x1 x2 M = some y) : am_Ev (d + 5) mX11_often [.inr (0, 0), am_I x1, am_I x2] (am_hM h M) (am_o1 h y) := by
  unfold f_X11_often at hyp
  refine am_Ev.mk (by decide +kernel) rfl rfl (am_oc1 h y) (am_os1 h y) ?_
  change am_At _ _ _ 0 [_, _, _, _, _] [] _ _
  refine am_aload_n dX11_often_0 rfl ?_
  refine am_iload_n dX11_often_1 rfl ?_
  obtain ⟨⟨y1, M1⟩, hk1, hyp⟩ := bd_some hyp
  rcases y1 with v1 | E1
  rotate_left
  · try dsimp only at hyp
    cases hyp
    exact am_callVX [_] dX11_often_2 ml_X11_209 vm_X11_needBoard (sh_0 g) rfl (fun _ => Nat.le_of_ble_eq_true rfl) (by omega) rfl (am_o0t (ef_X11_needBoard (d := d + 3) (h := h) g hk1)) rfl
  try dsimp only at hyp
  refine am_callV [_] dX11_often_2 ml_X11_209 vm_X11_needBoard (sh_0 g) rfl (fun _ => Nat.le_of_ble_eq_true rfl) (by omega) rfl (am_o0v (ef_X11_needBoard (d := d + 3) (h := h) g hk1)) rfl ?_
  change am_At _ _ _ 5 [_, _, _, _, _] [] _ _
  refine am_aload_n dX11_often_5 rfl ?_
  refine am_iload_n dX11_often_6 rfl ?_
  refine am_iconst 0 (v := 0) dX11_often_7 (by decide) ?_
  refine am_sipush 240 (v := 240) dX11_often_8 (by decide) ?_
  obtain ⟨⟨y2, M2⟩, hk2, hyp⟩ := bd_some hyp
  rcases y2 with v2 | E2
  rotate_left
  · try dsimp only at hyp
    cases hyp
    exact am_callVX [_, _, _] dX11_often_11 ml_X11_178 vm_X11_needFit (sh_0 g) rfl (fun _ => Nat.le_of_ble_eq_true rfl) (by omega) rfl (am_o0t (ef_X11_needFit (d := d + 4) (h := h) g hk2)) rfl
  try dsimp only at hyp
  refine am_callV [_, _, _] dX11_often_11 ml_X11_178 vm_X11_needFit (sh_0 g) rfl (fun _ => Nat.le_of_ble_eq_true rfl) (by omega) rfl (am_o0v (ef_X11_needFit (d := d + 4) (h := h) g hk2)) rfl ?_
  change am_At _ _ _ 14 [_, _, _, _, _] [] _ _
  refine am_iconst 0 (v := 0) dX11_often_14 (by decide) ?_
  refine am_istore_n dX11_often_15 (am_lb rfl) ?_
  change am_At _ _ _ 16 [_, _, _, _, _] [] _ _
  refine am_iconst 0 (v := 0) dX11_often_16 (by decide) ?_
  refine am_istore dX11_often_17 (am_lb rfl) ?_
  change am_At _ _ _ 19 [_, _, _, _, _] [] _ _
  obtain ⟨⟨x3_5, M5⟩, hw5, hyp⟩ := bd_some hyp
  try dsimp only at hyp
  refine eL_X11_often_19_24 (d := d) (h := h) g hW  FU ((0 : Int32), (0 : Int32), M2) (x3_5, M5) hw5 ?_
  change am_At _ _ _ 47 [_, _, _, _, _] [] _ _
  refine am_iload_n dX11_often_47 rfl ?_
  cases hyp
  exact am_iret dX11_often_48 rfl
theorem eL_X11_often_19_25 {d : Nat} {h : am_H} (g : lay h) (hW : h.2.2 23 0 = some 25 ∧ h.2.2 23 2 = some 24) {x1 x2 : Int32} {r : am_R} (n : Nat) : ∀ (s : Int32 × Int32 × Mem) (e : Int32 × Mem), wh (L_X11_often_19 25 24 x1 x2) n s = some e → (match e with | (x3, M) => am_At am_X0 (d + 5) mX11_often 47 [some (.inr (0, 0)), some (am_I (x1)), some (am_I (x2)), some (am_I (x3)), none] [] (am_hM h M) r) → (match s with | (x3, x4, M) => am_At am_X0 (d + 5) mX11_often 19 [some (.inr (0, 0)), some (am_I (x1)), some (am_I (x2)), some (am_I (x3)), some (am_I (x4))] [] (am_hM h M) r) := by
  refine am_wh (At := fun (s : Int32 × Int32 × Mem) => match s with | (x3, x4, M) => am_At am_X0 (d + 5) mX11_often 19 [some (.inr (0, 0)), some (am_I (x1)), some (am_I (x2)), some (am_I (x3)), some (am_I (x4))] [] (am_hM h M) r) (Ex := fun (e : Int32 × Mem) => match e with | (x3, M) => am_At am_X0 (d + 5) mX11_often 47 [some (.inr (0, 0)), some (am_I (x1)), some (am_I (x2)), some (am_I (x3)), none] [] (am_hM h M) r) ?_ n
  rintro ⟨x3, x4, M⟩ y hyp hx
  unfold L_X11_often_19 at hyp
  try dsimp only at hyp
  change am_At _ _ _ 19 [_, _, _, _, _] [] _ _
  refine am_iload dX11_often_19 rfl ?_
  refine am_iload_n dX11_often_21 rfl ?_
  refine am_icmp_ge (25) 47 dX11_often_22 rfl ?_ ?_
  · intro hc3
    have hc3 : x2 ≤ x4 := hc3
    replace hyp := it_pos hc3 hyp
    cases hyp
    refine am_At.drop 4 ?_
    exact hx
  · intro hc3n
    have hc3n : ¬ (x2 ≤ x4) := hc3n
    replace hyp := it_neg hc3n hyp
    refine am_iload_n dX11_often_25 rfl ?_
    refine am_aload_n dX11_often_26 rfl ?_
    refine am_getR 11 8 38 dX11_often_27 fg_X11_68 (sh_0 g) (by decide) rfl (rf_0_8 g) ?_
    refine am_iload dX11_often_30 rfl ?_
    obtain ⟨⟨v4, M4⟩, hk4, hyp⟩ := bd_some hyp
    try dsimp only at hyp
    refine am_callV [_] dX11_often_32 ml_X11_278 vm_X6_openIn (sh_38 g) rfl (fun _ => Nat.le_of_ble_eq_true rfl) (by omega) rfl (ef_X6_openIn_25 (d := d + 0) (h := h) g hW hk4) rfl ?_
    change am_At _ _ _ 35 [_, _, _, _, _] [_, _] _ _
    refine am_iload_n dX11_often_35 rfl ?_
    refine am_ishr dX11_often_36 ?_
    refine am_iconst 1 (v := 1) dX11_often_37 (by decide) ?_
    refine am_iand dX11_often_38 ?_
    refine am_iadd dX11_often_39 ?_
    refine am_istore_n dX11_often_40 (am_lb rfl) ?_
    change am_At _ _ _ 41 [_, _, _, _, _] [] _ _
    refine am_iinc dX11_often_41 rfl (am_ix _) ?_
    change am_At _ _ _ 44 [_, _, _, _, _] [] _ _
    refine am_goto (-25) 19 dX11_often_44 rfl ?_
    cases hyp
    exact hx
theorem ef_X11_often_25 {d : Nat} {h : am_H} (g : lay h) (hW : h.2.2 23 0 = some 25 ∧ h.2.2 23 2 = some 24) {x1 x2 : Int32} {M : Mem} {y : (Int32 ⊕ String) × Mem} (hyp : f_X11_often 25 24 x1 x2 M = some y) : am_Ev (d + 5) mX11_often [.inr (0, 0), am_I x1, am_I x2] (am_hM h M) (am_o1 h y) := by
  unfold f_X11_often at hyp
  refine am_Ev.mk (by decide +kernel) rfl rfl (am_oc1 h y) (am_os1 h y) ?_
  change am_At _ _ _ 0 [_, _, _, _, _] [] _ _
  refine am_aload_n dX11_often_0 rfl ?_
  refine am_iload_n dX11_often_1 rfl ?_
  obtain ⟨⟨y1, M1⟩, hk1, hyp⟩ := bd_some hyp
  rcases y1 with v1 | E1
  rotate_left
  · try dsimp only at hyp
    cases hyp
    exact am_callVX [_] dX11_often_2 ml_X11_209 vm_X11_needBoard (sh_0 g) rfl (fun _ => Nat.le_of_ble_eq_true rfl) (by omega) rfl (am_o0t (ef_X11_needBoard (d := d + 3) (h := h) g hk1)) rfl
  try dsimp only at hyp
  refine am_callV [_] dX11_often_2 ml_X11_209 vm_X11_needBoard (sh_0 g) rfl (fun _ => Nat.le_of_ble_eq_true rfl) (by omega) rfl (am_o0v (ef_X11_needBoard (d := d + 3) (h := h) g hk1)) rfl ?_
  change am_At _ _ _ 5 [_, _, _, _, _] [] _ _
  refine am_aload_n dX11_often_5 rfl ?_
  refine am_iload_n dX11_often_6 rfl ?_
  refine am_iconst 0 (v := 0) dX11_often_7 (by decide) ?_
  refine am_sipush 240 (v := 240) dX11_often_8 (by decide) ?_
  obtain ⟨⟨y2, M2⟩, hk2, hyp⟩ := bd_some hyp
  rcases y2 with v2 | E2
  rotate_left
  · try dsimp only at hyp
    cases hyp
    exact am_callVX [_, _, _] dX11_often_11 ml_X11_178 vm_X11_needFit (sh_0 g) rfl (fun _ => Nat.le_of_ble_eq_true rfl) (by omega) rfl (am_o0t (ef_X11_needFit (d := d + 4) (h := h) g hk2)) rfl
  try dsimp only at hyp
  refine am_callV [_, _, _] dX11_often_11 ml_X11_178 vm_X11_needFit (sh_0 g) rfl (fun _ => Nat.le_of_ble_eq_true rfl) (by omega) rfl (am_o0v (ef_X11_needFit (d := d + 4) (h := h) g hk2)) rfl ?_
  change am_At _ _ _ 14 [_, _, _, _, _] [] _ _
  refine am_iconst 0 (v := 0) dX11_often_14 (by decide) ?_
  refine am_istore_n dX11_often_15 (am_lb rfl) ?_
  change am_At _ _ _ 16 [_, _, _, _, _] [] _ _
  refine am_iconst 0 (v := 0) dX11_often_16 (by decide) ?_
  refine am_istore dX11_often_17 (am_lb rfl) ?_
  change am_At _ _ _ 19 [_, _, _, _, _] [] _ _
  obtain ⟨⟨x3_5, M5⟩, hw5, hyp⟩ := bd_some hyp
  try dsimp only at hyp
  refine eL_X11_often_19_25 (d := d) (h := h) g hW  FU ((0 : Int32), (0 : Int32), M2) (x3_5, M5) hw5 ?_
  change am_At _ _ _ 47 [_, _, _, _, _] [] _ _
  refine am_iload_n dX11_often_47 rfl ?_
  cases hyp
  exact am_iret dX11_often_48 rfl
theorem ef_X11_openNow_24 {d : Nat} {h : am_H} (g : lay h) (hW : h.2.2 23 0 = some 24 ∧ h.2.2 23 2 = some 25) {M : Mem} {v : Int32} {M' : Mem} (hyp : f_X11_openNow 24 25 M = some (v, M')) : am_Ev (d + 5) mX11_openNow [.inr (0, 0)] (am_hM h M) (.inl (some (am_I v), am_hM h M')) := by
  unfold f_X11_openNow at hyp
  refine am_Ev.mk (by decide +kernel) rfl rfl (Nat.le_refl _) (Nat.le_refl _) ?_
  change am_At _ _ _ 0 [_] [] _ _
  refine am_aload_n dX11_openNow_0 rfl ?_
  refine am_getR 11 8 38 dX11_openNow_1 fg_X11_68 (sh_0 g) (by decide) rfl (rf_0_8 g) ?_
  refine am_iconst 0 (v := 0) dX11_openNow_4 (by decide) ?_
  obtain ⟨⟨v1, M1⟩, hk1, hyp⟩ := bd_some hyp
  try dsimp only at hyp
  refine am_callV [_] dX11_openNow_5 ml_X11_278 vm_X6_openIn (sh_38 g) rfl (fun _ => Nat.le_of_ble_eq_true rfl) (by omega) rfl (ef_X6_openIn_24 (d := d + 0) (h := h) g hW hk1) rfl ?_
  change am_At _ _ _ 8 [_] [_] _ _
  cases hyp
  exact am_iret dX11_openNow_8 rfl
theorem ef_X11_openNow_25 {d : Nat} {h : am_H} (g : lay h) (hW : h.2.2 23 0 = some 25 ∧ h.2.2 23 2 = some 24) {M : Mem} {v : Int32} {M' : Mem} (hyp : f_X11_openNow 25 24 M = some (v, M')) : am_Ev (d + 5) mX11_openNow [.inr (0, 0)] (am_hM h M) (.inl (some (am_I v), am_hM h M')) := by
  unfold f_X11_openNow at hyp
  refine am_Ev.mk (by decide +kernel) rfl rfl (Nat.le_refl _) (Nat.le_refl _) ?_
  change am_At _ _ _ 0 [_] [] _ _
  refine am_aload_n dX11_openNow_0 rfl ?_
  refine am_getR 11 8 38 dX11_openNow_1 fg_X11_68 (sh_0 g) (by decide) rfl (rf_0_8 g) ?_
  refine am_iconst 0 (v := 0) dX11_openNow_4 (by decide) ?_
  obtain ⟨⟨v1, M1⟩, hk1, hyp⟩ := bd_some hyp
  try dsimp only at hyp
  refine am_callV [_] dX11_openNow_5 ml_X11_278 vm_X6_openIn (sh_38 g) rfl (fun _ => Nat.le_of_ble_eq_true rfl) (by omega) rfl (ef_X6_openIn_25 (d := d + 0) (h := h) g hW hk1) rfl ?_
  change am_At _ _ _ 8 [_] [_] _ _
  cases hyp
  exact am_iret dX11_openNow_8 rfl
theorem eL_X11_opens_7_24 {d : Nat} {h : am_H} (g : lay h) (hW : h.2.2 23 0 = some 24 ∧ h.2.2 23 2 = some 25) {x1 : Int32} {r : am_R} (n : Nat) : ∀ (s : Int32 × Mem) (e : (Int32 × Mem) ⊕ (Mem)), wh (L_X11_opens_7 24 25 x1) n s = some e → (match e with | (Sum.inl (x2, M)) => am_At am_X0 (d + 5) mX11_opens 29 [some (.inr (0, 0)), some (am_I (x1)), some (am_I (x2))] [] (am_hM h M) r | (Sum.inr M) => am_At am_X0 (d + 5) mX11_opens 37 [some (.inr (0, 0)), some (am_I (x1)), none] [] (am_hM h M) r) → (match s with | (x2, M) => am_At am_X0 (d + 5) mX11_opens 7 [some (.inr (0, 0)), some (am_I (x1)), some (am_I (x2))] [] (am_hM h M) r) := by
  refine am_wh (At := fun (s : Int32 × Mem) => match s with | (x2, M) => am_At am_X0 (d + 5) mX11_opens 7 [some (.inr (0, 0)), some (am_I (x1)), some (am_I (x2))] [] (am_hM h M) r) (Ex := fun (e : (Int32 × Mem) ⊕ (Mem)) => match e with | (Sum.inl (x2, M)) => am_At am_X0 (d + 5) mX11_opens 29 [some (.inr (0, 0)), some (am_I (x1)), some (am_I (x2))] [] (am_hM h M) r | (Sum.inr M) => am_At am_X0 (d + 5) mX11_opens 37 [some (.inr (0, 0)), some (am_I (x1)), none] [] (am_hM h M) r) ?_ n
  rintro ⟨x2, M⟩ y hyp hx
  unfold L_X11_opens_7 at hyp
  try dsimp only at hyp
  change am_At _ _ _ 7 [_, _, _] [] _ _
  refine am_iload_n dX11_opens_7 rfl ?_
  refine am_sipush 240 (v := 240) dX11_opens_8 (by decide) ?_
  refine am_icmp_gt (26) 37 dX11_opens_11 rfl ?_ ?_
  · intro hc2
    have hc2 : (240 : Int32) < x2 := hc2
    replace hyp := it_pos hc2 hyp
    cases hyp
    refine am_At.drop 2 ?_
    exact hx
  · intro hc2n
    have hc2n : ¬ ((240 : Int32) < x2) := hc2n
    replace hyp := it_neg hc2n hyp
    refine am_aload_n dX11_opens_14 rfl ?_
    refine am_getR 11 8 38 dX11_opens_15 fg_X11_68 (sh_0 g) (by decide) rfl (rf_0_8 g) ?_
    refine am_iload_n dX11_opens_18 rfl ?_
    obtain ⟨⟨v3, M3⟩, hk3, hyp⟩ := bd_some hyp
    try dsimp only at hyp
    refine am_callV [_] dX11_opens_19 ml_X11_278 vm_X6_openIn (sh_38 g) rfl (fun _ => Nat.le_of_ble_eq_true rfl) (by omega) rfl (ef_X6_openIn_24 (d := d + 0) (h := h) g hW hk3) rfl ?_
    change am_At _ _ _ 22 [_, _, _] [_] _ _
    refine am_iload_n dX11_opens_22 rfl ?_
    refine am_callS (c := 0) (k := 0) (n := 0) (w := 0) [_, _] dX11_opens_23 ml_X11_281 sm_X11_isBitOf rfl (fun _ => Nat.le_of_ble_eq_true rfl) (by omega) rfl (ef_X11_isBitOf (d := d + 4) (h := am_hM h M3) (x0 := v3) (x1 := x1)  rfl) rfl ?_
    change am_At _ _ _ 26 [_, _, _] [_] _ _
    refine am_if_eq (5) 31 dX11_opens_26 rfl ?_ ?_
    · intro hc4
      have hc4 : (f_X11_isBitOf v3 x1) = 0 := hc4
      replace hyp := it_pos hc4 hyp
      refine am_iinc dX11_opens_31 rfl (am_ix _) ?_
      change am_At _ _ _ 34 [_, _, _] [] _ _
      refine am_goto (-27) 7 dX11_opens_34 rfl ?_
      cases hyp
      exact hx
    · intro hc4n
      have hc4n : ¬ ((f_X11_isBitOf v3 x1) = 0) := hc4n
      replace hyp := it_neg hc4n hyp
      cases hyp
      exact hx
theorem ef_X11_opens_24 {d : Nat} {h : am_H} (g : lay h) (hW : h.2.2 23 0 = some 24 ∧ h.2.2 23 2 = some 25) {x1 : Int32} {M : Mem} {y : (Int32 ⊕ String) × Mem} (hyp : f_X11_opens 24 25 x1 M = some y) : am_Ev (d + 5) mX11_opens [.inr (0, 0), am_I x1] (am_hM h M) (am_o1 h y) := by
  unfold f_X11_opens at hyp
  refine am_Ev.mk (by decide +kernel) rfl rfl (am_oc1 h y) (am_os1 h y) ?_
  change am_At _ _ _ 0 [_, _, _] [] _ _
  refine am_aload_n dX11_opens_0 rfl ?_
  refine am_iload_n dX11_opens_1 rfl ?_
  obtain ⟨⟨y1, M1⟩, hk1, hyp⟩ := bd_some hyp
  rcases y1 with v1 | E1
  rotate_left
  · try dsimp only at hyp
    cases hyp
    exact am_callVX [_] dX11_opens_2 ml_X11_209 vm_X11_needBoard (sh_0 g) rfl (fun _ => Nat.le_of_ble_eq_true rfl) (by omega) rfl (am_o0t (ef_X11_needBoard (d := d + 3) (h := h) g hk1)) rfl
  try dsimp only at hyp
  refine am_callV [_] dX11_opens_2 ml_X11_209 vm_X11_needBoard (sh_0 g) rfl (fun _ => Nat.le_of_ble_eq_true rfl) (by omega) rfl (am_o0v (ef_X11_needBoard (d := d + 3) (h := h) g hk1)) rfl ?_
  change am_At _ _ _ 5 [_, _, _] [] _ _
  refine am_iconst 0 (v := 0) dX11_opens_5 (by decide) ?_
  refine am_istore_n dX11_opens_6 (am_lb rfl) ?_
  change am_At _ _ _ 7 [_, _, _] [] _ _
  obtain ⟨e5, hw5, hyp⟩ := bd_some hyp
  rcases e5 with ⟨x2_5, M5⟩ | M5
  · try dsimp only at hyp
    refine eL_X11_opens_7_24 (d := d) (h := h) g hW  FU ((0 : Int32), M1) (Sum.inl (x2_5, M5)) hw5 ?_
    change am_At _ _ _ 29 [_, _, _] [] _ _
    refine am_iload_n dX11_opens_29 rfl ?_
    cases hyp
    exact am_iret dX11_opens_30 rfl
  · try dsimp only at hyp
    refine eL_X11_opens_7_24 (d := d) (h := h) g hW  FU ((0 : Int32), M1) (Sum.inr M5) hw5 ?_
    change am_At _ _ _ 37 [_, _, _] [] _ _
    refine am_iconst (-1) (v := (-1)) dX11_opens_37 (by decide) ?_
    cases hyp
    exact am_iret dX11_opens_38 rfl
theorem eL_X11_opens_7_25 {d : Nat} {h : am_H} (g : lay h) (hW : h.2.2 23 0 = some 25 ∧ h.2.2 23 2 = some 24) {x1 : Int32} {r : am_R} (n : Nat) : ∀ (s : Int32 × Mem) (e : (Int32 × Mem) ⊕ (Mem)), wh (L_X11_opens_7 25 24 x1) n s = some e → (match e with | (Sum.inl (x2, M)) => am_At am_X0 (d + 5) mX11_opens 29 [some (.inr (0, 0)), some (am_I (x1)), some (am_I (x2))] [] (am_hM h M) r | (Sum.inr M) => am_At am_X0 (d + 5) mX11_opens 37 [some (.inr (0, 0)), some (am_I (x1)), none] [] (am_hM h M) r) → (match s with | (x2, M) => am_At am_X0 (d + 5) mX11_opens 7 [some (.inr (0, 0)), some (am_I (x1)), some (am_I (x2))] [] (am_hM h M) r) := by
  refine am_wh (At := fun (s : Int32 × Mem) => match s with | (x2, M) => am_At am_X0 (d + 5) mX11_opens 7 [some (.inr (0, 0)), some (am_I (x1)), some (am_I (x2))] [] (am_hM h M) r) (Ex := fun (e : (Int32 × Mem) ⊕ (Mem)) => match e with | (Sum.inl (x2, M)) => am_At am_X0 (d + 5) mX11_opens 29 [some (.inr (0, 0)), some (am_I (x1)), some (am_I (x2))] [] (am_hM h M) r | (Sum.inr M) => am_At am_X0 (d + 5) mX11_opens 37 [some (.inr (0, 0)), some (am_I (x1)), none] [] (am_hM h M) r) ?_ n
  rintro ⟨x2, M⟩ y hyp hx
  unfold L_X11_opens_7 at hyp
  try dsimp only at hyp
  change am_At _ _ _ 7 [_, _, _] [] _ _
  refine am_iload_n dX11_opens_7 rfl ?_
  refine am_sipush 240 (v := 240) dX11_opens_8 (by decide) ?_
  refine am_icmp_gt (26) 37 dX11_opens_11 rfl ?_ ?_
  · intro hc2
    have hc2 : (240 : Int32) < x2 := hc2
    replace hyp := it_pos hc2 hyp
    cases hyp
    refine am_At.drop 2 ?_
    exact hx
  · intro hc2n
    have hc2n : ¬ ((240 : Int32) < x2) := hc2n
    replace hyp := it_neg hc2n hyp
    refine am_aload_n dX11_opens_14 rfl ?_
    refine am_getR 11 8 38 dX11_opens_15 fg_X11_68 (sh_0 g) (by decide) rfl (rf_0_8 g) ?_
    refine am_iload_n dX11_opens_18 rfl ?_
    obtain ⟨⟨v3, M3⟩, hk3, hyp⟩ := bd_some hyp
    try dsimp only at hyp
    refine am_callV [_] dX11_opens_19 ml_X11_278 vm_X6_openIn (sh_38 g) rfl (fun _ => Nat.le_of_ble_eq_true rfl) (by omega) rfl (ef_X6_openIn_25 (d := d + 0) (h := h) g hW hk3) rfl ?_
    change am_At _ _ _ 22 [_, _, _] [_] _ _
    refine am_iload_n dX11_opens_22 rfl ?_
    refine am_callS (c := 0) (k := 0) (n := 0) (w := 0) [_, _] dX11_opens_23 ml_X11_281 sm_X11_isBitOf rfl (fun _ => Nat.le_of_ble_eq_true rfl) (by omega) rfl (ef_X11_isBitOf (d := d + 4) (h := am_hM h M3) (x0 := v3) (x1 := x1)  rfl) rfl ?_
    change am_At _ _ _ 26 [_, _, _] [_] _ _
    refine am_if_eq (5) 31 dX11_opens_26 rfl ?_ ?_
    · intro hc4
      have hc4 : (f_X11_isBitOf v3 x1) = 0 := hc4
      replace hyp := it_pos hc4 hyp
      refine am_iinc dX11_opens_31 rfl (am_ix _) ?_
      change am_At _ _ _ 34 [_, _, _] [] _ _
      refine am_goto (-27) 7 dX11_opens_34 rfl ?_
      cases hyp
      exact hx
    · intro hc4n
      have hc4n : ¬ ((f_X11_isBitOf v3 x1) = 0) := hc4n
      replace hyp := it_neg hc4n hyp
      cases hyp
      exact hx
theorem ef_X11_opens_25 {d : Nat} {h : am_H} (g : lay h) (hW : h.2.2 23 0 = some 25 ∧ h.2.2 23 2 = some 24) {x1 : Int32} {M : Mem} {y : (Int32 ⊕ String) × Mem} (hyp : f_X11_opens 25 24 x1 M = some y) : am_Ev (d + 5) mX11_opens [.inr (0, 0), am_I x1] (am_hM h M) (am_o1 h y) := by
  unfold f_X11_opens at hyp
  refine am_Ev.mk (by decide +kernel) rfl rfl (am_oc1 h y) (am_os1 h y) ?_
  change am_At _ _ _ 0 [_, _, _] [] _ _
  refine am_aload_n dX11_opens_0 rfl ?_
  refine am_iload_n dX11_opens_1 rfl ?_
  obtain ⟨⟨y1, M1⟩, hk1, hyp⟩ := bd_some hyp
  rcases y1 with v1 | E1
  rotate_left
  · try dsimp only at hyp
    cases hyp
    exact am_callVX [_] dX11_opens_2 ml_X11_209 vm_X11_needBoard (sh_0 g) rfl (fun _ => Nat.le_of_ble_eq_true rfl) (by omega) rfl (am_o0t (ef_X11_needBoard (d := d + 3) (h := h) g hk1)) rfl
  try dsimp only at hyp
  refine am_callV [_] dX11_opens_2 ml_X11_209 vm_X11_needBoard (sh_0 g) rfl (fun _ => Nat.le_of_ble_eq_true rfl) (by omega) rfl (am_o0v (ef_X11_needBoard (d := d + 3) (h := h) g hk1)) rfl ?_
  change am_At _ _ _ 5 [_, _, _] [] _ _
  refine am_iconst 0 (v := 0) dX11_opens_5 (by decide) ?_
  refine am_istore_n dX11_opens_6 (am_lb rfl) ?_
  change am_At _ _ _ 7 [_, _, _] [] _ _
  obtain ⟨e5, hw5, hyp⟩ := bd_some hyp
  rcases e5 with ⟨x2_5, M5⟩ | M5
  · try dsimp only at hyp
    refine eL_X11_opens_7_25 (d := d) (h := h) g hW  FU ((0 : Int32), M1) (Sum.inl (x2_5, M5)) hw5 ?_
    change am_At _ _ _ 29 [_, _, _] [] _ _
    refine am_iload_n dX11_opens_29 rfl ?_
    cases hyp
    exact am_iret dX11_opens_30 rfl
  · try dsimp only at hyp
    refine eL_X11_opens_7_25 (d := d) (h := h) g hW  FU ((0 : Int32), M1) (Sum.inr M5) hw5 ?_
    change am_At _ _ _ 37 [_, _, _] [] _ _
    refine am_iconst (-1) (v := (-1)) dX11_opens_37 (by decide) ?_
    cases hyp
    exact am_iret dX11_opens_38 rfl
theorem eL_X11_peak_14_24 {d : Nat} {h : am_H} (g : lay h) (hW : h.2.2 23 0 = some 24 ∧ h.2.2 23 2 = some 25) {x1 : Int32} {r : am_R} (n : Nat) : ∀ (s : Int32 × Int32 × Int32 × Mem) (e : Int32 × Int32 × Mem), wh (L_X11_peak_14 24 25) n s = some e → (match e with | (x2, x3, M) => am_At am_X0 (d + 5) mX11_peak 54 [some (.inr (0, 0)), some (am_I (x1)), some (am_I (x2)), some (am_I (x3)), none, none] [] (am_hM h M) r) → (match s with | (x2, x3, x4, M) => am_At am_X0 (d + 5) mX11_peak 14 [some (.inr (0, 0)), some (am_I (x1)), some (am_I (x2)), some (am_I (x3)), some (am_I (x4)), none] [] (am_hM h M) r) := by
  refine am_wh (At := fun (s : Int32 × Int32 × Int32 × Mem) => match s with | (x2, x3, x4, M) => am_At am_X0 (d + 5) mX11_peak 14 [some (.inr (0, 0)), some (am_I (x1)), some (am_I (x2)), some (am_I (x3)), some (am_I (x4)), none] [] (am_hM h M) r) (Ex := fun (e : Int32 × Int32 × Mem) => match e with | (x2, x3, M) => am_At am_X0 (d + 5) mX11_peak 54 [some (.inr (0, 0)), some (am_I (x1)), some (am_I (x2)), some (am_I (x3)), none, none] [] (am_hM h M) r) ?_ n
  rintro ⟨x2, x3, x4, M⟩ y hyp hx
  unfold L_X11_peak_14 at hyp
  try dsimp only at hyp
  change am_At _ _ _ 14 [_, _, _, _, _, _] [] _ _
  refine am_iload dX11_peak_14 rfl ?_
  refine am_sipush 240 (v := 240) dX11_peak_16 (by decide) ?_
  refine am_icmp_ge (35) 54 dX11_peak_19 rfl ?_ ?_
  · intro hc2
    have hc2 : (240 : Int32) ≤ x4 := hc2
    replace hyp := it_pos hc2 hyp
    cases hyp
    refine am_At.drop 4 ?_
    exact hx
  · intro hc2n
    have hc2n : ¬ ((240 : Int32) ≤ x4) := hc2n
    replace hyp := it_neg hc2n hyp
    refine am_aload_n dX11_peak_22 rfl ?_
    refine am_getR 11 8 38 dX11_peak_23 fg_X11_68 (sh_0 g) (by decide) rfl (rf_0_8 g) ?_
    refine am_iload dX11_peak_26 rfl ?_
    obtain ⟨⟨v3, M3⟩, hk3, hyp⟩ := bd_some hyp
    try dsimp only at hyp
    refine am_callV [_] dX11_peak_28 ml_X11_278 vm_X6_openIn (sh_38 g) rfl (fun _ => Nat.le_of_ble_eq_true rfl) (by omega) rfl (ef_X6_openIn_24 (d := d + 0) (h := h) g hW hk3) rfl ?_
    change am_At _ _ _ 31 [_, _, _, _, _, _] [_] _ _
    refine am_callS (c := 0) (k := 0) (n := 0) (w := 0) [_] dX11_peak_31 ml_X11_194 sm_J6_bitCount_0f7a4 rfl (fun _ => Nat.le_of_ble_eq_true rfl) (by omega) rfl (ev_bc (d := d + 4) (x := v3)) rfl ?_
    change am_At _ _ _ 34 [_, _, _, _, _, _] [_] _ _
    refine am_istore dX11_peak_34 (am_lb rfl) ?_
    change am_At _ _ _ 36 [_, _, _, _, _, _] [] _ _
    refine am_iload dX11_peak_36 rfl ?_
    refine am_iload_n dX11_peak_38 rfl ?_
    refine am_icmp_le (9) 48 dX11_peak_39 rfl ?_ ?_
    · intro hc4
      have hc4 : (bcI v3) ≤ x3 := hc4
      replace hyp := it_pos hc4 hyp
      refine am_iinc dX11_peak_48 rfl (am_ix _) ?_
      change am_At _ _ _ 51 [_, _, _, _, _, _] [] _ _
      refine am_goto (-37) 14 dX11_peak_51 rfl ?_
      cases hyp
      refine am_At.drop 5 ?_
      exact hx
    · intro hc4n
      have hc4n : ¬ ((bcI v3) ≤ x3) := hc4n
      replace hyp := it_neg hc4n hyp
      refine am_iload dX11_peak_42 rfl ?_
      refine am_istore_n dX11_peak_44 (am_lb rfl) ?_
      change am_At _ _ _ 45 [_, _, _, _, _, _] [] _ _
      refine am_iload dX11_peak_45 rfl ?_
      refine am_istore_n dX11_peak_47 (am_lb rfl) ?_
      change am_At _ _ _ 48 [_, _, _, _, _, _] [] _ _
      refine am_iinc dX11_peak_48 rfl (am_ix _) ?_
      change am_At _ _ _ 51 [_, _, _, _, _, _] [] _ _
      refine am_goto (-37) 14 dX11_peak_51 rfl ?_
      cases hyp
      refine am_At.drop 5 ?_
      exact hx
theorem ef_X11_peak_24 {d : Nat} {h : am_H} (g : lay h) (hW : h.2.2 23 0 = some 24 ∧ h.2.2 23 2 = some 25) {x1 : Int32} {M : Mem} {y : (Int32 ⊕ String) × Mem} (hyp : f_X11_peak 24 25 x1 M = some y) : am_Ev (d + 5) mX11_peak [.inr (0, 0), am_I x1] (am_hM h M) (am_o1 h y) := by
  unfold f_X11_peak at hyp
  refine am_Ev.mk (by decide +kernel) rfl rfl (am_oc1 h y) (am_os1 h y) ?_
  change am_At _ _ _ 0 [_, _, _, _, _, _] [] _ _
  refine am_aload_n dX11_peak_0 rfl ?_
  refine am_iload_n dX11_peak_1 rfl ?_
  refine am_iconst 0 (v := 0) dX11_peak_2 (by decide) ?_
  refine am_iconst 1 (v := 1) dX11_peak_3 (by decide) ?_
  obtain ⟨⟨y1, M1⟩, hk1, hyp⟩ := bd_some hyp
  rcases y1 with v1 | E1
  rotate_left
  · try dsimp only at hyp
    cases hyp
    exact am_callVX [_, _, _] dX11_peak_4 ml_X11_178 vm_X11_needFit (sh_0 g) rfl (fun _ => Nat.le_of_ble_eq_true rfl) (by omega) rfl (am_o0t (ef_X11_needFit (d := d + 4) (h := h) g hk1)) rfl
  try dsimp only at hyp
  refine am_callV [_, _, _] dX11_peak_4 ml_X11_178 vm_X11_needFit (sh_0 g) rfl (fun _ => Nat.le_of_ble_eq_true rfl) (by omega) rfl (am_o0v (ef_X11_needFit (d := d + 4) (h := h) g hk1)) rfl ?_
  change am_At _ _ _ 7 [_, _, _, _, _, _] [] _ _
  refine am_iconst 0 (v := 0) dX11_peak_7 (by decide) ?_
  refine am_istore_n dX11_peak_8 (am_lb rfl) ?_
  change am_At _ _ _ 9 [_, _, _, _, _, _] [] _ _
  refine am_iconst 0 (v := 0) dX11_peak_9 (by decide) ?_
  refine am_istore_n dX11_peak_10 (am_lb rfl) ?_
  change am_At _ _ _ 11 [_, _, _, _, _, _] [] _ _
  refine am_iconst 0 (v := 0) dX11_peak_11 (by decide) ?_
  refine am_istore dX11_peak_12 (am_lb rfl) ?_
  change am_At _ _ _ 14 [_, _, _, _, _, _] [] _ _
  obtain ⟨⟨x2_5, x3_5, M5⟩, hw5, hyp⟩ := bd_some hyp
  try dsimp only at hyp
  refine eL_X11_peak_14_24 (d := d) (h := h) g hW  FU ((0 : Int32), (0 : Int32), (0 : Int32), M1) (x2_5, x3_5, M5) hw5 ?_
  change am_At _ _ _ 54 [_, _, _, _, _, _] [] _ _
  refine am_iload_n dX11_peak_54 rfl ?_
  refine am_if_ne (7) 62 dX11_peak_55 rfl ?_ ?_
  · intro hc6n
    have hc6n : ¬ (x1 = 0) := hc6n
    replace hyp := it_neg hc6n hyp
    refine am_iload_n dX11_peak_62 rfl ?_
    cases hyp
    exact am_iret dX11_peak_63 rfl
  · intro hc6
    have hc6 : x1 = 0 := hc6
    replace hyp := it_pos hc6 hyp
    refine am_iload_n dX11_peak_58 rfl ?_
    refine am_goto (4) 63 dX11_peak_59 rfl ?_
    cases hyp
    exact am_iret dX11_peak_63 rfl
theorem eL_X11_peak_14_25 {d : Nat} {h : am_H} (g : lay h) (hW : h.2.2 23 0 = some 25 ∧ h.2.2 23 2 = some 24) {x1 : Int32} {r : am_R} (n : Nat) : ∀ (s : Int32 × Int32 × Int32 × Mem) (e : Int32 × Int32 × Mem), wh (L_X11_peak_14 25 24) n s = some e → (match e with | (x2, x3, M) => am_At am_X0 (d + 5) mX11_peak 54 [some (.inr (0, 0)), some (am_I (x1)), some (am_I (x2)), some (am_I (x3)), none, none] [] (am_hM h M) r) → (match s with | (x2, x3, x4, M) => am_At am_X0 (d + 5) mX11_peak 14 [some (.inr (0, 0)), some (am_I (x1)), some (am_I (x2)), some (am_I (x3)), some (am_I (x4)), none] [] (am_hM h M) r) := by
  refine am_wh (At := fun (s : Int32 × Int32 × Int32 × Mem) => match s with | (x2, x3, x4, M) => am_At am_X0 (d + 5) mX11_peak 14 [some (.inr (0, 0)), some (am_I (x1)), some (am_I (x2)), some (am_I (x3)), some (am_I (x4)), none] [] (am_hM h M) r) (Ex := fun (e : Int32 × Int32 × Mem) => match e with | (x2, x3, M) => am_At am_X0 (d + 5) mX11_peak 54 [some (.inr (0, 0)), some (am_I (x1)), some (am_I (x2)), some (am_I (x3)), none, none] [] (am_hM h M) r) ?_ n
  rintro ⟨x2, x3, x4, M⟩ y hyp hx
  unfold L_X11_peak_14 at hyp
  try dsimp only at hyp
  change am_At _ _ _ 14 [_, _, _, _, _, _] [] _ _
  refine am_iload dX11_peak_14 rfl ?_
  refine am_sipush 240 (v := 240) dX11_peak_16 (by decide) ?_
  refine am_icmp_ge (35) 54 dX11_peak_19 rfl ?_ ?_
  · intro hc2
    have hc2 : (240 : Int32) ≤ x4 := hc2
    replace hyp := it_pos hc2 hyp
    cases hyp
    refine am_At.drop 4 ?_
    exact hx
  · intro hc2n
    have hc2n : ¬ ((240 : Int32) ≤ x4) := hc2n
    replace hyp := it_neg hc2n hyp
    refine am_aload_n dX11_peak_22 rfl ?_
    refine am_getR 11 8 38 dX11_peak_23 fg_X11_68 (sh_0 g) (by decide) rfl (rf_0_8 g) ?_
    refine am_iload dX11_peak_26 rfl ?_
    obtain ⟨⟨v3, M3⟩, hk3, hyp⟩ := bd_some hyp
    try dsimp only at hyp
    refine am_callV [_] dX11_peak_28 ml_X11_278 vm_X6_openIn (sh_38 g) rfl (fun _ => Nat.le_of_ble_eq_true rfl) (by omega) rfl (ef_X6_openIn_25 (d := d + 0) (h := h) g hW hk3) rfl ?_
    change am_At _ _ _ 31 [_, _, _, _, _, _] [_] _ _
    refine am_callS (c := 0) (k := 0) (n := 0) (w := 0) [_] dX11_peak_31 ml_X11_194 sm_J6_bitCount_0f7a4 rfl (fun _ => Nat.le_of_ble_eq_true rfl) (by omega) rfl (ev_bc (d := d + 4) (x := v3)) rfl ?_
    change am_At _ _ _ 34 [_, _, _, _, _, _] [_] _ _
    refine am_istore dX11_peak_34 (am_lb rfl) ?_
    change am_At _ _ _ 36 [_, _, _, _, _, _] [] _ _
    refine am_iload dX11_peak_36 rfl ?_
    refine am_iload_n dX11_peak_38 rfl ?_
    refine am_icmp_le (9) 48 dX11_peak_39 rfl ?_ ?_
    · intro hc4
      have hc4 : (bcI v3) ≤ x3 := hc4
      replace hyp := it_pos hc4 hyp
      refine am_iinc dX11_peak_48 rfl (am_ix _) ?_
      change am_At _ _ _ 51 [_, _, _, _, _, _] [] _ _
      refine am_goto (-37) 14 dX11_peak_51 rfl ?_
      cases hyp
      refine am_At.drop 5 ?_
      exact hx
    · intro hc4n
      have hc4n : ¬ ((bcI v3) ≤ x3) := hc4n
      replace hyp := it_neg hc4n hyp
      refine am_iload dX11_peak_42 rfl ?_
      refine am_istore_n dX11_peak_44 (am_lb rfl) ?_
      change am_At _ _ _ 45 [_, _, _, _, _, _] [] _ _
      refine am_iload dX11_peak_45 rfl ?_
      refine am_istore_n dX11_peak_47 (am_lb rfl) ?_
      change am_At _ _ _ 48 [_, _, _, _, _, _] [] _ _
      refine am_iinc dX11_peak_48 rfl (am_ix _) ?_
      change am_At _ _ _ 51 [_, _, _, _, _, _] [] _ _
      refine am_goto (-37) 14 dX11_peak_51 rfl ?_
      cases hyp
      refine am_At.drop 5 ?_
      exact hx
theorem ef_X11_peak_25 {d : Nat} {h : am_H} (g : lay h) (hW : h.2.2 23 0 = some 25 ∧ h.2.2 23 2 = some 24) {x1 : Int32} {M : Mem} {y : (Int32 ⊕ String) × Mem} (hyp : f_X11_peak 25 24 x1 M = some y) : am_Ev (d + 5) mX11_peak [.inr (0, 0), am_I x1] (am_hM h M) (am_o1 h y) := by
  unfold f_X11_peak at hyp
  refine am_Ev.mk (by decide +kernel) rfl rfl (am_oc1 h y) (am_os1 h y) ?_
  change am_At _ _ _ 0 [_, _, _, _, _, _] [] _ _
  refine am_aload_n dX11_peak_0 rfl ?_
  refine am_iload_n dX11_peak_1 rfl ?_
  refine am_iconst 0 (v := 0) dX11_peak_2 (by decide) ?_
  refine am_iconst 1 (v := 1) dX11_peak_3 (by decide) ?_
  obtain ⟨⟨y1, M1⟩, hk1, hyp⟩ := bd_some hyp
  rcases y1 with v1 | E1
  rotate_left
  · try dsimp only at hyp
    cases hyp
    exact am_callVX [_, _, _] dX11_peak_4 ml_X11_178 vm_X11_needFit (sh_0 g) rfl (fun _ => Nat.le_of_ble_eq_true rfl) (by omega) rfl (am_o0t (ef_X11_needFit (d := d + 4) (h := h) g hk1)) rfl
  try dsimp only at hyp
  refine am_callV [_, _, _] dX11_peak_4 ml_X11_178 vm_X11_needFit (sh_0 g) rfl (fun _ => Nat.le_of_ble_eq_true rfl) (by omega) rfl (am_o0v (ef_X11_needFit (d := d + 4) (h := h) g hk1)) rfl ?_
  change am_At _ _ _ 7 [_, _, _, _, _, _] [] _ _
  refine am_iconst 0 (v := 0) dX11_peak_7 (by decide) ?_
  refine am_istore_n dX11_peak_8 (am_lb rfl) ?_
  change am_At _ _ _ 9 [_, _, _, _, _, _] [] _ _
  refine am_iconst 0 (v := 0) dX11_peak_9 (by decide) ?_
  refine am_istore_n dX11_peak_10 (am_lb rfl) ?_
  change am_At _ _ _ 11 [_, _, _, _, _, _] [] _ _
  refine am_iconst 0 (v := 0) dX11_peak_11 (by decide) ?_
  refine am_istore dX11_peak_12 (am_lb rfl) ?_
  change am_At _ _ _ 14 [_, _, _, _, _, _] [] _ _
  obtain ⟨⟨x2_5, x3_5, M5⟩, hw5, hyp⟩ := bd_some hyp
  try dsimp only at hyp
  refine eL_X11_peak_14_25 (d := d) (h := h) g hW  FU ((0 : Int32), (0 : Int32), (0 : Int32), M1) (x2_5, x3_5, M5) hw5 ?_
  change am_At _ _ _ 54 [_, _, _, _, _, _] [] _ _
  refine am_iload_n dX11_peak_54 rfl ?_
  refine am_if_ne (7) 62 dX11_peak_55 rfl ?_ ?_
  · intro hc6n
    have hc6n : ¬ (x1 = 0) := hc6n
    replace hyp := it_neg hc6n hyp
    refine am_iload_n dX11_peak_62 rfl ?_
    cases hyp
    exact am_iret dX11_peak_63 rfl
  · intro hc6
    have hc6 : x1 = 0 := hc6
    replace hyp := it_pos hc6 hyp
    refine am_iload_n dX11_peak_58 rfl ?_
    refine am_goto (4) 63 dX11_peak_59 rfl ?_
    cases hyp
    exact am_iret dX11_peak_63 rfl
theorem eL_X11_reach_39_24 {d : Nat} {h : am_H} (g : lay h) (hW : h.2.2 23 0 = some 24 ∧ h.2.2 23 2 = some 25) {x3 : Int32} {M : Mem} {r : am_R} (n : Nat) : ∀ (s : Int32 × Int32) (e : Int32), wh (L_X11_reach_39 24 25 x3) n s = some e → ((fun (x4 : Int32) => am_At am_X0 (d + 6) mX11_reach 78 [some (.inr (0, 0)), none, none, some (am_I (x3)), some (am_I (x4)), none] [] (am_hM h M) r) e) → (match s with | (x4, x5) => am_At am_X0 (d + 6) mX11_reach 39 [some (.inr (0, 0)), none, none, some (am_I (x3)), some (am_I (x4)), some (am_I (x5))] [] (am_hM h M) r) := by
  refine am_wh (At := fun (s : Int32 × Int32) => match s with | (x4, x5) => am_At am_X0 (d + 6) mX11_reach 39 [some (.inr (0, 0)), none, none, some (am_I (x3)), some (am_I (x4)), some (am_I (x5))] [] (am_hM h M) r) (Ex := fun (e : Int32) => (fun (x4 : Int32) => am_At am_X0 (d + 6) mX11_reach 78 [some (.inr (0, 0)), none, none, some (am_I (x3)), some (am_I (x4)), none] [] (am_hM h M) r) e) ?_ n
  rintro ⟨x4, x5⟩ y hyp hx
  unfold L_X11_reach_39 at hyp
  try dsimp only at hyp
  change am_At _ _ _ 39 [_, _, _, _, _, _] [] _ _
  refine am_iload dX11_reach_39 rfl ?_
  refine am_bipush 16 (v := 16) dX11_reach_41 (by decide) ?_
  refine am_icmp_ge (35) 78 dX11_reach_43 rfl ?_ ?_
  · intro hc5
    have hc5 : (16 : Int32) ≤ x5 := hc5
    replace hyp := it_pos hc5 hyp
    cases hyp
    refine am_At.drop 5 ?_
    exact hx
  · intro hc5n
    have hc5n : ¬ ((16 : Int32) ≤ x5) := hc5n
    replace hyp := it_neg hc5n hyp
    refine am_iload dX11_reach_46 rfl ?_
    refine am_iload_n dX11_reach_48 rfl ?_
    refine am_iload dX11_reach_49 rfl ?_
    refine am_iconst 1 (v := 1) dX11_reach_51 (by decide) ?_
    refine am_ishl dX11_reach_52 ?_
    refine am_iload dX11_reach_53 rfl ?_
    refine am_iconst 2 (v := 2) dX11_reach_55 (by decide) ?_
    refine am_ishl dX11_reach_56 ?_
    refine am_ior dX11_reach_57 ?_
    refine am_iload dX11_reach_58 rfl ?_
    refine am_iconst 1 (v := 1) dX11_reach_60 (by decide) ?_
    refine am_ishr dX11_reach_61 ?_
    refine am_ior dX11_reach_62 ?_
    refine am_iload dX11_reach_63 rfl ?_
    refine am_iconst 2 (v := 2) dX11_reach_65 (by decide) ?_
    refine am_ishr dX11_reach_66 ?_
    refine am_ior dX11_reach_67 ?_
    refine am_iand dX11_reach_68 ?_
    refine am_ior dX11_reach_69 ?_
    refine am_istore dX11_reach_70 (am_lb rfl) ?_
    change am_At _ _ _ 72 [_, _, _, _, _, _] [] _ _
    refine am_iinc dX11_reach_72 rfl (am_ix _) ?_
    change am_At _ _ _ 75 [_, _, _, _, _, _] [] _ _
    refine am_goto (-36) 39 dX11_reach_75 rfl ?_
    cases hyp
    exact hx
theorem ef_X11_reach_24 {d : Nat} {h : am_H} (g : lay h) (hW : h.2.2 23 0 = some 24 ∧ h.2.2 23 2 = some 25) {x1 x2 : Int32} {M : Mem} {y : (Int32 ⊕ String) × Mem} (hyp : f_X11_reach 24 25 x1 x2 M = some y) : am_Ev (d + 6) mX11_reach [.inr (0, 0), am_I x1, am_I x2] (am_hM h M) (am_o1 h y) := by
  unfold f_X11_reach at hyp
  refine am_Ev.mk (by decide +kernel) rfl rfl (am_oc1 h y) (am_os1 h y) ?_
  change am_At _ _ _ 0 [_, _, _, _, _, _] [] _ _
  refine am_aload_n dX11_reach_0 rfl ?_
  refine am_iload_n dX11_reach_1 rfl ?_
  obtain ⟨⟨y1, M1⟩, hk1, hyp⟩ := bd_some hyp
  rcases y1 with v1 | E1
  rotate_left
  · try dsimp only at hyp
    cases hyp
    exact am_callVX [_] dX11_reach_2 ml_X11_209 vm_X11_needBoard (sh_0 g) rfl (fun _ => Nat.le_of_ble_eq_true rfl) (by omega) rfl (am_o0t (ef_X11_needBoard (d := d + 4) (h := h) g hk1)) rfl
  try dsimp only at hyp
  refine am_callV [_] dX11_reach_2 ml_X11_209 vm_X11_needBoard (sh_0 g) rfl (fun _ => Nat.le_of_ble_eq_true rfl) (by omega) rfl (am_o0v (ef_X11_needBoard (d := d + 4) (h := h) g hk1)) rfl ?_
  change am_At _ _ _ 5 [_, _, _, _, _, _] [] _ _
  refine am_aload_n dX11_reach_5 rfl ?_
  refine am_iload_n dX11_reach_6 rfl ?_
  refine am_iconst 0 (v := 0) dX11_reach_7 (by decide) ?_
  refine am_bipush 20 (v := 20) dX11_reach_8 (by decide) ?_
  obtain ⟨⟨y2, M2⟩, hk2, hyp⟩ := bd_some hyp
  rcases y2 with v2 | E2
  rotate_left
  · try dsimp only at hyp
    cases hyp
    exact am_callVX [_, _, _] dX11_reach_10 ml_X11_178 vm_X11_needFit (sh_0 g) rfl (fun _ => Nat.le_of_ble_eq_true rfl) (by omega) rfl (am_o0t (ef_X11_needFit (d := d + 5) (h := h) g hk2)) rfl
  try dsimp only at hyp
  refine am_callV [_, _, _] dX11_reach_10 ml_X11_178 vm_X11_needFit (sh_0 g) rfl (fun _ => Nat.le_of_ble_eq_true rfl) (by omega) rfl (am_o0v (ef_X11_needFit (d := d + 5) (h := h) g hk2)) rfl ?_
  change am_At _ _ _ 13 [_, _, _, _, _, _] [] _ _
  refine am_aload_n dX11_reach_13 rfl ?_
  refine am_getR 11 1 3 dX11_reach_14 fg_X11_19 (sh_0 g) (by decide) rfl (rf_0_1 g) ?_
  refine am_iload_n dX11_reach_17 rfl ?_
  obtain ⟨v3, hk3, hyp⟩ := bd_some hyp
  try dsimp only at hyp
  refine am_callV [_] dX11_reach_18 ml_X11_377 vm_X1_bearing (sh_3 g) rfl (fun _ => Nat.le_of_ble_eq_true rfl) (by omega) rfl (ef_X1_bearing (d := d + 5) (h := h) g hk3) rfl ?_
  change am_At _ _ _ 21 [_, _, _, _, _, _] [_] _ _
  refine am_aload_n dX11_reach_21 rfl ?_
  obtain ⟨⟨v4, M4⟩, hk4, hyp⟩ := bd_some hyp
  try dsimp only at hyp
  refine am_callV [] dX11_reach_22 ml_X11_191 vm_X11_openNow (sh_0 g) rfl (fun _ => Nat.le_of_ble_eq_true rfl) (by omega) rfl (ef_X11_openNow_24 (d := d + 0) (h := h) g hW hk4) rfl ?_
  change am_At _ _ _ 25 [_, _, _, _, _, _] [_, _] _ _
  refine am_iconst (-1) (v := (-1)) dX11_reach_25 (by decide) ?_
  refine am_ixor dX11_reach_26 ?_
  refine am_iand dX11_reach_27 ?_
  refine am_istore_n dX11_reach_28 (am_lb rfl) ?_
  change am_At _ _ _ 29 [_, _, _, _, _, _] [] _ _
  refine am_iload_n dX11_reach_29 rfl ?_
  refine am_iconst 1 (v := 1) dX11_reach_30 (by decide) ?_
  refine am_iload_n dX11_reach_31 rfl ?_
  refine am_ishl dX11_reach_32 ?_
  refine am_iand dX11_reach_33 ?_
  refine am_istore dX11_reach_34 (am_lb rfl) ?_
  change am_At _ _ _ 36 [_, _, _, _, _, _] [] _ _
  refine am_iconst 0 (v := 0) dX11_reach_36 (by decide) ?_
  refine am_istore dX11_reach_37 (am_lb rfl) ?_
  change am_At _ _ _ 39 [_, _, _, _, _, _] [] _ _
  obtain ⟨x4_6, hw6, hyp⟩ := bd_some hyp
  refine am_At.drop 1 ?_
  refine am_At.drop 2 ?_
  try dsimp only at hyp
  refine eL_X11_reach_39_24 (d := d) (h := h) g hW (M := M4) FU ((v3 &&& (v4 ^^^ (-1 : Int32))) &&& ((1 : Int32) <<< (x1 &&& 31)), (0 : Int32)) x4_6 hw6 ?_
  change am_At _ _ _ 78 [_, _, _, _, _, _] [] _ _
  refine am_iload dX11_reach_78 rfl ?_
  cases hyp
  exact am_iret dX11_reach_80 rfl
theorem eL_X11_reach_39_25 {d : Nat} {h : am_H} (g : lay h) (hW : h.2.2 23 0 = some 25 ∧ h.2.2 23 2 = some 24) {x3 : Int32} {M : Mem} {r : am_R} (n : Nat) : ∀ (s : Int32 × Int32) (e : Int32), wh (L_X11_reach_39 25 24 x3) n s = some e → ((fun (x4 : Int32) => am_At am_X0 (d + 6) mX11_reach 78 [some (.inr (0, 0)), none, none, some (am_I (x3)), some (am_I (x4)), none] [] (am_hM h M) r) e) → (match s with | (x4, x5) => am_At am_X0 (d + 6) mX11_reach 39 [some (.inr (0, 0)), none, none, some (am_I (x3)), some (am_I (x4)), some (am_I (x5))] [] (am_hM h M) r) := by
  refine am_wh (At := fun (s : Int32 × Int32) => match s with | (x4, x5) => am_At am_X0 (d + 6) mX11_reach 39 [some (.inr (0, 0)), none, none, some (am_I (x3)), some (am_I (x4)), some (am_I (x5))] [] (am_hM h M) r) (Ex := fun (e : Int32) => (fun (x4 : Int32) => am_At am_X0 (d + 6) mX11_reach 78 [some (.inr (0, 0)), none, none, some (am_I (x3)), some (am_I (x4)), none] [] (am_hM h M) r) e) ?_ n
  rintro ⟨x4, x5⟩ y hyp hx
  unfold L_X11_reach_39 at hyp
  try dsimp only at hyp
  change am_At _ _ _ 39 [_, _, _, _, _, _] [] _ _
  refine am_iload dX11_reach_39 rfl ?_
  refine am_bipush 16 (v := 16) dX11_reach_41 (by decide) ?_
  refine am_icmp_ge (35) 78 dX11_reach_43 rfl ?_ ?_
  · intro hc5
    have hc5 : (16 : Int32) ≤ x5 := hc5
    replace hyp := it_pos hc5 hyp
    cases hyp
    refine am_At.drop 5 ?_
    exact hx
  · intro hc5n
    have hc5n : ¬ ((16 : Int32) ≤ x5) := hc5n
    replace hyp := it_neg hc5n hyp
    refine am_iload dX11_reach_46 rfl ?_
    refine am_iload_n dX11_reach_48 rfl ?_
    refine am_iload dX11_reach_49 rfl ?_
    refine am_iconst 1 (v := 1) dX11_reach_51 (by decide) ?_
    refine am_ishl dX11_reach_52 ?_
    refine am_iload dX11_reach_53 rfl ?_
    refine am_iconst 2 (v := 2) dX11_reach_55 (by decide) ?_
    refine am_ishl dX11_reach_56 ?_
    refine am_ior dX11_reach_57 ?_
    refine am_iload dX11_reach_58 rfl ?_
    refine am_iconst 1 (v := 1) dX11_reach_60 (by decide) ?_
    refine am_ishr dX11_reach_61 ?_
    refine am_ior dX11_reach_62 ?_
    refine am_iload dX11_reach_63 rfl ?_
    refine am_iconst 2 (v := 2) dX11_reach_65 (by decide) ?_
    refine am_ishr dX11_reach_66 ?_
    refine am_ior dX11_reach_67 ?_
    refine am_iand dX11_reach_68 ?_
    refine am_ior dX11_reach_69 ?_
    refine am_istore dX11_reach_70 (am_lb rfl) ?_
    change am_At _ _ _ 72 [_, _, _, _, _, _] [] _ _
    refine am_iinc dX11_reach_72 rfl (am_ix _) ?_
    change am_At _ _ _ 75 [_, _, _, _, _, _] [] _ _
    refine am_goto (-36) 39 dX11_reach_75 rfl ?_
    cases hyp
    exact hx
theorem ef_X11_reach_25 {d : Nat} {h : am_H} (g : lay h) (hW : h.2.2 23 0 = some 25 ∧ h.2.2 23 2 = some 24) {x1 x2 : Int32} {M : Mem} {y : (Int32 ⊕ String) × Mem} (hyp : f_X11_reach 25 24 x1 x2 M = some y) : am_Ev (d + 6) mX11_reach [.inr (0, 0), am_I x1, am_I x2] (am_hM h M) (am_o1 h y) := by
  unfold f_X11_reach at hyp
  refine am_Ev.mk (by decide +kernel) rfl rfl (am_oc1 h y) (am_os1 h y) ?_
  change am_At _ _ _ 0 [_, _, _, _, _, _] [] _ _
  refine am_aload_n dX11_reach_0 rfl ?_
  refine am_iload_n dX11_reach_1 rfl ?_
  obtain ⟨⟨y1, M1⟩, hk1, hyp⟩ := bd_some hyp
  rcases y1 with v1 | E1
  rotate_left
  · try dsimp only at hyp
    cases hyp
    exact am_callVX [_] dX11_reach_2 ml_X11_209 vm_X11_needBoard (sh_0 g) rfl (fun _ => Nat.le_of_ble_eq_true rfl) (by omega) rfl (am_o0t (ef_X11_needBoard (d := d + 4) (h := h) g hk1)) rfl
  try dsimp only at hyp
  refine am_callV [_] dX11_reach_2 ml_X11_209 vm_X11_needBoard (sh_0 g) rfl (fun _ => Nat.le_of_ble_eq_true rfl) (by omega) rfl (am_o0v (ef_X11_needBoard (d := d + 4) (h := h) g hk1)) rfl ?_
  change am_At _ _ _ 5 [_, _, _, _, _, _] [] _ _
  refine am_aload_n dX11_reach_5 rfl ?_
  refine am_iload_n dX11_reach_6 rfl ?_
  refine am_iconst 0 (v := 0) dX11_reach_7 (by decide) ?_
  refine am_bipush 20 (v := 20) dX11_reach_8 (by decide) ?_
  obtain ⟨⟨y2, M2⟩, hk2, hyp⟩ := bd_some hyp
  rcases y2 with v2 | E2
  rotate_left
  · try dsimp only at hyp
    cases hyp
    exact am_callVX [_, _, _] dX11_reach_10 ml_X11_178 vm_X11_needFit (sh_0 g) rfl (fun _ => Nat.le_of_ble_eq_true rfl) (by omega) rfl (am_o0t (ef_X11_needFit (d := d + 5) (h := h) g hk2)) rfl
  try dsimp only at hyp
  refine am_callV [_, _, _] dX11_reach_10 ml_X11_178 vm_X11_needFit (sh_0 g) rfl (fun _ => Nat.le_of_ble_eq_true rfl) (by omega) rfl (am_o0v (ef_X11_needFit (d := d + 5) (h := h) g hk2)) rfl ?_
  change am_At _ _ _ 13 [_, _, _, _, _, _] [] _ _
  refine am_aload_n dX11_reach_13 rfl ?_
  refine am_getR 11 1 3 dX11_reach_14 fg_X11_19 (sh_0 g) (by decide) rfl (rf_0_1 g) ?_
  refine am_iload_n dX11_reach_17 rfl ?_
  obtain ⟨v3, hk3, hyp⟩ := bd_some hyp
  try dsimp only at hyp
  refine am_callV [_] dX11_reach_18 ml_X11_377 vm_X1_bearing (sh_3 g) rfl (fun _ => Nat.le_of_ble_eq_true rfl) (by omega) rfl (ef_X1_bearing (d := d + 5) (h := h) g hk3) rfl ?_
  change am_At _ _ _ 21 [_, _, _, _, _, _] [_] _ _
  refine am_aload_n dX11_reach_21 rfl ?_
  obtain ⟨⟨v4, M4⟩, hk4, hyp⟩ := bd_some hyp
  try dsimp only at hyp
  refine am_callV [] dX11_reach_22 ml_X11_191 vm_X11_openNow (sh_0 g) rfl (fun _ => Nat.le_of_ble_eq_true rfl) (by omega) rfl (ef_X11_openNow_25 (d := d + 0) (h := h) g hW hk4) rfl ?_
  change am_At _ _ _ 25 [_, _, _, _, _, _] [_, _] _ _
  refine am_iconst (-1) (v := (-1)) dX11_reach_25 (by decide) ?_
  refine am_ixor dX11_reach_26 ?_
  refine am_iand dX11_reach_27 ?_
  refine am_istore_n dX11_reach_28 (am_lb rfl) ?_
  change am_At _ _ _ 29 [_, _, _, _, _, _] [] _ _
  refine am_iload_n dX11_reach_29 rfl ?_
  refine am_iconst 1 (v := 1) dX11_reach_30 (by decide) ?_
  refine am_iload_n dX11_reach_31 rfl ?_
  refine am_ishl dX11_reach_32 ?_
  refine am_iand dX11_reach_33 ?_
  refine am_istore dX11_reach_34 (am_lb rfl) ?_
  change am_At _ _ _ 36 [_, _, _, _, _, _] [] _ _
  refine am_iconst 0 (v := 0) dX11_reach_36 (by decide) ?_
  refine am_istore dX11_reach_37 (am_lb rfl) ?_
  change am_At _ _ _ 39 [_, _, _, _, _, _] [] _ _
  obtain ⟨x4_6, hw6, hyp⟩ := bd_some hyp
  refine am_At.drop 1 ?_
  refine am_At.drop 2 ?_
  try dsimp only at hyp
  refine eL_X11_reach_39_25 (d := d) (h := h) g hW (M := M4) FU ((v3 &&& (v4 ^^^ (-1 : Int32))) &&& ((1 : Int32) <<< (x1 &&& 31)), (0 : Int32)) x4_6 hw6 ?_
  change am_At _ _ _ 78 [_, _, _, _, _, _] [] _ _
  refine am_iload dX11_reach_78 rfl ?_
  cases hyp
  exact am_iret dX11_reach_80 rfl
theorem ef_X11_restore {d : Nat} {h : am_H} (g : lay h) {M : Mem} {v : Int32} {M' : Mem} (hyp : f_X11_restore M = some (v, M')) : am_Ev (d + 2) mX11_restore [.inr (0, 0)] (am_hM h M) (.inl (some (am_I v), am_hM h M')) := by
  unfold f_X11_restore at hyp
  refine am_Ev.mk (by decide +kernel) rfl rfl (Nat.le_refl _) (Nat.le_refl _) ?_
  change am_At _ _ _ 0 [_] [] _ _
  refine am_aload_n dX11_restore_0 rfl ?_
  refine am_getR 11 6 31 dX11_restore_1 fg_X11_52 (sh_0 g) (by decide) rfl (rf_0_6 g) ?_
  refine am_aload_n dX11_restore_4 rfl ?_
  refine am_getR 11 5 29 dX11_restore_5 fg_X11_45 (sh_0 g) (by decide) rfl (rf_0_5 g) ?_
  obtain ⟨⟨v1, M1⟩, hk1, hyp⟩ := bd_some hyp
  try dsimp only at hyp
  refine am_callV [_] dX11_restore_8 ml_X11_390 vm_X7_bringBackImage (sh_31 g) rfl (fun _ => Nat.le_of_ble_eq_true rfl) (by omega) rfl (ef_X7_bringBackImage (d := d + 0) (h := h) g hk1) rfl ?_
  change am_At _ _ _ 11 [_] [_] _ _
  refine am_if_ne (5) 16 dX11_restore_11 rfl ?_ ?_
  · intro hc2n
    have hc2n : ¬ (v1 = 0) := hc2n
    replace hyp := it_neg hc2n hyp
    refine am_aload_n dX11_restore_16 rfl ?_
    refine am_iconst 0 (v := 0) dX11_restore_17 (by decide) ?_
    refine am_putI 11 12 dX11_restore_18 (Or.inl fp_X11_135) (sh_0 g) (by decide) rfl rfl rfl ?_
    refine am_aload_n dX11_restore_21 rfl ?_
    refine am_getR 11 8 38 dX11_restore_22 fg_X11_68 (sh_0 g) (by decide) rfl (rf_0_8 g) ?_
    refine am_callV [] dX11_restore_25 ml_X11_139 vm_X6_forget (sh_38 g) rfl (fun _ => Nat.le_of_ble_eq_true rfl) (by omega) rfl (ef_X6_forget (d := d + 1) (h := h) g  (M := (am_u3 M1 0 0 12 (0 : Int32))) rfl) rfl ?_
    change am_At _ _ _ 28 [_] [] _ _
    refine am_aload_n dX11_restore_28 rfl ?_
    refine am_getR 11 6 31 dX11_restore_29 fg_X11_52 (sh_0 g) (by decide) rfl (rf_0_6 g) ?_
    refine am_getI 7 3 dX11_restore_32 fg_X11_387 (sh_31 g) (by decide) rfl ?_
    cases hyp
    exact am_iret dX11_restore_35 rfl
  · intro hc2
    have hc2 : v1 = 0 := hc2
    replace hyp := it_pos hc2 hyp
    refine am_iconst (-1) (v := (-1)) dX11_restore_14 (by decide) ?_
    cases hyp
    exact am_iret dX11_restore_15 rfl
theorem ef_X11_smells {d : Nat} {h : am_H} (g : lay h) {x1 x2 : Int32} {M : Mem} {y : (Int32 ⊕ String) × Mem} (hyp : f_X11_smells x1 x2 M = some y) : am_Ev (d + 3) mX11_smells [.inr (0, 0), am_I x1, am_I x2] (am_hM h M) (am_o1 h y) := by
  unfold f_X11_smells at hyp
  refine am_Ev.mk (by decide +kernel) rfl rfl (am_oc1 h y) (am_os1 h y) ?_
  change am_At _ _ _ 0 [_, _, _] [] _ _
  refine am_aload_n dX11_smells_0 rfl ?_
  refine am_iload_n dX11_smells_1 rfl ?_
  obtain ⟨⟨y1, M1⟩, hk1, hyp⟩ := bd_some hyp
  rcases y1 with v1 | E1
  rotate_left
  · try dsimp only at hyp
    cases hyp
    exact am_callVX [_] dX11_smells_2 ml_X11_209 vm_X11_needBoard (sh_0 g) rfl (fun _ => Nat.le_of_ble_eq_true rfl) (by omega) rfl (am_o0t (ef_X11_needBoard (d := d + 1) (h := h) g hk1)) rfl
  try dsimp only at hyp
  refine am_callV [_] dX11_smells_2 ml_X11_209 vm_X11_needBoard (sh_0 g) rfl (fun _ => Nat.le_of_ble_eq_true rfl) (by omega) rfl (am_o0v (ef_X11_needBoard (d := d + 1) (h := h) g hk1)) rfl ?_
  change am_At _ _ _ 5 [_, _, _] [] _ _
  refine am_aload_n dX11_smells_5 rfl ?_
  refine am_iload_n dX11_smells_6 rfl ?_
  refine am_aload_n dX11_smells_7 rfl ?_
  refine am_getR 11 1 3 dX11_smells_8 fg_X11_19 (sh_0 g) (by decide) rfl (rf_0_1 g) ?_
  refine am_getI 1 0 dX11_smells_11 fg_X11_142 (sh_3 g) (by decide) rfl ?_
  obtain ⟨⟨y2, M2⟩, hk2, hyp⟩ := bd_some hyp
  rcases y2 with v2 | E2
  rotate_left
  · try dsimp only at hyp
    cases hyp
    exact am_callVX [_, _] dX11_smells_14 ml_X11_335 vm_X11_needBits (sh_0 g) rfl (fun _ => Nat.le_of_ble_eq_true rfl) (by omega) rfl (am_o0t (ef_X11_needBits (d := d + 1) (h := h) g hk2)) rfl
  try dsimp only at hyp
  refine am_callV [_, _] dX11_smells_14 ml_X11_335 vm_X11_needBits (sh_0 g) rfl (fun _ => Nat.le_of_ble_eq_true rfl) (by omega) rfl (am_o0v (ef_X11_needBits (d := d + 1) (h := h) g hk2)) rfl ?_
  change am_At _ _ _ 17 [_, _, _] [] _ _
  refine am_aload_n dX11_smells_17 rfl ?_
  refine am_getR 11 10 45 dX11_smells_18 fg_X11_84 (sh_0 g) (by decide) rfl (rf_0_10 g) ?_
  refine am_iload_n dX11_smells_21 rfl ?_
  refine am_iload_n dX11_smells_22 rfl ?_
  obtain ⟨v3, hk3, hyp⟩ := bd_some hyp
  try dsimp only at hyp
  refine am_callV [_, _] dX11_smells_23 ml_X11_341 vm_X5_smellAt (sh_45 g) rfl (fun _ => Nat.le_of_ble_eq_true rfl) (by omega) rfl (ef_X5_smellAt (d := d + 0) (h := h) g hk3) rfl ?_
  change am_At _ _ _ 26 [_, _, _] [_] _ _
  cases hyp
  exact am_iret dX11_smells_26 rfl
theorem eL_X11_soonest_29_24 {d : Nat} {h : am_H} (g : lay h) (hW : h.2.2 23 0 = some 24 ∧ h.2.2 23 2 = some 25) {x1 x2 x3 : Int32} {r : am_R} (n : Nat) : ∀ (s : Int32 × Int32 × Int32 × Mem) (e : Int32 × Int32 × Mem), wh (L_X11_soonest_29 24 25 x1 x2) n s = some e → (match e with | (x4, x5, M) => am_At am_X0 (d + 6) mX11_soonest 105 [some (.inr (0, 0)), some (am_I (x1)), some (am_I (x2)), some (am_I (x3)), some (am_I (x4)), some (am_I (x5)), none, none] [] (am_hM h M) r) → (match s with | (x4, x5, x6, M) => am_At am_X0 (d + 6) mX11_soonest 29 [some (.inr (0, 0)), some (am_I (x1)), some (am_I (x2)), some (am_I (x3)), some (am_I (x4)), some (am_I (x5)), some (am_I (x6)), none] [] (am_hM h M) r) := by
  refine am_wh (At := fun (s : Int32 × Int32 × Int32 × Mem) => match s with | (x4, x5, x6, M) => am_At am_X0 (d + 6) mX11_soonest 29 [some (.inr (0, 0)), some (am_I (x1)), some (am_I (x2)), some (am_I (x3)), some (am_I (x4)), some (am_I (x5)), some (am_I (x6)), none] [] (am_hM h M) r) (Ex := fun (e : Int32 × Int32 × Mem) => match e with | (x4, x5, M) => am_At am_X0 (d + 6) mX11_soonest 105 [some (.inr (0, 0)), some (am_I (x1)), some (am_I (x2)), some (am_I (x3)), some (am_I (x4)), some (am_I (x5)), none, none] [] (am_hM h M) r) ?_ n
  rintro ⟨x4, x5, x6, M⟩ y hyp hx
  unfold L_X11_soonest_29 at hyp
  try dsimp only at hyp
  change am_At _ _ _ 29 [_, _, _, _, _, _, _, _] [] _ _
  refine am_iload dX11_soonest_29 rfl ?_
  refine am_iload_n dX11_soonest_31 rfl ?_
  refine am_icmp_gt (73) 105 dX11_soonest_32 rfl ?_ ?_
  · intro hc4
    have hc4 : x2 < x6 := hc4
    replace hyp := it_pos hc4 hyp
    cases hyp
    refine am_At.drop 6 ?_
    exact hx
  · intro hc4n
    have hc4n : ¬ (x2 < x6) := hc4n
    replace hyp := it_neg hc4n hyp
    refine am_aload_n dX11_soonest_35 rfl ?_
    refine am_getR 11 8 38 dX11_soonest_36 fg_X11_68 (sh_0 g) (by decide) rfl (rf_0_8 g) ?_
    refine am_iload_n dX11_soonest_39 rfl ?_
    refine am_iload dX11_soonest_40 rfl ?_
    obtain ⟨M5, hk5, hyp⟩ := bd_some hyp
    try dsimp only at hyp
    refine am_callV [_, _] dX11_soonest_42 ml_X11_284 vm_X6_sail (sh_38 g) rfl (fun _ => Nat.le_of_ble_eq_true rfl) (by omega) rfl (ef_X6_sail_24 (d := d + 0) (h := h) g hW hk5) rfl ?_
    change am_At _ _ _ 45 [_, _, _, _, _, _, _, _] [] _ _
    refine am_aload_n dX11_soonest_45 rfl ?_
    refine am_getR 11 8 38 dX11_soonest_46 fg_X11_68 (sh_0 g) (by decide) rfl (rf_0_8 g) ?_
    refine am_getI 6 7 dX11_soonest_49 fg_X11_287 (sh_38 g) (by decide) rfl ?_
    refine am_iconst (-1) (v := (-1)) dX11_soonest_52 (by decide) ?_
    refine am_icmp_eq (7) 60 dX11_soonest_53 rfl ?_ ?_
    · intro hc6
      have hc6 : (M5 38 0 7) = (-1 : Int32) := hc6
      replace hyp := it_pos hc6 hyp
      refine am_iconst 0 (v := 0) dX11_soonest_60 (by decide) ?_
      refine am_istore dX11_soonest_61 (am_lb rfl) ?_
      change am_At _ _ _ 63 [_, _, _, _, _, _, _, _] [] _ _
      refine am_iload dX11_soonest_63 rfl ?_
      refine am_if_eqT (34) 99 dX11_soonest_65 rfl (by decide) ?_
      refine am_iinc dX11_soonest_99 rfl (am_ix _) ?_
      change am_At _ _ _ 102 [_, _, _, _, _, _, _, _] [] _ _
      refine am_goto (-73) 29 dX11_soonest_102 rfl ?_
      cases hyp
      refine am_At.drop 7 ?_
      exact hx
    · intro hc6n
      have hc6n : ¬ ((M5 38 0 7) = (-1 : Int32)) := hc6n
      replace hyp := it_neg hc6n hyp
      refine am_iconst 1 (v := 1) dX11_soonest_56 (by decide) ?_
      refine am_goto (4) 61 dX11_soonest_57 rfl ?_
      refine am_istore dX11_soonest_61 (am_lb rfl) ?_
      change am_At _ _ _ 63 [_, _, _, _, _, _, _, _] [] _ _
      refine am_iload dX11_soonest_63 rfl ?_
      refine am_if_eqF (34) 99 dX11_soonest_65 rfl (by decide) ?_
      refine am_iload dX11_soonest_68 rfl ?_
      refine am_iconst (-1) (v := (-1)) dX11_soonest_70 (by decide) ?_
      refine am_icmp_eq (15) 86 dX11_soonest_71 rfl ?_ ?_
      · intro hc7
        have hc7 : x5 = (-1 : Int32) := hc7
        replace hyp := it_pos hc7 hyp
        refine am_aload_n dX11_soonest_86 rfl ?_
        refine am_getR 11 8 38 dX11_soonest_87 fg_X11_68 (sh_0 g) (by decide) rfl (rf_0_8 g) ?_
        refine am_getI 6 7 dX11_soonest_90 fg_X11_287 (sh_38 g) (by decide) rfl ?_
        refine am_istore dX11_soonest_93 (am_lb rfl) ?_
        change am_At _ _ _ 95 [_, _, _, _, _, _, _, _] [] _ _
        refine am_iload dX11_soonest_95 rfl ?_
        refine am_istore dX11_soonest_97 (am_lb rfl) ?_
        change am_At _ _ _ 99 [_, _, _, _, _, _, _, _] [] _ _
        refine am_iinc dX11_soonest_99 rfl (am_ix _) ?_
        change am_At _ _ _ 102 [_, _, _, _, _, _, _, _] [] _ _
        refine am_goto (-73) 29 dX11_soonest_102 rfl ?_
        cases hyp
        refine am_At.drop 7 ?_
        exact hx
      · intro hc7n
        have hc7n : ¬ (x5 = (-1 : Int32)) := hc7n
        replace hyp := it_neg hc7n hyp
        refine am_aload_n dX11_soonest_74 rfl ?_
        refine am_getR 11 8 38 dX11_soonest_75 fg_X11_68 (sh_0 g) (by decide) rfl (rf_0_8 g) ?_
        refine am_getI 6 7 dX11_soonest_78 fg_X11_287 (sh_38 g) (by decide) rfl ?_
        refine am_iload dX11_soonest_81 rfl ?_
        refine am_icmp_gt (16) 99 dX11_soonest_83 rfl ?_ ?_
        · intro hc8
          have hc8 : x5 < (M5 38 0 7) := hc8
          replace hyp := it_pos hc8 hyp
          refine am_iinc dX11_soonest_99 rfl (am_ix _) ?_
          change am_At _ _ _ 102 [_, _, _, _, _, _, _, _] [] _ _
          refine am_goto (-73) 29 dX11_soonest_102 rfl ?_
          cases hyp
          refine am_At.drop 7 ?_
          exact hx
        · intro hc8n
          have hc8n : ¬ (x5 < (M5 38 0 7)) := hc8n
          replace hyp := it_neg hc8n hyp
          refine am_aload_n dX11_soonest_86 rfl ?_
          refine am_getR 11 8 38 dX11_soonest_87 fg_X11_68 (sh_0 g) (by decide) rfl (rf_0_8 g) ?_
          refine am_getI 6 7 dX11_soonest_90 fg_X11_287 (sh_38 g) (by decide) rfl ?_
          refine am_istore dX11_soonest_93 (am_lb rfl) ?_
          change am_At _ _ _ 95 [_, _, _, _, _, _, _, _] [] _ _
          refine am_iload dX11_soonest_95 rfl ?_
          refine am_istore dX11_soonest_97 (am_lb rfl) ?_
          change am_At _ _ _ 99 [_, _, _, _, _, _, _, _] [] _ _
          refine am_iinc dX11_soonest_99 rfl (am_ix _) ?_
          change am_At _ _ _ 102 [_, _, _, _, _, _, _, _] [] _ _
          refine am_goto (-73) 29 dX11_soonest_102 rfl ?_
          cases hyp
          refine am_At.drop 7 ?_
          exact hx
theorem ef_X11_soonest_24 {d : Nat} {h : am_H} (g : lay h) (hW : h.2.2 23 0 = some 24 ∧ h.2.2 23 2 = some 25) {x1 x2 x3 : Int32} {M : Mem} {y : (Int32 ⊕ String) × Mem} (hyp : f_X11_soonest 24 25 x1 x2 x3 M = some y) : am_Ev (d + 6) mX11_soonest [.inr (0, 0), am_I x1, am_I x2, am_I x3] (am_hM h M) (am_o1 h y) := by
  unfold f_X11_soonest at hyp
  refine am_Ev.mk (by decide +kernel) rfl rfl (am_oc1 h y) (am_os1 h y) ?_
  change am_At _ _ _ 0 [_, _, _, _, _, _, _, _] [] _ _
  refine am_aload_n dX11_soonest_0 rfl ?_
  refine am_iload_n dX11_soonest_1 rfl ?_
  obtain ⟨⟨y1, M1⟩, hk1, hyp⟩ := bd_some hyp
  rcases y1 with v1 | E1
  rotate_left
  · try dsimp only at hyp
    cases hyp
    exact am_callVX [_] dX11_soonest_2 ml_X11_272 vm_X11_needMast (sh_0 g) rfl (fun _ => Nat.le_of_ble_eq_true rfl) (by omega) rfl (am_o0t (ef_X11_needMast (d := d + 4) (h := h) g hk1)) rfl
  try dsimp only at hyp
  refine am_callV [_] dX11_soonest_2 ml_X11_272 vm_X11_needMast (sh_0 g) rfl (fun _ => Nat.le_of_ble_eq_true rfl) (by omega) rfl (am_o0v (ef_X11_needMast (d := d + 4) (h := h) g hk1)) rfl ?_
  change am_At _ _ _ 5 [_, _, _, _, _, _, _, _] [] _ _
  refine am_aload_n dX11_soonest_5 rfl ?_
  refine am_iload_n dX11_soonest_6 rfl ?_
  refine am_iconst 0 (v := 0) dX11_soonest_7 (by decide) ?_
  refine am_bipush 48 (v := 48) dX11_soonest_8 (by decide) ?_
  obtain ⟨⟨y2, M2⟩, hk2, hyp⟩ := bd_some hyp
  rcases y2 with v2 | E2
  rotate_left
  · try dsimp only at hyp
    cases hyp
    exact am_callVX [_, _, _] dX11_soonest_10 ml_X11_178 vm_X11_needFit (sh_0 g) rfl (fun _ => Nat.le_of_ble_eq_true rfl) (by omega) rfl (am_o0t (ef_X11_needFit (d := d + 5) (h := h) g hk2)) rfl
  try dsimp only at hyp
  refine am_callV [_, _, _] dX11_soonest_10 ml_X11_178 vm_X11_needFit (sh_0 g) rfl (fun _ => Nat.le_of_ble_eq_true rfl) (by omega) rfl (am_o0v (ef_X11_needFit (d := d + 5) (h := h) g hk2)) rfl ?_
  change am_At _ _ _ 13 [_, _, _, _, _, _, _, _] [] _ _
  refine am_aload_n dX11_soonest_13 rfl ?_
  refine am_iload_n dX11_soonest_14 rfl ?_
  refine am_iconst 0 (v := 0) dX11_soonest_15 (by decide) ?_
  refine am_iconst 1 (v := 1) dX11_soonest_16 (by decide) ?_
  obtain ⟨⟨y3, M3⟩, hk3, hyp⟩ := bd_some hyp
  rcases y3 with v3 | E3
  rotate_left
  · try dsimp only at hyp
    cases hyp
    exact am_callVX [_, _, _] dX11_soonest_17 ml_X11_178 vm_X11_needFit (sh_0 g) rfl (fun _ => Nat.le_of_ble_eq_true rfl) (by omega) rfl (am_o0t (ef_X11_needFit (d := d + 5) (h := h) g hk3)) rfl
  try dsimp only at hyp
  refine am_callV [_, _, _] dX11_soonest_17 ml_X11_178 vm_X11_needFit (sh_0 g) rfl (fun _ => Nat.le_of_ble_eq_true rfl) (by omega) rfl (am_o0v (ef_X11_needFit (d := d + 5) (h := h) g hk3)) rfl ?_
  change am_At _ _ _ 20 [_, _, _, _, _, _, _, _] [] _ _
  refine am_iconst (-1) (v := (-1)) dX11_soonest_20 (by decide) ?_
  refine am_istore dX11_soonest_21 (am_lb rfl) ?_
  change am_At _ _ _ 23 [_, _, _, _, _, _, _, _] [] _ _
  refine am_iconst (-1) (v := (-1)) dX11_soonest_23 (by decide) ?_
  refine am_istore dX11_soonest_24 (am_lb rfl) ?_
  change am_At _ _ _ 26 [_, _, _, _, _, _, _, _] [] _ _
  refine am_iconst 0 (v := 0) dX11_soonest_26 (by decide) ?_
  refine am_istore dX11_soonest_27 (am_lb rfl) ?_
  change am_At _ _ _ 29 [_, _, _, _, _, _, _, _] [] _ _
  obtain ⟨⟨x4_9, x5_9, M9⟩, hw9, hyp⟩ := bd_some hyp
  try dsimp only at hyp
  refine eL_X11_soonest_29_24 (d := d) (h := h) g hW  FU ((-1 : Int32), (-1 : Int32), (0 : Int32), M3) (x4_9, x5_9, M9) hw9 ?_
  change am_At _ _ _ 105 [_, _, _, _, _, _, _, _] [] _ _
  refine am_iload_n dX11_soonest_105 rfl ?_
  refine am_if_ne (8) 114 dX11_soonest_106 rfl ?_ ?_
  · intro hc10n
    have hc10n : ¬ (x3 = 0) := hc10n
    replace hyp := it_neg hc10n hyp
    refine am_iload dX11_soonest_114 rfl ?_
    cases hyp
    exact am_iret dX11_soonest_116 rfl
  · intro hc10
    have hc10 : x3 = 0 := hc10
    replace hyp := it_pos hc10 hyp
    refine am_iload dX11_soonest_109 rfl ?_
    refine am_goto (5) 116 dX11_soonest_111 rfl ?_
    cases hyp
    exact am_iret dX11_soonest_116 rfl
theorem eL_X11_soonest_29_25 {d : Nat} {h : am_H} (g : lay h) (hW : h.2.2 23 0 = some 25 ∧ h.2.2 23 2 = some 24) {x1 x2 x3 : Int32} {r : am_R} (n : Nat) : ∀ (s : Int32 × Int32 × Int32 × Mem) (e : Int32 × Int32 × Mem), wh (L_X11_soonest_29 25 24 x1 x2) n s = some e → (match e with | (x4, x5, M) => am_At am_X0 (d + 6) mX11_soonest 105 [some (.inr (0, 0)), some (am_I (x1)), some (am_I (x2)), some (am_I (x3)), some (am_I (x4)), some (am_I (x5)), none, none] [] (am_hM h M) r) → (match s with | (x4, x5, x6, M) => am_At am_X0 (d + 6) mX11_soonest 29 [some (.inr (0, 0)), some (am_I (x1)), some (am_I (x2)), some (am_I (x3)), some (am_I (x4)), some (am_I (x5)), some (am_I (x6)), none] [] (am_hM h M) r) := by
  refine am_wh (At := fun (s : Int32 × Int32 × Int32 × Mem) => match s with | (x4, x5, x6, M) => am_At am_X0 (d + 6) mX11_soonest 29 [some (.inr (0, 0)), some (am_I (x1)), some (am_I (x2)), some (am_I (x3)), some (am_I (x4)), some (am_I (x5)), some (am_I (x6)), none] [] (am_hM h M) r) (Ex := fun (e : Int32 × Int32 × Mem) => match e with | (x4, x5, M) => am_At am_X0 (d + 6) mX11_soonest 105 [some (.inr (0, 0)), some (am_I (x1)), some (am_I (x2)), some (am_I (x3)), some (am_I (x4)), some (am_I (x5)), none, none] [] (am_hM h M) r) ?_ n
  rintro ⟨x4, x5, x6, M⟩ y hyp hx
  unfold L_X11_soonest_29 at hyp
  try dsimp only at hyp
  change am_At _ _ _ 29 [_, _, _, _, _, _, _, _] [] _ _
  refine am_iload dX11_soonest_29 rfl ?_
  refine am_iload_n dX11_soonest_31 rfl ?_
  refine am_icmp_gt (73) 105 dX11_soonest_32 rfl ?_ ?_
  · intro hc4
    have hc4 : x2 < x6 := hc4
    replace hyp := it_pos hc4 hyp
    cases hyp
    refine am_At.drop 6 ?_
    exact hx
  · intro hc4n
    have hc4n : ¬ (x2 < x6) := hc4n
    replace hyp := it_neg hc4n hyp
    refine am_aload_n dX11_soonest_35 rfl ?_
    refine am_getR 11 8 38 dX11_soonest_36 fg_X11_68 (sh_0 g) (by decide) rfl (rf_0_8 g) ?_
    refine am_iload_n dX11_soonest_39 rfl ?_
    refine am_iload dX11_soonest_40 rfl ?_
    obtain ⟨M5, hk5, hyp⟩ := bd_some hyp
    try dsimp only at hyp
    refine am_callV [_, _] dX11_soonest_42 ml_X11_284 vm_X6_sail (sh_38 g) rfl (fun _ => Nat.le_of_ble_eq_true rfl) (by omega) rfl (ef_X6_sail_25 (d := d + 0) (h := h) g hW hk5) rfl ?_
    change am_At _ _ _ 45 [_, _, _, _, _, _, _, _] [] _ _
    refine am_aload_n dX11_soonest_45 rfl ?_
    refine am_getR 11 8 38 dX11_soonest_46 fg_X11_68 (sh_0 g) (by decide) rfl (rf_0_8 g) ?_
    refine am_getI 6 7 dX11_soonest_49 fg_X11_287 (sh_38 g) (by decide) rfl ?_
    refine am_iconst (-1) (v := (-1)) dX11_soonest_52 (by decide) ?_
    refine am_icmp_eq (7) 60 dX11_soonest_53 rfl ?_ ?_
    · intro hc6
      have hc6 : (M5 38 0 7) = (-1 : Int32) := hc6
      replace hyp := it_pos hc6 hyp
      refine am_iconst 0 (v := 0) dX11_soonest_60 (by decide) ?_
      refine am_istore dX11_soonest_61 (am_lb rfl) ?_
      change am_At _ _ _ 63 [_, _, _, _, _, _, _, _] [] _ _
      refine am_iload dX11_soonest_63 rfl ?_
      refine am_if_eqT (34) 99 dX11_soonest_65 rfl (by decide) ?_
      refine am_iinc dX11_soonest_99 rfl (am_ix _) ?_
      change am_At _ _ _ 102 [_, _, _, _, _, _, _, _] [] _ _
      refine am_goto (-73) 29 dX11_soonest_102 rfl ?_
      cases hyp
      refine am_At.drop 7 ?_
      exact hx
    · intro hc6n
      have hc6n : ¬ ((M5 38 0 7) = (-1 : Int32)) := hc6n
      replace hyp := it_neg hc6n hyp
      refine am_iconst 1 (v := 1) dX11_soonest_56 (by decide) ?_
      refine am_goto (4) 61 dX11_soonest_57 rfl ?_
      refine am_istore dX11_soonest_61 (am_lb rfl) ?_
      change am_At _ _ _ 63 [_, _, _, _, _, _, _, _] [] _ _
      refine am_iload dX11_soonest_63 rfl ?_
      refine am_if_eqF (34) 99 dX11_soonest_65 rfl (by decide) ?_
      refine am_iload dX11_soonest_68 rfl ?_
      refine am_iconst (-1) (v := (-1)) dX11_soonest_70 (by decide) ?_
      refine am_icmp_eq (15) 86 dX11_soonest_71 rfl ?_ ?_
      · intro hc7
        have hc7 : x5 = (-1 : Int32) := hc7
        replace hyp := it_pos hc7 hyp
        refine am_aload_n dX11_soonest_86 rfl ?_
        refine am_getR 11 8 38 dX11_soonest_87 fg_X11_68 (sh_0 g) (by decide) rfl (rf_0_8 g) ?_
        refine am_getI 6 7 dX11_soonest_90 fg_X11_287 (sh_38 g) (by decide) rfl ?_
        refine am_istore dX11_soonest_93 (am_lb rfl) ?_
        change am_At _ _ _ 95 [_, _, _, _, _, _, _, _] [] _ _
        refine am_iload dX11_soonest_95 rfl ?_
        refine am_istore dX11_soonest_97 (am_lb rfl) ?_
        change am_At _ _ _ 99 [_, _, _, _, _, _, _, _] [] _ _
        refine am_iinc dX11_soonest_99 rfl (am_ix _) ?_
        change am_At _ _ _ 102 [_, _, _, _, _, _, _, _] [] _ _
        refine am_goto (-73) 29 dX11_soonest_102 rfl ?_
        cases hyp
        refine am_At.drop 7 ?_
        exact hx
      · intro hc7n
        have hc7n : ¬ (x5 = (-1 : Int32)) := hc7n
        replace hyp := it_neg hc7n hyp
        refine am_aload_n dX11_soonest_74 rfl ?_
        refine am_getR 11 8 38 dX11_soonest_75 fg_X11_68 (sh_0 g) (by decide) rfl (rf_0_8 g) ?_
        refine am_getI 6 7 dX11_soonest_78 fg_X11_287 (sh_38 g) (by decide) rfl ?_
        refine am_iload dX11_soonest_81 rfl ?_
        refine am_icmp_gt (16) 99 dX11_soonest_83 rfl ?_ ?_
        · intro hc8
          have hc8 : x5 < (M5 38 0 7) := hc8
          replace hyp := it_pos hc8 hyp
          refine am_iinc dX11_soonest_99 rfl (am_ix _) ?_
          change am_At _ _ _ 102 [_, _, _, _, _, _, _, _] [] _ _
          refine am_goto (-73) 29 dX11_soonest_102 rfl ?_
          cases hyp
          refine am_At.drop 7 ?_
          exact hx
        · intro hc8n
          have hc8n : ¬ (x5 < (M5 38 0 7)) := hc8n
          replace hyp := it_neg hc8n hyp
          refine am_aload_n dX11_soonest_86 rfl ?_
          refine am_getR 11 8 38 dX11_soonest_87 fg_X11_68 (sh_0 g) (by decide) rfl (rf_0_8 g) ?_
          refine am_getI 6 7 dX11_soonest_90 fg_X11_287 (sh_38 g) (by decide) rfl ?_
          refine am_istore dX11_soonest_93 (am_lb rfl) ?_
          change am_At _ _ _ 95 [_, _, _, _, _, _, _, _] [] _ _
          refine am_iload dX11_soonest_95 rfl ?_
          refine am_istore dX11_soonest_97 (am_lb rfl) ?_
          change am_At _ _ _ 99 [_, _, _, _, _, _, _, _] [] _ _
          refine am_iinc dX11_soonest_99 rfl (am_ix _) ?_
          change am_At _ _ _ 102 [_, _, _, _, _, _, _, _] [] _ _
          refine am_goto (-73) 29 dX11_soonest_102 rfl ?_
          cases hyp
          refine am_At.drop 7 ?_
          exact hx
theorem ef_X11_soonest_25 {d : Nat} {h : am_H} (g : lay h) (hW : h.2.2 23 0 = some 25 ∧ h.2.2 23 2 = some 24) {x1 x2 x3 : Int32} {M : Mem} {y : (Int32 ⊕ String) × Mem} (hyp : f_X11_soonest 25 24 x1 x2 x3 M = some y) : am_Ev (d + 6) mX11_soonest [.inr (0, 0), am_I x1, am_I x2, am_I x3] (am_hM h M) (am_o1 h y) := by
  unfold f_X11_soonest at hyp
  refine am_Ev.mk (by decide +kernel) rfl rfl (am_oc1 h y) (am_os1 h y) ?_
  change am_At _ _ _ 0 [_, _, _, _, _, _, _, _] [] _ _
  refine am_aload_n dX11_soonest_0 rfl ?_
  refine am_iload_n dX11_soonest_1 rfl ?_
  obtain ⟨⟨y1, M1⟩, hk1, hyp⟩ := bd_some hyp
  rcases y1 with v1 | E1
  rotate_left
  · try dsimp only at hyp
    cases hyp
    exact am_callVX [_] dX11_soonest_2 ml_X11_272 vm_X11_needMast (sh_0 g) rfl (fun _ => Nat.le_of_ble_eq_true rfl) (by omega) rfl (am_o0t (ef_X11_needMast (d := d + 4) (h := h) g hk1)) rfl
  try dsimp only at hyp
  refine am_callV [_] dX11_soonest_2 ml_X11_272 vm_X11_needMast (sh_0 g) rfl (fun _ => Nat.le_of_ble_eq_true rfl) (by omega) rfl (am_o0v (ef_X11_needMast (d := d + 4) (h := h) g hk1)) rfl ?_
  change am_At _ _ _ 5 [_, _, _, _, _, _, _, _] [] _ _
  refine am_aload_n dX11_soonest_5 rfl ?_
  refine am_iload_n dX11_soonest_6 rfl ?_
  refine am_iconst 0 (v := 0) dX11_soonest_7 (by decide) ?_
  refine am_bipush 48 (v := 48) dX11_soonest_8 (by decide) ?_
  obtain ⟨⟨y2, M2⟩, hk2, hyp⟩ := bd_some hyp
  rcases y2 with v2 | E2
  rotate_left
  · try dsimp only at hyp
    cases hyp
    exact am_callVX [_, _, _] dX11_soonest_10 ml_X11_178 vm_X11_needFit (sh_0 g) rfl (fun _ => Nat.le_of_ble_eq_true rfl) (by omega) rfl (am_o0t (ef_X11_needFit (d := d + 5) (h := h) g hk2)) rfl
  try dsimp only at hyp
  refine am_callV [_, _, _] dX11_soonest_10 ml_X11_178 vm_X11_needFit (sh_0 g) rfl (fun _ => Nat.le_of_ble_eq_true rfl) (by omega) rfl (am_o0v (ef_X11_needFit (d := d + 5) (h := h) g hk2)) rfl ?_
  change am_At _ _ _ 13 [_, _, _, _, _, _, _, _] [] _ _
  refine am_aload_n dX11_soonest_13 rfl ?_
  refine am_iload_n dX11_soonest_14 rfl ?_
  refine am_iconst 0 (v := 0) dX11_soonest_15 (by decide) ?_
  refine am_iconst 1 (v := 1) dX11_soonest_16 (by decide) ?_
  obtain ⟨⟨y3, M3⟩, hk3, hyp⟩ := bd_some hyp
  rcases y3 with v3 | E3
  rotate_left
  · try dsimp only at hyp
    cases hyp
    exact am_callVX [_, _, _] dX11_soonest_17 ml_X11_178 vm_X11_needFit (sh_0 g) rfl (fun _ => Nat.le_of_ble_eq_true rfl) (by omega) rfl (am_o0t (ef_X11_needFit (d := d + 5) (h := h) g hk3)) rfl
  try dsimp only at hyp
  refine am_callV [_, _, _] dX11_soonest_17 ml_X11_178 vm_X11_needFit (sh_0 g) rfl (fun _ => Nat.le_of_ble_eq_true rfl) (by omega) rfl (am_o0v (ef_X11_needFit (d := d + 5) (h := h) g hk3)) rfl ?_
  change am_At _ _ _ 20 [_, _, _, _, _, _, _, _] [] _ _
  refine am_iconst (-1) (v := (-1)) dX11_soonest_20 (by decide) ?_
  refine am_istore dX11_soonest_21 (am_lb rfl) ?_
  change am_At _ _ _ 23 [_, _, _, _, _, _, _, _] [] _ _
  refine am_iconst (-1) (v := (-1)) dX11_soonest_23 (by decide) ?_
  refine am_istore dX11_soonest_24 (am_lb rfl) ?_
  change am_At _ _ _ 26 [_, _, _, _, _, _, _, _] [] _ _
  refine am_iconst 0 (v := 0) dX11_soonest_26 (by decide) ?_
  refine am_istore dX11_soonest_27 (am_lb rfl) ?_
  change am_At _ _ _ 29 [_, _, _, _, _, _, _, _] [] _ _
  obtain ⟨⟨x4_9, x5_9, M9⟩, hw9, hyp⟩ := bd_some hyp
  try dsimp only at hyp
  refine eL_X11_soonest_29_25 (d := d) (h := h) g hW  FU ((-1 : Int32), (-1 : Int32), (0 : Int32), M3) (x4_9, x5_9, M9) hw9 ?_
  change am_At _ _ _ 105 [_, _, _, _, _, _, _, _] [] _ _
  refine am_iload_n dX11_soonest_105 rfl ?_
  refine am_if_ne (8) 114 dX11_soonest_106 rfl ?_ ?_
  · intro hc10n
    have hc10n : ¬ (x3 = 0) := hc10n
    replace hyp := it_neg hc10n hyp
    refine am_iload dX11_soonest_114 rfl ?_
    cases hyp
    exact am_iret dX11_soonest_116 rfl
  · intro hc10
    have hc10 : x3 = 0 := hc10
    replace hyp := it_pos hc10 hyp
    refine am_iload dX11_soonest_109 rfl ?_
    refine am_goto (5) 116 dX11_soonest_111 rfl ?_
    cases hyp
    exact am_iret dX11_soonest_116 rfl
theorem ef_X11_street_24 {d : Nat} {h : am_H} (g : lay h) (hW : h.2.2 23 0 = some 24 ∧ h.2.2 23 2 = some 25) {x1 x2 : Int32} {M : Mem} {y : (Int32 ⊕ String) × Mem} (hyp : f_X11_street 24 25 x1 x2 M = some y) : am_Ev (d + 6) mX11_street [.inr (0, 0), am_I x1, am_I x2] (am_hM h M) (am_o1 h y) := by
  unfold f_X11_street at hyp
  refine am_Ev.mk (by decide +kernel) rfl rfl (am_oc1 h y) (am_os1 h y) ?_
  change am_At _ _ _ 0 [_, _, _] [] _ _
  refine am_aload_n dX11_street_0 rfl ?_
  refine am_iload_n dX11_street_1 rfl ?_
  refine am_aload_n dX11_street_2 rfl ?_
  refine am_getR 11 1 3 dX11_street_3 fg_X11_19 (sh_0 g) (by decide) rfl (rf_0_1 g) ?_
  refine am_getI 1 8 dX11_street_6 fg_X11_185 (sh_3 g) (by decide) rfl ?_
  obtain ⟨⟨y1, M1⟩, hk1, hyp⟩ := bd_some hyp
  rcases y1 with v1 | E1
  rotate_left
  · try dsimp only at hyp
    cases hyp
    exact am_callVX [_, _] dX11_street_9 ml_X11_233 vm_X11_needThere (sh_0 g) rfl (fun _ => Nat.le_of_ble_eq_true rfl) (by omega) rfl (am_o0t (ef_X11_needThere (d := d + 5) (h := h) g hk1)) rfl
  try dsimp only at hyp
  refine am_callV [_, _] dX11_street_9 ml_X11_233 vm_X11_needThere (sh_0 g) rfl (fun _ => Nat.le_of_ble_eq_true rfl) (by omega) rfl (am_o0v (ef_X11_needThere (d := d + 5) (h := h) g hk1)) rfl ?_
  change am_At _ _ _ 12 [_, _, _] [] _ _
  refine am_aload_n dX11_street_12 rfl ?_
  refine am_iload_n dX11_street_13 rfl ?_
  refine am_iconst 0 (v := 0) dX11_street_14 (by decide) ?_
  refine am_iconst 3 (v := 3) dX11_street_15 (by decide) ?_
  obtain ⟨⟨y2, M2⟩, hk2, hyp⟩ := bd_some hyp
  rcases y2 with v2 | E2
  rotate_left
  · try dsimp only at hyp
    cases hyp
    exact am_callVX [_, _, _] dX11_street_16 ml_X11_178 vm_X11_needFit (sh_0 g) rfl (fun _ => Nat.le_of_ble_eq_true rfl) (by omega) rfl (am_o0t (ef_X11_needFit (d := d + 5) (h := h) g hk2)) rfl
  try dsimp only at hyp
  refine am_callV [_, _, _] dX11_street_16 ml_X11_178 vm_X11_needFit (sh_0 g) rfl (fun _ => Nat.le_of_ble_eq_true rfl) (by omega) rfl (am_o0v (ef_X11_needFit (d := d + 5) (h := h) g hk2)) rfl ?_
  change am_At _ _ _ 19 [_, _, _] [] _ _
  refine am_iload_n dX11_street_19 rfl ?_
  by_cases hc3 : x2 = (0 : Int32)
  · refine am_tabIn (28) 48 dX11_street_20 (by rw [hc3]; decide) (by rw [hc3]; decide) (by rw [hc3]; rfl) rfl ?_
    replace hyp := it_pos hc3 hyp
    refine am_aload_n dX11_street_48 rfl ?_
    refine am_getR 11 1 3 dX11_street_49 fg_X11_19 (sh_0 g) (by decide) rfl (rf_0_1 g) ?_
    refine am_getR 1 9 10 dX11_street_52 fg_X11_251 (sh_3 g) (by decide) rfl (rf_3_9 g) ?_
    refine am_iload_n dX11_street_55 rfl ?_
    obtain ⟨hg4, hyp⟩ := gd_some hyp
    refine am_iald dX11_street_56 (am_ia.one (sh_10 g)) (am_lit hg4) ?_
    cases hyp
    exact am_iret dX11_street_57 rfl
  · have hc3n := hc3
    replace hyp := it_neg hc3n hyp
    by_cases hc5 : x2 = (1 : Int32)
    · refine am_tabIn (38) 58 dX11_street_20 (by rw [hc5]; decide) (by rw [hc5]; decide) (by rw [hc5]; rfl) rfl ?_
      replace hyp := it_pos hc5 hyp
      refine am_aload_n dX11_street_58 rfl ?_
      refine am_getR 11 1 3 dX11_street_59 fg_X11_19 (sh_0 g) (by decide) rfl (rf_0_1 g) ?_
      refine am_getR 1 10 11 dX11_street_62 fg_X11_254 (sh_3 g) (by decide) rfl (rf_3_10 g) ?_
      refine am_iload_n dX11_street_65 rfl ?_
      obtain ⟨hg6, hyp⟩ := gd_some hyp
      refine am_iald dX11_street_66 (am_ia.one (sh_11 g)) (am_lit hg6) ?_
      cases hyp
      exact am_iret dX11_street_67 rfl
    · have hc5n := hc5
      replace hyp := it_neg hc5n hyp
      by_cases hc7 : x2 = (2 : Int32)
      · refine am_tabIn (48) 68 dX11_street_20 (by rw [hc7]; decide) (by rw [hc7]; decide) (by rw [hc7]; rfl) rfl ?_
        replace hyp := it_pos hc7 hyp
        refine am_aload_n dX11_street_68 rfl ?_
        refine am_getR 11 1 3 dX11_street_69 fg_X11_19 (sh_0 g) (by decide) rfl (rf_0_1 g) ?_
        refine am_getR 1 11 12 dX11_street_72 fg_X11_257 (sh_3 g) (by decide) rfl (rf_3_11 g) ?_
        refine am_iload_n dX11_street_75 rfl ?_
        obtain ⟨hg8, hyp⟩ := gd_some hyp
        refine am_iald dX11_street_76 (am_ia.one (sh_12 g)) (am_lit hg8) ?_
        cases hyp
        exact am_iret dX11_street_77 rfl
      · have hc7n := hc7
        replace hyp := it_neg hc7n hyp
        refine am_tabOut 78 dX11_street_20 (by have q0 := lv_neT (a := 0) hc3n (by decide); have q1 := lv_neT (a := 1) hc5n (by decide); have q2 := lv_neT (a := 2) hc7n (by decide); omega) rfl ?_
        refine am_aload_n dX11_street_78 rfl ?_
        refine am_getR 11 1 3 dX11_street_79 fg_X11_19 (sh_0 g) (by decide) rfl (rf_0_1 g) ?_
        refine am_iload_n dX11_street_82 rfl ?_
        refine am_aload_n dX11_street_83 rfl ?_
        obtain ⟨⟨v9, M9⟩, hk9, hyp⟩ := bd_some hyp
        try dsimp only at hyp
        refine am_callV [] dX11_street_84 ml_X11_191 vm_X11_openNow (sh_0 g) rfl (fun _ => Nat.le_of_ble_eq_true rfl) (by omega) rfl (ef_X11_openNow_24 (d := d + 0) (h := h) g hW hk9) rfl ?_
        change am_At _ _ _ 87 [_, _, _] [_, _, _] _ _
        obtain ⟨v10, hk10, hyp⟩ := bd_some hyp
        try dsimp only at hyp
        refine am_callV [_, _] dX11_street_87 ml_X11_260 vm_X1_isDrained (sh_3 g) rfl (fun _ => Nat.le_of_ble_eq_true rfl) (by omega) rfl (ef_X1_isDrained (d := d + 4) (h := h) g hk10) rfl ?_
        change am_At _ _ _ 90 [_, _, _] [_] _ _
        refine am_if_eq (7) 97 dX11_street_90 rfl ?_ ?_
        · intro hc11
          have hc11 : v10 = 0 := hc11
          replace hyp := it_pos hc11 hyp
          refine am_iconst 0 (v := 0) dX11_street_97 (by decide) ?_
          cases hyp
          exact am_iret dX11_street_98 rfl
        · intro hc11n
          have hc11n : ¬ (v10 = 0) := hc11n
          replace hyp := it_neg hc11n hyp
          refine am_iconst 1 (v := 1) dX11_street_93 (by decide) ?_
          refine am_goto (4) 98 dX11_street_94 rfl ?_
          cases hyp
          exact am_iret dX11_street_98 rfl
theorem ef_X11_street_25 {d : Nat} {h : am_H} (g : lay h) (hW : h.2.2 23 0 = some 25 ∧ h.2.2 23 2 = some 24) {x1 x2 : Int32} {M : Mem} {y : (Int32 ⊕ String) × Mem} (hyp : f_X11_street 25 24 x1 x2 M = some y) : am_Ev (d + 6) mX11_street [.inr (0, 0), am_I x1, am_I x2] (am_hM h M) (am_o1 h y) := by
  unfold f_X11_street at hyp
  refine am_Ev.mk (by decide +kernel) rfl rfl (am_oc1 h y) (am_os1 h y) ?_
  change am_At _ _ _ 0 [_, _, _] [] _ _
  refine am_aload_n dX11_street_0 rfl ?_
  refine am_iload_n dX11_street_1 rfl ?_
  refine am_aload_n dX11_street_2 rfl ?_
  refine am_getR 11 1 3 dX11_street_3 fg_X11_19 (sh_0 g) (by decide) rfl (rf_0_1 g) ?_
  refine am_getI 1 8 dX11_street_6 fg_X11_185 (sh_3 g) (by decide) rfl ?_
  obtain ⟨⟨y1, M1⟩, hk1, hyp⟩ := bd_some hyp
  rcases y1 with v1 | E1
  rotate_left
  · try dsimp only at hyp
    cases hyp
    exact am_callVX [_, _] dX11_street_9 ml_X11_233 vm_X11_needThere (sh_0 g) rfl (fun _ => Nat.le_of_ble_eq_true rfl) (by omega) rfl (am_o0t (ef_X11_needThere (d := d + 5) (h := h) g hk1)) rfl
  try dsimp only at hyp
  refine am_callV [_, _] dX11_street_9 ml_X11_233 vm_X11_needThere (sh_0 g) rfl (fun _ => Nat.le_of_ble_eq_true rfl) (by omega) rfl (am_o0v (ef_X11_needThere (d := d + 5) (h := h) g hk1)) rfl ?_
  change am_At _ _ _ 12 [_, _, _] [] _ _
  refine am_aload_n dX11_street_12 rfl ?_
  refine am_iload_n dX11_street_13 rfl ?_
  refine am_iconst 0 (v := 0) dX11_street_14 (by decide) ?_
  refine am_iconst 3 (v := 3) dX11_street_15 (by decide) ?_
  obtain ⟨⟨y2, M2⟩, hk2, hyp⟩ := bd_some hyp
  rcases y2 with v2 | E2
  rotate_left
  · try dsimp only at hyp
    cases hyp
    exact am_callVX [_, _, _] dX11_street_16 ml_X11_178 vm_X11_needFit (sh_0 g) rfl (fun _ => Nat.le_of_ble_eq_true rfl) (by omega) rfl (am_o0t (ef_X11_needFit (d := d + 5) (h := h) g hk2)) rfl
  try dsimp only at hyp
  refine am_callV [_, _, _] dX11_street_16 ml_X11_178 vm_X11_needFit (sh_0 g) rfl (fun _ => Nat.le_of_ble_eq_true rfl) (by omega) rfl (am_o0v (ef_X11_needFit (d := d + 5) (h := h) g hk2)) rfl ?_
  change am_At _ _ _ 19 [_, _, _] [] _ _
  refine am_iload_n dX11_street_19 rfl ?_
  by_cases hc3 : x2 = (0 : Int32)
  · refine am_tabIn (28) 48 dX11_street_20 (by rw [hc3]; decide) (by rw [hc3]; decide) (by rw [hc3]; rfl) rfl ?_
    replace hyp := it_pos hc3 hyp
    refine am_aload_n dX11_street_48 rfl ?_
    refine am_getR 11 1 3 dX11_street_49 fg_X11_19 (sh_0 g) (by decide) rfl (rf_0_1 g) ?_
    refine am_getR 1 9 10 dX11_street_52 fg_X11_251 (sh_3 g) (by decide) rfl (rf_3_9 g) ?_
    refine am_iload_n dX11_street_55 rfl ?_
    obtain ⟨hg4, hyp⟩ := gd_some hyp
    refine am_iald dX11_street_56 (am_ia.one (sh_10 g)) (am_lit hg4) ?_
    cases hyp
    exact am_iret dX11_street_57 rfl
  · have hc3n := hc3
    replace hyp := it_neg hc3n hyp
    by_cases hc5 : x2 = (1 : Int32)
    · refine am_tabIn (38) 58 dX11_street_20 (by rw [hc5]; decide) (by rw [hc5]; decide) (by rw [hc5]; rfl) rfl ?_
      replace hyp := it_pos hc5 hyp
      refine am_aload_n dX11_street_58 rfl ?_
      refine am_getR 11 1 3 dX11_street_59 fg_X11_19 (sh_0 g) (by decide) rfl (rf_0_1 g) ?_
      refine am_getR 1 10 11 dX11_street_62 fg_X11_254 (sh_3 g) (by decide) rfl (rf_3_10 g) ?_
      refine am_iload_n dX11_street_65 rfl ?_
      obtain ⟨hg6, hyp⟩ := gd_some hyp
      refine am_iald dX11_street_66 (am_ia.one (sh_11 g)) (am_lit hg6) ?_
      cases hyp
      exact am_iret dX11_street_67 rfl
    · have hc5n := hc5
      replace hyp := it_neg hc5n hyp
      by_cases hc7 : x2 = (2 : Int32)
      · refine am_tabIn (48) 68 dX11_street_20 (by rw [hc7]; decide) (by rw [hc7]; decide) (by rw [hc7]; rfl) rfl ?_
        replace hyp := it_pos hc7 hyp
        refine am_aload_n dX11_street_68 rfl ?_
        refine am_getR 11 1 3 dX11_street_69 fg_X11_19 (sh_0 g) (by decide) rfl (rf_0_1 g) ?_
        refine am_getR 1 11 12 dX11_street_72 fg_X11_257 (sh_3 g) (by decide) rfl (rf_3_11 g) ?_
        refine am_iload_n dX11_street_75 rfl ?_
        obtain ⟨hg8, hyp⟩ := gd_some hyp
        refine am_iald dX11_street_76 (am_ia.one (sh_12 g)) (am_lit hg8) ?_
        cases hyp
        exact am_iret dX11_street_77 rfl
      · have hc7n := hc7
        replace hyp := it_neg hc7n hyp
        refine am_tabOut 78 dX11_street_20 (by have q0 := lv_neT (a := 0) hc3n (by decide); have q1 := lv_neT (a := 1) hc5n (by decide); have q2 := lv_neT (a := 2) hc7n (by decide); omega) rfl ?_
        refine am_aload_n dX11_street_78 rfl ?_
        refine am_getR 11 1 3 dX11_street_79 fg_X11_19 (sh_0 g) (by decide) rfl (rf_0_1 g) ?_
        refine am_iload_n dX11_street_82 rfl ?_
        refine am_aload_n dX11_street_83 rfl ?_
        obtain ⟨⟨v9, M9⟩, hk9, hyp⟩ := bd_some hyp
        try dsimp only at hyp
        refine am_callV [] dX11_street_84 ml_X11_191 vm_X11_openNow (sh_0 g) rfl (fun _ => Nat.le_of_ble_eq_true rfl) (by omega) rfl (ef_X11_openNow_25 (d := d + 0) (h := h) g hW hk9) rfl ?_
        change am_At _ _ _ 87 [_, _, _] [_, _, _] _ _
        obtain ⟨v10, hk10, hyp⟩ := bd_some hyp
        try dsimp only at hyp
        refine am_callV [_, _] dX11_street_87 ml_X11_260 vm_X1_isDrained (sh_3 g) rfl (fun _ => Nat.le_of_ble_eq_true rfl) (by omega) rfl (ef_X1_isDrained (d := d + 4) (h := h) g hk10) rfl ?_
        change am_At _ _ _ 90 [_, _, _] [_] _ _
        refine am_if_eq (7) 97 dX11_street_90 rfl ?_ ?_
        · intro hc11
          have hc11 : v10 = 0 := hc11
          replace hyp := it_pos hc11 hyp
          refine am_iconst 0 (v := 0) dX11_street_97 (by decide) ?_
          cases hyp
          exact am_iret dX11_street_98 rfl
        · intro hc11n
          have hc11n : ¬ (v10 = 0) := hc11n
          replace hyp := it_neg hc11n hyp
          refine am_iconst 1 (v := 1) dX11_street_93 (by decide) ?_
          refine am_goto (4) 98 dX11_street_94 rfl ?_
          cases hyp
          exact am_iret dX11_street_98 rfl
theorem eL_X11_tallest_11_24 {d : Nat} {h : am_H} (g : lay h) (hW : h.2.2 23 0 = some 24 ∧ h.2.2 23 2 = some 25) {x1 : Int32} {r : am_R} (n : Nat) : ∀ (s : Int32 × Mem) (e : (Int32 × Mem) ⊕ (Mem)), wh (L_X11_tallest_11 24 25 x1) n s = some e → (match e with | (Sum.inl (x2, M)) => am_At am_X0 (d + 6) mX11_tallest 35 [some (.inr (0, 0)), some (am_I (x1)), some (am_I (x2))] [] (am_hM h M) r | (Sum.inr M) => am_At am_X0 (d + 6) mX11_tallest 43 [some (.inr (0, 0)), some (am_I (x1)), none] [] (am_hM h M) r) → (match s with | (x2, M) => am_At am_X0 (d + 6) mX11_tallest 11 [some (.inr (0, 0)), some (am_I (x1)), some (am_I (x2))] [] (am_hM h M) r) := by
  refine am_wh (At := fun (s : Int32 × Mem) => match s with | (x2, M) => am_At am_X0 (d + 6) mX11_tallest 11 [some (.inr (0, 0)), some (am_I (x1)), some (am_I (x2))] [] (am_hM h M) r) (Ex := fun (e : (Int32 × Mem) ⊕ (Mem)) => match e with | (Sum.inl (x2, M)) => am_At am_X0 (d + 6) mX11_tallest 35 [some (.inr (0, 0)), some (am_I (x1)), some (am_I (x2))] [] (am_hM h M) r | (Sum.inr M) => am_At am_X0 (d + 6) mX11_tallest 43 [some (.inr (0, 0)), some (am_I (x1)), none] [] (am_hM h M) r) ?_ n
  rintro ⟨x2, M⟩ y hyp hx
  unfold L_X11_tallest_11 at hyp
  try dsimp only at hyp
  change am_At _ _ _ 11 [_, _, _] [] _ _
  refine am_iload_n dX11_tallest_11 rfl ?_
  refine am_if_lt (31) 43 dX11_tallest_12 rfl ?_ ?_
  · intro hc2
    have hc2 : x2 < 0 := hc2
    replace hyp := it_pos hc2 hyp
    cases hyp
    refine am_At.drop 2 ?_
    exact hx
  · intro hc2n
    have hc2n : ¬ (x2 < 0) := hc2n
    replace hyp := it_neg hc2n hyp
    refine am_aload_n dX11_tallest_15 rfl ?_
    refine am_getR 11 8 38 dX11_tallest_16 fg_X11_68 (sh_0 g) (by decide) rfl (rf_0_8 g) ?_
    refine am_iload_n dX11_tallest_19 rfl ?_
    refine am_iload_n dX11_tallest_20 rfl ?_
    obtain ⟨M3, hk3, hyp⟩ := bd_some hyp
    try dsimp only at hyp
    refine am_callV [_, _] dX11_tallest_21 ml_X11_284 vm_X6_sail (sh_38 g) rfl (fun _ => Nat.le_of_ble_eq_true rfl) (by omega) rfl (ef_X6_sail_24 (d := d + 0) (h := h) g hW hk3) rfl ?_
    change am_At _ _ _ 24 [_, _, _] [] _ _
    refine am_aload_n dX11_tallest_24 rfl ?_
    refine am_getR 11 8 38 dX11_tallest_25 fg_X11_68 (sh_0 g) (by decide) rfl (rf_0_8 g) ?_
    refine am_getI 6 7 dX11_tallest_28 fg_X11_287 (sh_38 g) (by decide) rfl ?_
    refine am_iconst (-1) (v := (-1)) dX11_tallest_31 (by decide) ?_
    refine am_icmp_eq (5) 37 dX11_tallest_32 rfl ?_ ?_
    · intro hc4
      have hc4 : (M3 38 0 7) = (-1 : Int32) := hc4
      replace hyp := it_pos hc4 hyp
      refine am_iinc dX11_tallest_37 rfl (am_dx _) ?_
      change am_At _ _ _ 40 [_, _, _] [] _ _
      refine am_goto (-29) 11 dX11_tallest_40 rfl ?_
      cases hyp
      exact hx
    · intro hc4n
      have hc4n : ¬ ((M3 38 0 7) = (-1 : Int32)) := hc4n
      replace hyp := it_neg hc4n hyp
      cases hyp
      exact hx
theorem ef_X11_tallest_24 {d : Nat} {h : am_H} (g : lay h) (hW : h.2.2 23 0 = some 24 ∧ h.2.2 23 2 = some 25) {x1 : Int32} {M : Mem} {y : (Int32 ⊕ String) × Mem} (hyp : f_X11_tallest 24 25 x1 M = some y) : am_Ev (d + 6) mX11_tallest [.inr (0, 0), am_I x1] (am_hM h M) (am_o1 h y) := by
  unfold f_X11_tallest at hyp
  refine am_Ev.mk (by decide +kernel) rfl rfl (am_oc1 h y) (am_os1 h y) ?_
  change am_At _ _ _ 0 [_, _, _] [] _ _
  refine am_aload_n dX11_tallest_0 rfl ?_
  refine am_iload_n dX11_tallest_1 rfl ?_
  refine am_iconst 0 (v := 0) dX11_tallest_2 (by decide) ?_
  refine am_bipush 48 (v := 48) dX11_tallest_3 (by decide) ?_
  obtain ⟨⟨y1, M1⟩, hk1, hyp⟩ := bd_some hyp
  rcases y1 with v1 | E1
  rotate_left
  · try dsimp only at hyp
    cases hyp
    exact am_callVX [_, _, _] dX11_tallest_5 ml_X11_178 vm_X11_needFit (sh_0 g) rfl (fun _ => Nat.le_of_ble_eq_true rfl) (by omega) rfl (am_o0t (ef_X11_needFit (d := d + 5) (h := h) g hk1)) rfl
  try dsimp only at hyp
  refine am_callV [_, _, _] dX11_tallest_5 ml_X11_178 vm_X11_needFit (sh_0 g) rfl (fun _ => Nat.le_of_ble_eq_true rfl) (by omega) rfl (am_o0v (ef_X11_needFit (d := d + 5) (h := h) g hk1)) rfl ?_
  change am_At _ _ _ 8 [_, _, _] [] _ _
  refine am_bipush 9 (v := 9) dX11_tallest_8 (by decide) ?_
  refine am_istore_n dX11_tallest_10 (am_lb rfl) ?_
  change am_At _ _ _ 11 [_, _, _] [] _ _
  obtain ⟨e5, hw5, hyp⟩ := bd_some hyp
  rcases e5 with ⟨x2_5, M5⟩ | M5
  · try dsimp only at hyp
    refine eL_X11_tallest_11_24 (d := d) (h := h) g hW  FU ((9 : Int32), M1) (Sum.inl (x2_5, M5)) hw5 ?_
    change am_At _ _ _ 35 [_, _, _] [] _ _
    refine am_iload_n dX11_tallest_35 rfl ?_
    cases hyp
    exact am_iret dX11_tallest_36 rfl
  · try dsimp only at hyp
    refine eL_X11_tallest_11_24 (d := d) (h := h) g hW  FU ((9 : Int32), M1) (Sum.inr M5) hw5 ?_
    change am_At _ _ _ 43 [_, _, _] [] _ _
    refine am_iconst (-1) (v := (-1)) dX11_tallest_43 (by decide) ?_
    cases hyp
    exact am_iret dX11_tallest_44 rfl
theorem eL_X11_tallest_11_25 {d : Nat} {h : am_H} (g : lay h) (hW : h.2.2 23 0 = some 25 ∧ h.2.2 23 2 = some 24) {x1 : Int32} {r : am_R} (n : Nat) : ∀ (s : Int32 × Mem) (e : (Int32 × Mem) ⊕ (Mem)), wh (L_X11_tallest_11 25 24 x1) n s = some e → (match e with | (Sum.inl (x2, M)) => am_At am_X0 (d + 6) mX11_tallest 35 [some (.inr (0, 0)), some (am_I (x1)), some (am_I (x2))] [] (am_hM h M) r | (Sum.inr M) => am_At am_X0 (d + 6) mX11_tallest 43 [some (.inr (0, 0)), some (am_I (x1)), none] [] (am_hM h M) r) → (match s with | (x2, M) => am_At am_X0 (d + 6) mX11_tallest 11 [some (.inr (0, 0)), some (am_I (x1)), some (am_I (x2))] [] (am_hM h M) r) := by
  refine am_wh (At := fun (s : Int32 × Mem) => match s with | (x2, M) => am_At am_X0 (d + 6) mX11_tallest 11 [some (.inr (0, 0)), some (am_I (x1)), some (am_I (x2))] [] (am_hM h M) r) (Ex := fun (e : (Int32 × Mem) ⊕ (Mem)) => match e with | (Sum.inl (x2, M)) => am_At am_X0 (d + 6) mX11_tallest 35 [some (.inr (0, 0)), some (am_I (x1)), some (am_I (x2))] [] (am_hM h M) r | (Sum.inr M) => am_At am_X0 (d + 6) mX11_tallest 43 [some (.inr (0, 0)), some (am_I (x1)), none] [] (am_hM h M) r) ?_ n
  rintro ⟨x2, M⟩ y hyp hx
  unfold L_X11_tallest_11 at hyp
  try dsimp only at hyp
  change am_At _ _ _ 11 [_, _, _] [] _ _
  refine am_iload_n dX11_tallest_11 rfl ?_
  refine am_if_lt (31) 43 dX11_tallest_12 rfl ?_ ?_
  · intro hc2
    have hc2 : x2 < 0 := hc2
    replace hyp := it_pos hc2 hyp
    cases hyp
    refine am_At.drop 2 ?_
    exact hx
  · intro hc2n
    have hc2n : ¬ (x2 < 0) := hc2n
    replace hyp := it_neg hc2n hyp
    refine am_aload_n dX11_tallest_15 rfl ?_
    refine am_getR 11 8 38 dX11_tallest_16 fg_X11_68 (sh_0 g) (by decide) rfl (rf_0_8 g) ?_
    refine am_iload_n dX11_tallest_19 rfl ?_
    refine am_iload_n dX11_tallest_20 rfl ?_
    obtain ⟨M3, hk3, hyp⟩ := bd_some hyp
    try dsimp only at hyp
    refine am_callV [_, _] dX11_tallest_21 ml_X11_284 vm_X6_sail (sh_38 g) rfl (fun _ => Nat.le_of_ble_eq_true rfl) (by omega) rfl (ef_X6_sail_25 (d := d + 0) (h := h) g hW hk3) rfl ?_
    change am_At _ _ _ 24 [_, _, _] [] _ _
    refine am_aload_n dX11_tallest_24 rfl ?_
    refine am_getR 11 8 38 dX11_tallest_25 fg_X11_68 (sh_0 g) (by decide) rfl (rf_0_8 g) ?_
    refine am_getI 6 7 dX11_tallest_28 fg_X11_287 (sh_38 g) (by decide) rfl ?_
    refine am_iconst (-1) (v := (-1)) dX11_tallest_31 (by decide) ?_
    refine am_icmp_eq (5) 37 dX11_tallest_32 rfl ?_ ?_
    · intro hc4
      have hc4 : (M3 38 0 7) = (-1 : Int32) := hc4
      replace hyp := it_pos hc4 hyp
      refine am_iinc dX11_tallest_37 rfl (am_dx _) ?_
      change am_At _ _ _ 40 [_, _, _] [] _ _
      refine am_goto (-29) 11 dX11_tallest_40 rfl ?_
      cases hyp
      exact hx
    · intro hc4n
      have hc4n : ¬ ((M3 38 0 7) = (-1 : Int32)) := hc4n
      replace hyp := it_neg hc4n hyp
      cases hyp
      exact hx
theorem ef_X11_tallest_25 {d : Nat} {h : am_H} (g : lay h) (hW : h.2.2 23 0 = some 25 ∧ h.2.2 23 2 = some 24) {x1 : Int32} {M : Mem} {y : (Int32 ⊕ String) × Mem} (hyp : f_X11_tallest 25 24 x1 M = some y) : am_Ev (d + 6) mX11_tallest [.inr (0, 0), am_I x1] (am_hM h M) (am_o1 h y) := by
  unfold f_X11_tallest at hyp
  refine am_Ev.mk (by decide +kernel) rfl rfl (am_oc1 h y) (am_os1 h y) ?_
  change am_At _ _ _ 0 [_, _, _] [] _ _
  refine am_aload_n dX11_tallest_0 rfl ?_
  refine am_iload_n dX11_tallest_1 rfl ?_
  refine am_iconst 0 (v := 0) dX11_tallest_2 (by decide) ?_
  refine am_bipush 48 (v := 48) dX11_tallest_3 (by decide) ?_
  obtain ⟨⟨y1, M1⟩, hk1, hyp⟩ := bd_some hyp
  rcases y1 with v1 | E1
  rotate_left
  · try dsimp only at hyp
    cases hyp
    exact am_callVX [_, _, _] dX11_tallest_5 ml_X11_178 vm_X11_needFit (sh_0 g) rfl (fun _ => Nat.le_of_ble_eq_true rfl) (by omega) rfl (am_o0t (ef_X11_needFit (d := d + 5) (h := h) g hk1)) rfl
  try dsimp only at hyp
  refine am_callV [_, _, _] dX11_tallest_5 ml_X11_178 vm_X11_needFit (sh_0 g) rfl (fun _ => Nat.le_of_ble_eq_true rfl) (by omega) rfl (am_o0v (ef_X11_needFit (d := d + 5) (h := h) g hk1)) rfl ?_
  change am_At _ _ _ 8 [_, _, _] [] _ _
  refine am_bipush 9 (v := 9) dX11_tallest_8 (by decide) ?_
  refine am_istore_n dX11_tallest_10 (am_lb rfl) ?_
  change am_At _ _ _ 11 [_, _, _] [] _ _
  obtain ⟨e5, hw5, hyp⟩ := bd_some hyp
  rcases e5 with ⟨x2_5, M5⟩ | M5
  · try dsimp only at hyp
    refine eL_X11_tallest_11_25 (d := d) (h := h) g hW  FU ((9 : Int32), M1) (Sum.inl (x2_5, M5)) hw5 ?_
    change am_At _ _ _ 35 [_, _, _] [] _ _
    refine am_iload_n dX11_tallest_35 rfl ?_
    cases hyp
    exact am_iret dX11_tallest_36 rfl
  · try dsimp only at hyp
    refine eL_X11_tallest_11_25 (d := d) (h := h) g hW  FU ((9 : Int32), M1) (Sum.inr M5) hw5 ?_
    change am_At _ _ _ 43 [_, _, _] [] _ _
    refine am_iconst (-1) (v := (-1)) dX11_tallest_43 (by decide) ?_
    cases hyp
    exact am_iret dX11_tallest_44 rfl
theorem ef_X11_told_24 {d : Nat} {h : am_H} (g : lay h) (hW : h.2.2 23 0 = some 24 ∧ h.2.2 23 2 = some 25) {x1 : Int32} {M : Mem} {y : (Int32 ⊕ String) × Mem} (hyp : f_X11_told 24 25 x1 M = some y) : am_Ev (d + 6) mX11_told [.inr (0, 0), am_I x1] (am_hM h M) (am_o1 h y) := by
  unfold f_X11_told at hyp
  refine am_Ev.mk (by decide +kernel) rfl rfl (am_oc1 h y) (am_os1 h y) ?_
  change am_At _ _ _ 0 [_, _] [] _ _
  refine am_aload_n dX11_told_0 rfl ?_
  refine am_iload_n dX11_told_1 rfl ?_
  refine am_iconst 0 (v := 0) dX11_told_2 (by decide) ?_
  refine am_bipush 9 (v := 9) dX11_told_3 (by decide) ?_
  obtain ⟨⟨y1, M1⟩, hk1, hyp⟩ := bd_some hyp
  rcases y1 with v1 | E1
  rotate_left
  · try dsimp only at hyp
    cases hyp
    exact am_callVX [_, _, _] dX11_told_5 ml_X11_178 vm_X11_needFit (sh_0 g) rfl (fun _ => Nat.le_of_ble_eq_true rfl) (by omega) rfl (am_o0t (ef_X11_needFit (d := d + 5) (h := h) g hk1)) rfl
  try dsimp only at hyp
  refine am_callV [_, _, _] dX11_told_5 ml_X11_178 vm_X11_needFit (sh_0 g) rfl (fun _ => Nat.le_of_ble_eq_true rfl) (by omega) rfl (am_o0v (ef_X11_needFit (d := d + 5) (h := h) g hk1)) rfl ?_
  change am_At _ _ _ 8 [_, _] [] _ _
  refine am_iload_n dX11_told_8 rfl ?_
  by_cases hc2 : x1 = (0 : Int32)
  · refine am_tabIn (51) 60 dX11_told_9 (by rw [hc2]; decide) (by rw [hc2]; decide) (by rw [hc2]; rfl) rfl ?_
    replace hyp := it_pos hc2 hyp
    refine am_aload_n dX11_told_60 rfl ?_
    refine am_getR 11 1 3 dX11_told_61 fg_X11_19 (sh_0 g) (by decide) rfl (rf_0_1 g) ?_
    refine am_getI 1 0 dX11_told_64 fg_X11_142 (sh_3 g) (by decide) rfl ?_
    cases hyp
    exact am_iret dX11_told_67 rfl
  · have hc2n := hc2
    replace hyp := it_neg hc2n hyp
    by_cases hc3 : x1 = (1 : Int32)
    · refine am_tabIn (59) 68 dX11_told_9 (by rw [hc3]; decide) (by rw [hc3]; decide) (by rw [hc3]; rfl) rfl ?_
      replace hyp := it_pos hc3 hyp
      refine am_aload_n dX11_told_68 rfl ?_
      refine am_getR 11 1 3 dX11_told_69 fg_X11_19 (sh_0 g) (by decide) rfl (rf_0_1 g) ?_
      refine am_getI 1 5 dX11_told_72 fg_X11_182 (sh_3 g) (by decide) rfl ?_
      cases hyp
      exact am_iret dX11_told_75 rfl
    · have hc3n := hc3
      replace hyp := it_neg hc3n hyp
      by_cases hc4 : x1 = (2 : Int32)
      · refine am_tabIn (67) 76 dX11_told_9 (by rw [hc4]; decide) (by rw [hc4]; decide) (by rw [hc4]; rfl) rfl ?_
        replace hyp := it_pos hc4 hyp
        refine am_aload_n dX11_told_76 rfl ?_
        refine am_getR 11 1 3 dX11_told_77 fg_X11_19 (sh_0 g) (by decide) rfl (rf_0_1 g) ?_
        refine am_getI 1 8 dX11_told_80 fg_X11_185 (sh_3 g) (by decide) rfl ?_
        cases hyp
        exact am_iret dX11_told_83 rfl
      · have hc4n := hc4
        replace hyp := it_neg hc4n hyp
        by_cases hc5 : x1 = (3 : Int32)
        · refine am_tabIn (75) 84 dX11_told_9 (by rw [hc5]; decide) (by rw [hc5]; decide) (by rw [hc5]; rfl) rfl ?_
          replace hyp := it_pos hc5 hyp
          refine am_aload_n dX11_told_84 rfl ?_
          refine am_getR 11 5 29 dX11_told_85 fg_X11_45 (sh_0 g) (by decide) rfl (rf_0_5 g) ?_
          refine am_callV [] dX11_told_88 ml_X11_188 vm_X8_hour (sh_29 g) rfl (fun _ => Nat.le_of_ble_eq_true rfl) (by omega) rfl (ef_X8_hour_30 (d := d + 5) (h := h) g  (M := M1) rfl) rfl ?_
          change am_At _ _ _ 91 [_, _] [_] _ _
          cases hyp
          exact am_iret dX11_told_91 rfl
        · have hc5n := hc5
          replace hyp := it_neg hc5n hyp
          by_cases hc6 : x1 = (4 : Int32)
          · refine am_tabIn (83) 92 dX11_told_9 (by rw [hc6]; decide) (by rw [hc6]; decide) (by rw [hc6]; rfl) rfl ?_
            replace hyp := it_pos hc6 hyp
            refine am_aload_n dX11_told_92 rfl ?_
            obtain ⟨⟨v7, M7⟩, hk7, hyp⟩ := bd_some hyp
            try dsimp only at hyp
            refine am_callV [] dX11_told_93 ml_X11_191 vm_X11_openNow (sh_0 g) rfl (fun _ => Nat.le_of_ble_eq_true rfl) (by omega) rfl (ef_X11_openNow_24 (d := d + 0) (h := h) g hW hk7) rfl ?_
            change am_At _ _ _ 96 [_, _] [_] _ _
            refine am_callS (c := 0) (k := 0) (n := 0) (w := 0) [_] dX11_told_96 ml_X11_194 sm_J6_bitCount_0f7a4 rfl (fun _ => Nat.le_of_ble_eq_true rfl) (by omega) rfl (ev_bc (d := d + 5) (x := v7)) rfl ?_
            change am_At _ _ _ 99 [_, _] [_] _ _
            cases hyp
            exact am_iret dX11_told_99 rfl
          · have hc6n := hc6
            replace hyp := it_neg hc6n hyp
            by_cases hc8 : x1 = (5 : Int32)
            · refine am_tabIn (91) 100 dX11_told_9 (by rw [hc8]; decide) (by rw [hc8]; decide) (by rw [hc8]; rfl) rfl ?_
              replace hyp := it_pos hc8 hyp
              refine am_aload_n dX11_told_100 rfl ?_
              refine am_getR 11 5 29 dX11_told_101 fg_X11_45 (sh_0 g) (by decide) rfl (rf_0_5 g) ?_
              obtain ⟨v9, hk9, hyp⟩ := bd_some hyp
              try dsimp only at hyp
              refine am_callV [] dX11_told_104 ml_X11_200 vm_X8_allFines (sh_29 g) rfl (fun _ => Nat.le_of_ble_eq_true rfl) (by omega) rfl (ef_X8_allFines_30 (d := d + 4) (h := h) g hk9) rfl ?_
              change am_At _ _ _ 107 [_, _] [_] _ _
              cases hyp
              exact am_iret dX11_told_107 rfl
            · have hc8n := hc8
              replace hyp := it_neg hc8n hyp
              by_cases hc10 : x1 = (6 : Int32)
              · refine am_tabIn (99) 108 dX11_told_9 (by rw [hc10]; decide) (by rw [hc10]; decide) (by rw [hc10]; rfl) rfl ?_
                replace hyp := it_pos hc10 hyp
                refine am_aload_n dX11_told_108 rfl ?_
                refine am_getR 11 5 29 dX11_told_109 fg_X11_45 (sh_0 g) (by decide) rfl (rf_0_5 g) ?_
                obtain ⟨v11, hk11, hyp⟩ := bd_some hyp
                try dsimp only at hyp
                refine am_callV [] dX11_told_112 ml_X11_203 vm_X8_allKnocks (sh_29 g) rfl (fun _ => Nat.le_of_ble_eq_true rfl) (by omega) rfl (ef_X8_allKnocks_30 (d := d + 4) (h := h) g hk11) rfl ?_
                change am_At _ _ _ 115 [_, _] [_] _ _
                cases hyp
                exact am_iret dX11_told_115 rfl
              · have hc10n := hc10
                replace hyp := it_neg hc10n hyp
                by_cases hc12 : x1 = (7 : Int32)
                · refine am_tabIn (107) 116 dX11_told_9 (by rw [hc12]; decide) (by rw [hc12]; decide) (by rw [hc12]; rfl) rfl ?_
                  replace hyp := it_pos hc12 hyp
                  refine am_aload_n dX11_told_116 rfl ?_
                  refine am_getR 11 5 29 dX11_told_117 fg_X11_45 (sh_0 g) (by decide) rfl (rf_0_5 g) ?_
                  obtain ⟨v13, hk13, hyp⟩ := bd_some hyp
                  try dsimp only at hyp
                  refine am_callV [] dX11_told_120 ml_X11_206 vm_X8_bargesThrough (sh_29 g) rfl (fun _ => Nat.le_of_ble_eq_true rfl) (by omega) rfl (ef_X8_bargesThrough_30 (d := d + 4) (h := h) g hk13) rfl ?_
                  change am_At _ _ _ 123 [_, _] [_] _ _
                  cases hyp
                  exact am_iret dX11_told_123 rfl
                · have hc12n := hc12
                  replace hyp := it_neg hc12n hyp
                  by_cases hc14 : x1 = (8 : Int32)
                  · refine am_tabIn (115) 124 dX11_told_9 (by rw [hc14]; decide) (by rw [hc14]; decide) (by rw [hc14]; rfl) rfl ?_
                    replace hyp := it_pos hc14 hyp
                    refine am_aload_n dX11_told_124 rfl ?_
                    refine am_getR 11 10 45 dX11_told_125 fg_X11_84 (sh_0 g) (by decide) rfl (rf_0_10 g) ?_
                    refine am_getI 5 3 dX11_told_128 fg_X11_166 (sh_45 g) (by decide) rfl ?_
                    cases hyp
                    exact am_iret dX11_told_131 rfl
                  · have hc14n := hc14
                    replace hyp := it_neg hc14n hyp
                    refine am_tabOut 132 dX11_told_9 (by have q0 := lv_neT (a := 0) hc2n (by decide); have q1 := lv_neT (a := 1) hc3n (by decide); have q2 := lv_neT (a := 2) hc4n (by decide); have q3 := lv_neT (a := 3) hc5n (by decide); have q4 := lv_neT (a := 4) hc6n (by decide); have q5 := lv_neT (a := 5) hc8n (by decide); have q6 := lv_neT (a := 6) hc10n (by decide); have q7 := lv_neT (a := 7) hc12n (by decide); have q8 := lv_neT (a := 8) hc14n (by decide); omega) rfl ?_
                    refine am_aload_n dX11_told_132 rfl ?_
                    refine am_getI 11 12 dX11_told_133 fg_X11_135 (sh_0 g) (by decide) rfl ?_
                    cases hyp
                    exact am_iret dX11_told_136 rfl
theorem ef_X11_told_25 {d : Nat} {h : am_H} (g : lay h) (hW : h.2.2 23 0 = some 25 ∧ h.2.2 23 2 = some 24) {x1 : Int32} {M : Mem} {y : (Int32 ⊕ String) × Mem} (hyp : f_X11_told 25 24 x1 M = some y) : am_Ev (d + 6) mX11_told [.inr (0, 0), am_I x1] (am_hM h M) (am_o1 h y) := by
  unfold f_X11_told at hyp
  refine am_Ev.mk (by decide +kernel) rfl rfl (am_oc1 h y) (am_os1 h y) ?_
  change am_At _ _ _ 0 [_, _] [] _ _
  refine am_aload_n dX11_told_0 rfl ?_
  refine am_iload_n dX11_told_1 rfl ?_
  refine am_iconst 0 (v := 0) dX11_told_2 (by decide) ?_
  refine am_bipush 9 (v := 9) dX11_told_3 (by decide) ?_
  obtain ⟨⟨y1, M1⟩, hk1, hyp⟩ := bd_some hyp
  rcases y1 with v1 | E1
  rotate_left
  · try dsimp only at hyp
    cases hyp
    exact am_callVX [_, _, _] dX11_told_5 ml_X11_178 vm_X11_needFit (sh_0 g) rfl (fun _ => Nat.le_of_ble_eq_true rfl) (by omega) rfl (am_o0t (ef_X11_needFit (d := d + 5) (h := h) g hk1)) rfl
  try dsimp only at hyp
  refine am_callV [_, _, _] dX11_told_5 ml_X11_178 vm_X11_needFit (sh_0 g) rfl (fun _ => Nat.le_of_ble_eq_true rfl) (by omega) rfl (am_o0v (ef_X11_needFit (d := d + 5) (h := h) g hk1)) rfl ?_
  change am_At _ _ _ 8 [_, _] [] _ _
  refine am_iload_n dX11_told_8 rfl ?_
  by_cases hc2 : x1 = (0 : Int32)
  · refine am_tabIn (51) 60 dX11_told_9 (by rw [hc2]; decide) (by rw [hc2]; decide) (by rw [hc2]; rfl) rfl ?_
    replace hyp := it_pos hc2 hyp
    refine am_aload_n dX11_told_60 rfl ?_
    refine am_getR 11 1 3 dX11_told_61 fg_X11_19 (sh_0 g) (by decide) rfl (rf_0_1 g) ?_
    refine am_getI 1 0 dX11_told_64 fg_X11_142 (sh_3 g) (by decide) rfl ?_
    cases hyp
    exact am_iret dX11_told_67 rfl
  · have hc2n := hc2
    replace hyp := it_neg hc2n hyp
    by_cases hc3 : x1 = (1 : Int32)
    · refine am_tabIn (59) 68 dX11_told_9 (by rw [hc3]; decide) (by rw [hc3]; decide) (by rw [hc3]; rfl) rfl ?_
      replace hyp := it_pos hc3 hyp
      refine am_aload_n dX11_told_68 rfl ?_
      refine am_getR 11 1 3 dX11_told_69 fg_X11_19 (sh_0 g) (by decide) rfl (rf_0_1 g) ?_
      refine am_getI 1 5 dX11_told_72 fg_X11_182 (sh_3 g) (by decide) rfl ?_
      cases hyp
      exact am_iret dX11_told_75 rfl
    · have hc3n := hc3
      replace hyp := it_neg hc3n hyp
      by_cases hc4 : x1 = (2 : Int32)
      · refine am_tabIn (67) 76 dX11_told_9 (by rw [hc4]; decide) (by rw [hc4]; decide) (by rw [hc4]; rfl) rfl ?_
        replace hyp := it_pos hc4 hyp
        refine am_aload_n dX11_told_76 rfl ?_
        refine am_getR 11 1 3 dX11_told_77 fg_X11_19 (sh_0 g) (by decide) rfl (rf_0_1 g) ?_
        refine am_getI 1 8 dX11_told_80 fg_X11_185 (sh_3 g) (by decide) rfl ?_
        cases hyp
        exact am_iret dX11_told_83 rfl
      · have hc4n := hc4
        replace hyp := it_neg hc4n hyp
        by_cases hc5 : x1 = (3 : Int32)
        · refine am_tabIn (75) 84 dX11_told_9 (by rw [hc5]; decide) (by rw [hc5]; decide) (by rw [hc5]; rfl) rfl ?_
          replace hyp := it_pos hc5 hyp
          refine am_aload_n dX11_told_84 rfl ?_
          refine am_getR 11 5 29 dX11_told_85 fg_X11_45 (sh_0 g) (by decide) rfl (rf_0_5 g) ?_
          refine am_callV [] dX11_told_88 ml_X11_188 vm_X8_hour (sh_29 g) rfl (fun _ => Nat.le_of_ble_eq_true rfl) (by omega) rfl (ef_X8_hour_30 (d := d + 5) (h := h) g  (M := M1) rfl) rfl ?_
          change am_At _ _ _ 91 [_, _] [_] _ _
          cases hyp
          exact am_iret dX11_told_91 rfl
        · have hc5n := hc5
          replace hyp := it_neg hc5n hyp
          by_cases hc6 : x1 = (4 : Int32)
          · refine am_tabIn (83) 92 dX11_told_9 (by rw [hc6]; decide) (by rw [hc6]; decide) (by rw [hc6]; rfl) rfl ?_
            replace hyp := it_pos hc6 hyp
            refine am_aload_n dX11_told_92 rfl ?_
            obtain ⟨⟨v7, M7⟩, hk7, hyp⟩ := bd_some hyp
            try dsimp only at hyp
            refine am_callV [] dX11_told_93 ml_X11_191 vm_X11_openNow (sh_0 g) rfl (fun _ => Nat.le_of_ble_eq_true rfl) (by omega) rfl (ef_X11_openNow_25 (d := d + 0) (h := h) g hW hk7) rfl ?_
            change am_At _ _ _ 96 [_, _] [_] _ _
            refine am_callS (c := 0) (k := 0) (n := 0) (w := 0) [_] dX11_told_96 ml_X11_194 sm_J6_bitCount_0f7a4 rfl (fun _ => Nat.le_of_ble_eq_true rfl) (by omega) rfl (ev_bc (d := d + 5) (x := v7)) rfl ?_
            change am_At _ _ _ 99 [_, _] [_] _ _
            cases hyp
            exact am_iret dX11_told_99 rfl
          · have hc6n := hc6
            replace hyp := it_neg hc6n hyp
            by_cases hc8 : x1 = (5 : Int32)
            · refine am_tabIn (91) 100 dX11_told_9 (by rw [hc8]; decide) (by rw [hc8]; decide) (by rw [hc8]; rfl) rfl ?_
              replace hyp := it_pos hc8 hyp
              refine am_aload_n dX11_told_100 rfl ?_
              refine am_getR 11 5 29 dX11_told_101 fg_X11_45 (sh_0 g) (by decide) rfl (rf_0_5 g) ?_
              obtain ⟨v9, hk9, hyp⟩ := bd_some hyp
              try dsimp only at hyp
              refine am_callV [] dX11_told_104 ml_X11_200 vm_X8_allFines (sh_29 g) rfl (fun _ => Nat.le_of_ble_eq_true rfl) (by omega) rfl (ef_X8_allFines_30 (d := d + 4) (h := h) g hk9) rfl ?_
              change am_At _ _ _ 107 [_, _] [_] _ _
              cases hyp
              exact am_iret dX11_told_107 rfl
            · have hc8n := hc8
              replace hyp := it_neg hc8n hyp
              by_cases hc10 : x1 = (6 : Int32)
              · refine am_tabIn (99) 108 dX11_told_9 (by rw [hc10]; decide) (by rw [hc10]; decide) (by rw [hc10]; rfl) rfl ?_
                replace hyp := it_pos hc10 hyp
                refine am_aload_n dX11_told_108 rfl ?_
                refine am_getR 11 5 29 dX11_told_109 fg_X11_45 (sh_0 g) (by decide) rfl (rf_0_5 g) ?_
                obtain ⟨v11, hk11, hyp⟩ := bd_some hyp
                try dsimp only at hyp
                refine am_callV [] dX11_told_112 ml_X11_203 vm_X8_allKnocks (sh_29 g) rfl (fun _ => Nat.le_of_ble_eq_true rfl) (by omega) rfl (ef_X8_allKnocks_30 (d := d + 4) (h := h) g hk11) rfl ?_
                change am_At _ _ _ 115 [_, _] [_] _ _
                cases hyp
                exact am_iret dX11_told_115 rfl
              · have hc10n := hc10
                replace hyp := it_neg hc10n hyp
                by_cases hc12 : x1 = (7 : Int32)
                · refine am_tabIn (107) 116 dX11_told_9 (by rw [hc12]; decide) (by rw [hc12]; decide) (by rw [hc12]; rfl) rfl ?_
                  replace hyp := it_pos hc12 hyp
                  refine am_aload_n dX11_told_116 rfl ?_
                  refine am_getR 11 5 29 dX11_told_117 fg_X11_45 (sh_0 g) (by decide) rfl (rf_0_5 g) ?_
                  obtain ⟨v13, hk13, hyp⟩ := bd_some hyp
                  try dsimp only at hyp
                  refine am_callV [] dX11_told_120 ml_X11_206 vm_X8_bargesThrough (sh_29 g) rfl (fun _ => Nat.le_of_ble_eq_true rfl) (by omega) rfl (ef_X8_bargesThrough_30 (d := d + 4) (h := h) g hk13) rfl ?_
                  change am_At _ _ _ 123 [_, _] [_] _ _
                  cases hyp
                  exact am_iret dX11_told_123 rfl
                · have hc12n := hc12
                  replace hyp := it_neg hc12n hyp
                  by_cases hc14 : x1 = (8 : Int32)
                  · refine am_tabIn (115) 124 dX11_told_9 (by rw [hc14]; decide) (by rw [hc14]; decide) (by rw [hc14]; rfl) rfl ?_
                    replace hyp := it_pos hc14 hyp
                    refine am_aload_n dX11_told_124 rfl ?_
                    refine am_getR 11 10 45 dX11_told_125 fg_X11_84 (sh_0 g) (by decide) rfl (rf_0_10 g) ?_
                    refine am_getI 5 3 dX11_told_128 fg_X11_166 (sh_45 g) (by decide) rfl ?_
                    cases hyp
                    exact am_iret dX11_told_131 rfl
                  · have hc14n := hc14
                    replace hyp := it_neg hc14n hyp
                    refine am_tabOut 132 dX11_told_9 (by have q0 := lv_neT (a := 0) hc2n (by decide); have q1 := lv_neT (a := 1) hc3n (by decide); have q2 := lv_neT (a := 2) hc4n (by decide); have q3 := lv_neT (a := 3) hc5n (by decide); have q4 := lv_neT (a := 4) hc6n (by decide); have q5 := lv_neT (a := 5) hc8n (by decide); have q6 := lv_neT (a := 6) hc10n (by decide); have q7 := lv_neT (a := 7) hc12n (by decide); have q8 := lv_neT (a := 8) hc14n (by decide); omega) rfl ?_
                    refine am_aload_n dX11_told_132 rfl ?_
                    refine am_getI 11 12 dX11_told_133 fg_X11_135 (sh_0 g) (by decide) rfl ?_
                    cases hyp
                    exact am_iret dX11_told_136 rfl
