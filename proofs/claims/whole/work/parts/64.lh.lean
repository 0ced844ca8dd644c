/-! the helpers of the law -/
theorem hp_river {d : Nat} {h h1 : am_H} {x1 : Int32} {v : Int32} (hs0 : h.1[0]? = some (11, 15, 0)) (hs82 : h.1[82]? = some (102, 1, 0)) (hsh : h1.1 = h.1) (E : am_Ev d mX11_river [.inr (0, 0), am_I x1] h (.inl (some (am_I v), h1))) : am_EvH (d + 1) [(0, 9, 12, 13)] mL_river [.inr (0, 0), am_I x1, .inr (82, 0)] h (am_I 0) (am_ur h1 82 0 (am_lc v)) := by
  refine am_EvH.of (by decide +kernel) rfl rfl ?_
  change am_AtG _ _ _ _ _ 0 [_, _, _, _] [] _ _
  refine gm_aload_n dL_river_0 rfl ?_
  refine gm_iconst 0 (v := 0) dL_river_1 (by decide) ?_
  refine gm_aload_n dL_river_2 rfl ?_
  refine gm_iload_n dL_river_3 rfl ?_
  refine gm_callV [_] dL_river_4 ml_L_7 vm_X11_river hs0 rfl (fun _ => zq _ rfl) (Nat.le_refl _) rfl E hsh ?_
  change am_AtG _ _ _ _ _ 7 [_, _, _, _] [_, _, _] _ _
  refine gm_i2l dL_river_7 ?_
  refine gm_last (x := v) dL_river_8 (hsh ▸ hs82) (am_lit rfl) ?_
  refine gm_goto (6) 15 dL_river_9 rfl ?_
  refine gm_iconst 0 (v := 0) dL_river_15 (by decide) ?_
  exact gm_iret dL_river_16 rfl rfl (fun D cy A ad args s t hX hP hD hF => ⟨⟨_, _, ad, rfl, rfl, am_ag.rf (by first | exact congrArg List.length hsh | rfl), hP, hD⟩, hF⟩)
theorem hx_river_I {d : Nat} {h h1 : am_H} {x1 : Int32} (hs0 : h.1[0]? = some (11, 15, 0)) (hs82 : h.1[82]? = some (102, 1, 0)) (hsh : h1.1 = h.1) (E : am_Ev d mX11_river [.inr (0, 0), am_I x1] h (.inr (lwI, h1))) : am_EvH (d + 1) [(0, 9, 12, 13)] mL_river [.inr (0, 0), am_I x1, .inr (82, 0)] h (am_I 1) h1 := by
  refine am_EvH.of (by decide +kernel) rfl rfl ?_
  change am_AtG _ _ _ _ _ 0 [_, _, _, _] [] _ _
  refine gm_aload_n dL_river_0 rfl ?_
  refine gm_iconst 0 (v := 0) dL_river_1 (by decide) ?_
  refine gm_aload_n dL_river_2 rfl ?_
  refine gm_iload_n dL_river_3 rfl ?_
  refine gm_callVC (r' := (am_nc h, am_ns h)) [_] dL_river_4 ml_L_7 vm_X11_river hs0 rfl (fun _ => zq _ rfl) (Nat.le_refl _) rfl E hsh (fun _ _ _ z => z) tk_river_I (Nat.le_refl _) (Nat.le_refl _) (Nat.le_refl _) (Nat.le_refl _) (fun q => ?_)
  change am_AtG _ _ _ _ _ 12 [_, _, _, _] [_] _ _
  refine gm_astx_n dL_river_12 (am_lb rfl) ?_
  refine gm_iconst 1 (v := 1) dL_river_13 (by decide) ?_
  exact gm_iret dL_river_14 rfl rfl (fun D cy A ad args s t hX hP hD hF => ⟨⟨_, _, ad, rfl, rfl, am_ag.rf (by first | exact congrArg List.length hsh | rfl), hP, hD⟩, hF⟩)
theorem hp_law {d : Nat} {h h1 : am_H} {x1 : Int32} {v : Int32} (hs0 : h.1[0]? = some (11, 15, 0)) (hs82 : h.1[82]? = some (102, 1, 0)) (hsh : h1.1 = h.1) (E : am_Ev d mX11_law [.inr (0, 0), am_I x1] h (.inl (some (am_I v), h1))) : am_EvH (d + 1) [(0, 9, 12, 13)] mL_law [.inr (0, 0), am_I x1, .inr (82, 0)] h (am_I 0) (am_ur h1 82 0 (am_lc v)) := by
  refine am_EvH.of (by decide +kernel) rfl rfl ?_
  change am_AtG _ _ _ _ _ 0 [_, _, _, _] [] _ _
  refine gm_aload_n dL_law_0 rfl ?_
  refine gm_iconst 0 (v := 0) dL_law_1 (by decide) ?_
  refine gm_aload_n dL_law_2 rfl ?_
  refine gm_iload_n dL_law_3 rfl ?_
  refine gm_callV [_] dL_law_4 ml_L_15 vm_X11_law hs0 rfl (fun _ => zq _ rfl) (Nat.le_refl _) rfl E hsh ?_
  change am_AtG _ _ _ _ _ 7 [_, _, _, _] [_, _, _] _ _
  refine gm_i2l dL_law_7 ?_
  refine gm_last (x := v) dL_law_8 (hsh ▸ hs82) (am_lit rfl) ?_
  refine gm_goto (6) 15 dL_law_9 rfl ?_
  refine gm_iconst 0 (v := 0) dL_law_15 (by decide) ?_
  exact gm_iret dL_law_16 rfl rfl (fun D cy A ad args s t hX hP hD hF => ⟨⟨_, _, ad, rfl, rfl, am_ag.rf (by first | exact congrArg List.length hsh | rfl), hP, hD⟩, hF⟩)
theorem hx_law_I {d : Nat} {h h1 : am_H} {x1 : Int32} (hs0 : h.1[0]? = some (11, 15, 0)) (hs82 : h.1[82]? = some (102, 1, 0)) (hsh : h1.1 = h.1) (E : am_Ev d mX11_law [.inr (0, 0), am_I x1] h (.inr (lwI, h1))) : am_EvH (d + 1) [(0, 9, 12, 13)] mL_law [.inr (0, 0), am_I x1, .inr (82, 0)] h (am_I 1) h1 := by
  refine am_EvH.of (by decide +kernel) rfl rfl ?_
  change am_AtG _ _ _ _ _ 0 [_, _, _, _] [] _ _
  refine gm_aload_n dL_law_0 rfl ?_
  refine gm_iconst 0 (v := 0) dL_law_1 (by decide) ?_
  refine gm_aload_n dL_law_2 rfl ?_
  refine gm_iload_n dL_law_3 rfl ?_
  refine gm_callVC (r' := (am_nc h, am_ns h)) [_] dL_law_4 ml_L_15 vm_X11_law hs0 rfl (fun _ => zq _ rfl) (Nat.le_refl _) rfl E hsh (fun _ _ _ z => z) tk_law_I (Nat.le_refl _) (Nat.le_refl _) (Nat.le_refl _) (Nat.le_refl _) (fun q => ?_)
  change am_AtG _ _ _ _ _ 12 [_, _, _, _] [_] _ _
  refine gm_astx_n dL_law_12 (am_lb rfl) ?_
  refine gm_iconst 1 (v := 1) dL_law_13 (by decide) ?_
  exact gm_iret dL_law_14 rfl rfl (fun D cy A ad args s t hX hP hD hF => ⟨⟨_, _, ad, rfl, rfl, am_ag.rf (by first | exact congrArg List.length hsh | rfl), hP, hD⟩, hF⟩)
theorem hp_work {d : Nat} {h h1 : am_H} {x1 : Int32} {v : Int32} (hs0 : h.1[0]? = some (11, 15, 0)) (hs82 : h.1[82]? = some (102, 1, 0)) (hsh : h1.1 = h.1) (E : am_Ev d mX11_work [.inr (0, 0), am_I x1] h (.inl (some (am_I v), h1))) : am_EvH (d + 1) [(0, 9, 12, 13)] mL_work [.inr (0, 0), am_I x1, .inr (82, 0)] h (am_I 0) (am_ur h1 82 0 (am_lc v)) := by
  refine am_EvH.of (by decide +kernel) rfl rfl ?_
  change am_AtG _ _ _ _ _ 0 [_, _, _, _] [] _ _
  refine gm_aload_n dL_work_0 rfl ?_
  refine gm_iconst 0 (v := 0) dL_work_1 (by decide) ?_
  refine gm_aload_n dL_work_2 rfl ?_
  refine gm_iload_n dL_work_3 rfl ?_
  refine gm_callV [_] dL_work_4 ml_L_18 vm_X11_work hs0 rfl (fun _ => zq _ rfl) (Nat.le_refl _) rfl E hsh ?_
  change am_AtG _ _ _ _ _ 7 [_, _, _, _] [_, _, _] _ _
  refine gm_i2l dL_work_7 ?_
  refine gm_last (x := v) dL_work_8 (hsh ▸ hs82) (am_lit rfl) ?_
  refine gm_goto (6) 15 dL_work_9 rfl ?_
  refine gm_iconst 0 (v := 0) dL_work_15 (by decide) ?_
  exact gm_iret dL_work_16 rfl rfl (fun D cy A ad args s t hX hP hD hF => ⟨⟨_, _, ad, rfl, rfl, am_ag.rf (by first | exact congrArg List.length hsh | rfl), hP, hD⟩, hF⟩)
theorem hx_work_I {d : Nat} {h h1 : am_H} {x1 : Int32} (hs0 : h.1[0]? = some (11, 15, 0)) (hs82 : h.1[82]? = some (102, 1, 0)) (hsh : h1.1 = h.1) (E : am_Ev d mX11_work [.inr (0, 0), am_I x1] h (.inr (lwI, h1))) : am_EvH (d + 1) [(0, 9, 12, 13)] mL_work [.inr (0, 0), am_I x1, .inr (82, 0)] h (am_I 1) h1 := by
  refine am_EvH.of (by decide +kernel) rfl rfl ?_
  change am_AtG _ _ _ _ _ 0 [_, _, _, _] [] _ _
  refine gm_aload_n dL_work_0 rfl ?_
  refine gm_iconst 0 (v := 0) dL_work_1 (by decide) ?_
  refine gm_aload_n dL_work_2 rfl ?_
  refine gm_iload_n dL_work_3 rfl ?_
  refine gm_callVC (r' := (am_nc h, am_ns h)) [_] dL_work_4 ml_L_18 vm_X11_work hs0 rfl (fun _ => zq _ rfl) (Nat.le_refl _) rfl E hsh (fun _ _ _ z => z) tk_work_I (Nat.le_refl _) (Nat.le_refl _) (Nat.le_refl _) (Nat.le_refl _) (fun q => ?_)
  change am_AtG _ _ _ _ _ 12 [_, _, _, _] [_] _ _
  refine gm_astx_n dL_work_12 (am_lb rfl) ?_
  refine gm_iconst 1 (v := 1) dL_work_13 (by decide) ?_
  exact gm_iret dL_work_14 rfl rfl (fun D cy A ad args s t hX hP hD hF => ⟨⟨_, _, ad, rfl, rfl, am_ag.rf (by first | exact congrArg List.length hsh | rfl), hP, hD⟩, hF⟩)
theorem hp_book {d : Nat} {h h1 : am_H} {x1 : Int32} {v : Int32} (hs0 : h.1[0]? = some (11, 15, 0)) (hs82 : h.1[82]? = some (102, 1, 0)) (hsh : h1.1 = h.1) (E : am_Ev d mX11_book [.inr (0, 0), am_I x1] h (.inl (some (am_I v), h1))) : am_EvH (d + 1) [(0, 9, 12, 13)] mL_book [.inr (0, 0), am_I x1, .inr (82, 0)] h (am_I 0) (am_ur h1 82 0 (am_lc v)) := by
  refine am_EvH.of (by decide +kernel) rfl rfl ?_
  change am_AtG _ _ _ _ _ 0 [_, _, _, _] [] _ _
  refine gm_aload_n dL_book_0 rfl ?_
  refine gm_iconst 0 (v := 0) dL_book_1 (by decide) ?_
  refine gm_aload_n dL_book_2 rfl ?_
  refine gm_iload_n dL_book_3 rfl ?_
  refine gm_callV [_] dL_book_4 ml_L_21 vm_X11_book hs0 rfl (fun _ => zq _ rfl) (Nat.le_refl _) rfl E hsh ?_
  change am_AtG _ _ _ _ _ 7 [_, _, _, _] [_, _, _] _ _
  refine gm_i2l dL_book_7 ?_
  refine gm_last (x := v) dL_book_8 (hsh ▸ hs82) (am_lit rfl) ?_
  refine gm_goto (6) 15 dL_book_9 rfl ?_
  refine gm_iconst 0 (v := 0) dL_book_15 (by decide) ?_
  exact gm_iret dL_book_16 rfl rfl (fun D cy A ad args s t hX hP hD hF => ⟨⟨_, _, ad, rfl, rfl, am_ag.rf (by first | exact congrArg List.length hsh | rfl), hP, hD⟩, hF⟩)
theorem hx_book_I {d : Nat} {h h1 : am_H} {x1 : Int32} (hs0 : h.1[0]? = some (11, 15, 0)) (hs82 : h.1[82]? = some (102, 1, 0)) (hsh : h1.1 = h.1) (E : am_Ev d mX11_book [.inr (0, 0), am_I x1] h (.inr (lwI, h1))) : am_EvH (d + 1) [(0, 9, 12, 13)] mL_book [.inr (0, 0), am_I x1, .inr (82, 0)] h (am_I 1) h1 := by
  refine am_EvH.of (by decide +kernel) rfl rfl ?_
  change am_AtG _ _ _ _ _ 0 [_, _, _, _] [] _ _
  refine gm_aload_n dL_book_0 rfl ?_
  refine gm_iconst 0 (v := 0) dL_book_1 (by decide) ?_
  refine gm_aload_n dL_book_2 rfl ?_
  refine gm_iload_n dL_book_3 rfl ?_
  refine gm_callVC (r' := (am_nc h, am_ns h)) [_] dL_book_4 ml_L_21 vm_X11_book hs0 rfl (fun _ => zq _ rfl) (Nat.le_refl _) rfl E hsh (fun _ _ _ z => z) tk_book_I (Nat.le_refl _) (Nat.le_refl _) (Nat.le_refl _) (Nat.le_refl _) (fun q => ?_)
  change am_AtG _ _ _ _ _ 12 [_, _, _, _] [_] _ _
  refine gm_astx_n dL_book_12 (am_lb rfl) ?_
  refine gm_iconst 1 (v := 1) dL_book_13 (by decide) ?_
  exact gm_iret dL_book_14 rfl rfl (fun D cy A ad args s t hX hP hD hF => ⟨⟨_, _, ad, rfl, rfl, am_ag.rf (by first | exact congrArg List.length hsh | rfl), hP, hD⟩, hF⟩)
theorem hp_told {d : Nat} {h h1 : am_H} {x1 : Int32} {v : Int32} (hs0 : h.1[0]? = some (11, 15, 0)) (hs82 : h.1[82]? = some (102, 1, 0)) (hsh : h1.1 = h.1) (E : am_Ev d mX11_told [.inr (0, 0), am_I x1] h (.inl (some (am_I v), h1))) : am_EvH (d + 1) [(0, 9, 12, 13)] mL_told [.inr (0, 0), am_I x1, .inr (82, 0)] h (am_I 0) (am_ur h1 82 0 (am_lc v)) := by
  refine am_EvH.of (by decide +kernel) rfl rfl ?_
  change am_AtG _ _ _ _ _ 0 [_, _, _, _] [] _ _
  refine gm_aload_n dL_told_0 rfl ?_
  refine gm_iconst 0 (v := 0) dL_told_1 (by decide) ?_
  refine gm_aload_n dL_told_2 rfl ?_
  refine gm_iload_n dL_told_3 rfl ?_
  refine gm_callV [_] dL_told_4 ml_L_24 vm_X11_told hs0 rfl (fun _ => zq _ rfl) (Nat.le_refl _) rfl E hsh ?_
  change am_AtG _ _ _ _ _ 7 [_, _, _, _] [_, _, _] _ _
  refine gm_i2l dL_told_7 ?_
  refine gm_last (x := v) dL_told_8 (hsh ▸ hs82) (am_lit rfl) ?_
  refine gm_goto (6) 15 dL_told_9 rfl ?_
  refine gm_iconst 0 (v := 0) dL_told_15 (by decide) ?_
  exact gm_iret dL_told_16 rfl rfl (fun D cy A ad args s t hX hP hD hF => ⟨⟨_, _, ad, rfl, rfl, am_ag.rf (by first | exact congrArg List.length hsh | rfl), hP, hD⟩, hF⟩)
theorem hx_told_I {d : Nat} {h h1 : am_H} {x1 : Int32} (hs0 : h.1[0]? = some (11, 15, 0)) (hs82 : h.1[82]? = some (102, 1, 0)) (hsh : h1.1 = h.1) (E : am_Ev d mX11_told [.inr (0, 0), am_I x1] h (.inr (lwI, h1))) : am_EvH (d + 1) [(0, 9, 12, 13)] mL_told [.inr (0, 0), am_I x1, .inr (82, 0)] h (am_I 1) h1 := by
  refine am_EvH.of (by decide +kernel) rfl rfl ?_
  change am_AtG _ _ _ _ _ 0 [_, _, _, _] [] _ _
  refine gm_aload_n dL_told_0 rfl ?_
  refine gm_iconst 0 (v := 0) dL_told_1 (by decide) ?_
  refine gm_aload_n dL_told_2 rfl ?_
  refine gm_iload_n dL_told_3 rfl ?_
  refine gm_callVC (r' := (am_nc h, am_ns h)) [_] dL_told_4 ml_L_24 vm_X11_told hs0 rfl (fun _ => zq _ rfl) (Nat.le_refl _) rfl E hsh (fun _ _ _ z => z) tk_told_I (Nat.le_refl _) (Nat.le_refl _) (Nat.le_refl _) (Nat.le_refl _) (fun q => ?_)
  change am_AtG _ _ _ _ _ 12 [_, _, _, _] [_] _ _
  refine gm_astx_n dL_told_12 (am_lb rfl) ?_
  refine gm_iconst 1 (v := 1) dL_told_13 (by decide) ?_
  exact gm_iret dL_told_14 rfl rfl (fun D cy A ad args s t hX hP hD hF => ⟨⟨_, _, ad, rfl, rfl, am_ag.rf (by first | exact congrArg List.length hsh | rfl), hP, hD⟩, hF⟩)
theorem hp_board {d : Nat} {h h1 : am_H} {x1 x2 : Int32} {v : Int32} (hs0 : h.1[0]? = some (11, 15, 0)) (hs82 : h.1[82]? = some (102, 1, 0)) (hsh : h1.1 = h.1) (E : am_Ev d mX11_board [.inr (0, 0), am_I x1, am_I x2] h (.inl (some (am_I v), h1))) : am_EvH (d + 1) [(0, 10, 13, 31), (0, 10, 17, 13)] mL_board [.inr (0, 0), am_I x1, am_I x2, .inr (82, 0)] h (am_I 0) (am_ur h1 82 0 (am_lc v)) := by
  refine am_EvH.of (by decide +kernel) rfl rfl ?_
  change am_AtG _ _ _ _ _ 0 [_, _, _, _, _] [] _ _
  refine gm_aload_n dL_board_0 rfl ?_
  refine gm_iconst 0 (v := 0) dL_board_1 (by decide) ?_
  refine gm_aload_n dL_board_2 rfl ?_
  refine gm_iload_n dL_board_3 rfl ?_
  refine gm_iload_n dL_board_4 rfl ?_
  refine gm_callV [_, _] dL_board_5 ml_L_27 vm_X11_board hs0 rfl (fun _ => zq _ rfl) (Nat.le_refl _) rfl E hsh ?_
  change am_AtG _ _ _ _ _ 8 [_, _, _, _, _] [_, _, _] _ _
  refine gm_i2l dL_board_8 ?_
  refine gm_last (x := v) dL_board_9 (hsh ▸ hs82) (am_lit rfl) ?_
  refine gm_goto (11) 21 dL_board_10 rfl ?_
  refine gm_iconst 0 (v := 0) dL_board_21 (by decide) ?_
  exact gm_iret dL_board_22 rfl rfl (fun D cy A ad args s t hX hP hD hF => ⟨⟨_, _, ad, rfl, rfl, am_ag.rf (by first | exact congrArg List.length hsh | rfl), hP, hD⟩, hF⟩)
theorem hx_board_I {d : Nat} {h h1 : am_H} {x1 x2 : Int32} (hs0 : h.1[0]? = some (11, 15, 0)) (hs82 : h.1[82]? = some (102, 1, 0)) (hsh : h1.1 = h.1) (E : am_Ev d mX11_board [.inr (0, 0), am_I x1, am_I x2] h (.inr (lwI, h1))) : am_EvH (d + 1) [(0, 10, 13, 31), (0, 10, 17, 13)] mL_board [.inr (0, 0), am_I x1, am_I x2, .inr (82, 0)] h (am_I 2) h1 := by
  refine am_EvH.of (by decide +kernel) rfl rfl ?_
  change am_AtG _ _ _ _ _ 0 [_, _, _, _, _] [] _ _
  refine gm_aload_n dL_board_0 rfl ?_
  refine gm_iconst 0 (v := 0) dL_board_1 (by decide) ?_
  refine gm_aload_n dL_board_2 rfl ?_
  refine gm_iload_n dL_board_3 rfl ?_
  refine gm_iload_n dL_board_4 rfl ?_
  refine gm_callVC (r' := (am_nc h, am_ns h)) [_, _] dL_board_5 ml_L_27 vm_X11_board hs0 rfl (fun _ => zq _ rfl) (Nat.le_refl _) rfl E hsh (fun _ _ _ z => z) tk_board_I (Nat.le_refl _) (Nat.le_refl _) (Nat.le_refl _) (Nat.le_refl _) (fun q => ?_)
  change am_AtG _ _ _ _ _ 17 [_, _, _, _, _] [_] _ _
  refine gm_astx dL_board_17 (am_lb rfl) ?_
  refine gm_iconst 2 (v := 2) dL_board_19 (by decide) ?_
  exact gm_iret dL_board_20 rfl rfl (fun D cy A ad args s t hX hP hD hF => ⟨⟨_, _, ad, rfl, rfl, am_ag.rf (by first | exact congrArg List.length hsh | rfl), hP, hD⟩, hF⟩)
theorem hx_board_N {d : Nat} {h h1 : am_H} {x1 x2 : Int32} (hs0 : h.1[0]? = some (11, 15, 0)) (hs82 : h.1[82]? = some (102, 1, 0)) (hsh : h1.1 = h.1) (E : am_Ev d mX11_board [.inr (0, 0), am_I x1, am_I x2] h (.inr (lwN, h1))) : am_EvH (d + 1) [(0, 10, 13, 31), (0, 10, 17, 13)] mL_board [.inr (0, 0), am_I x1, am_I x2, .inr (82, 0)] h (am_I 1) h1 := by
  refine am_EvH.of (by decide +kernel) rfl rfl ?_
  change am_AtG _ _ _ _ _ 0 [_, _, _, _, _] [] _ _
  refine gm_aload_n dL_board_0 rfl ?_
  refine gm_iconst 0 (v := 0) dL_board_1 (by decide) ?_
  refine gm_aload_n dL_board_2 rfl ?_
  refine gm_iload_n dL_board_3 rfl ?_
  refine gm_iload_n dL_board_4 rfl ?_
  refine gm_callVC (r' := (am_nc h, am_ns h)) [_, _] dL_board_5 ml_L_27 vm_X11_board hs0 rfl (fun _ => zq _ rfl) (Nat.le_refl _) rfl E hsh (fun _ _ _ z => z) tk_board_N (Nat.le_refl _) (Nat.le_refl _) (Nat.le_refl _) (Nat.le_refl _) (fun q => ?_)
  change am_AtG _ _ _ _ _ 13 [_, _, _, _, _] [_] _ _
  refine gm_astx dL_board_13 (am_lb rfl) ?_
  refine gm_iconst 1 (v := 1) dL_board_15 (by decide) ?_
  exact gm_iret dL_board_16 rfl rfl (fun D cy A ad args s t hX hP hD hF => ⟨⟨_, _, ad, rfl, rfl, am_ag.rf (by first | exact congrArg List.length hsh | rfl), hP, hD⟩, hF⟩)
theorem hp_barge {d : Nat} {h h1 : am_H} {x1 x2 : Int32} {v : Int32} (hs0 : h.1[0]? = some (11, 15, 0)) (hs82 : h.1[82]? = some (102, 1, 0)) (hsh : h1.1 = h.1) (E : am_Ev d mX11_barge [.inr (0, 0), am_I x1, am_I x2] h (.inl (some (am_I v), h1))) : am_EvH (d + 1) [(0, 10, 13, 31), (0, 10, 17, 13)] mL_barge [.inr (0, 0), am_I x1, am_I x2, .inr (82, 0)] h (am_I 0) (am_ur h1 82 0 (am_lc v)) := by
  refine am_EvH.of (by decide +kernel) rfl rfl ?_
  change am_AtG _ _ _ _ _ 0 [_, _, _, _, _] [] _ _
  refine gm_aload_n dL_barge_0 rfl ?_
  refine gm_iconst 0 (v := 0) dL_barge_1 (by decide) ?_
  refine gm_aload_n dL_barge_2 rfl ?_
  refine gm_iload_n dL_barge_3 rfl ?_
  refine gm_iload_n dL_barge_4 rfl ?_
  refine gm_callV [_, _] dL_barge_5 ml_L_33 vm_X11_barge hs0 rfl (fun _ => zq _ rfl) (Nat.le_refl _) rfl E hsh ?_
  change am_AtG _ _ _ _ _ 8 [_, _, _, _, _] [_, _, _] _ _
  refine gm_i2l dL_barge_8 ?_
  refine gm_last (x := v) dL_barge_9 (hsh ▸ hs82) (am_lit rfl) ?_
  refine gm_goto (11) 21 dL_barge_10 rfl ?_
  refine gm_iconst 0 (v := 0) dL_barge_21 (by decide) ?_
  exact gm_iret dL_barge_22 rfl rfl (fun D cy A ad args s t hX hP hD hF => ⟨⟨_, _, ad, rfl, rfl, am_ag.rf (by first | exact congrArg List.length hsh | rfl), hP, hD⟩, hF⟩)
theorem hx_barge_I {d : Nat} {h h1 : am_H} {x1 x2 : Int32} (hs0 : h.1[0]? = some (11, 15, 0)) (hs82 : h.1[82]? = some (102, 1, 0)) (hsh : h1.1 = h.1) (E : am_Ev d mX11_barge [.inr (0, 0), am_I x1, am_I x2] h (.inr (lwI, h1))) : am_EvH (d + 1) [(0, 10, 13, 31), (0, 10, 17, 13)] mL_barge [.inr (0, 0), am_I x1, am_I x2, .inr (82, 0)] h (am_I 2) h1 := by
  refine am_EvH.of (by decide +kernel) rfl rfl ?_
  change am_AtG _ _ _ _ _ 0 [_, _, _, _, _] [] _ _
  refine gm_aload_n dL_barge_0 rfl ?_
  refine gm_iconst 0 (v := 0) dL_barge_1 (by decide) ?_
  refine gm_aload_n dL_barge_2 rfl ?_
  refine gm_iload_n dL_barge_3 rfl ?_
  refine gm_iload_n dL_barge_4 rfl ?_
  refine gm_callVC (r' := (am_nc h, am_ns h)) [_, _] dL_barge_5 ml_L_33 vm_X11_barge hs0 rfl (fun _ => zq _ rfl) (Nat.le_refl _) rfl E hsh (fun _ _ _ z => z) tk_barge_I (Nat.le_refl _) (Nat.le_refl _) (Nat.le_refl _) (Nat.le_refl _) (fun q => ?_)
  change am_AtG _ _ _ _ _ 17 [_, _, _, _, _] [_] _ _
  refine gm_astx dL_barge_17 (am_lb rfl) ?_
  refine gm_iconst 2 (v := 2) dL_barge_19 (by decide) ?_
  exact gm_iret dL_barge_20 rfl rfl (fun D cy A ad args s t hX hP hD hF => ⟨⟨_, _, ad, rfl, rfl, am_ag.rf (by first | exact congrArg List.length hsh | rfl), hP, hD⟩, hF⟩)
theorem hx_barge_N {d : Nat} {h h1 : am_H} {x1 x2 : Int32} (hs0 : h.1[0]? = some (11, 15, 0)) (hs82 : h.1[82]? = some (102, 1, 0)) (hsh : h1.1 = h.1) (E : am_Ev d mX11_barge [.inr (0, 0), am_I x1, am_I x2] h (.inr (lwN, h1))) : am_EvH (d + 1) [(0, 10, 13, 31), (0, 10, 17, 13)] mL_barge [.inr (0, 0), am_I x1, am_I x2, .inr (82, 0)] h (am_I 1) h1 := by
  refine am_EvH.of (by decide +kernel) rfl rfl ?_
  change am_AtG _ _ _ _ _ 0 [_, _, _, _, _] [] _ _
  refine gm_aload_n dL_barge_0 rfl ?_
  refine gm_iconst 0 (v := 0) dL_barge_1 (by decide) ?_
  refine gm_aload_n dL_barge_2 rfl ?_
  refine gm_iload_n dL_barge_3 rfl ?_
  refine gm_iload_n dL_barge_4 rfl ?_
  refine gm_callVC (r' := (am_nc h, am_ns h)) [_, _] dL_barge_5 ml_L_33 vm_X11_barge hs0 rfl (fun _ => zq _ rfl) (Nat.le_refl _) rfl E hsh (fun _ _ _ z => z) tk_barge_N (Nat.le_refl _) (Nat.le_refl _) (Nat.le_refl _) (Nat.le_refl _) (fun q => ?_)
  change am_AtG _ _ _ _ _ 13 [_, _, _, _, _] [_] _ _
  refine gm_astx dL_barge_13 (am_lb rfl) ?_
  refine gm_iconst 1 (v := 1) dL_barge_15 (by decide) ?_
  exact gm_iret dL_barge_16 rfl rfl (fun D cy A ad args s t hX hP hD hF => ⟨⟨_, _, ad, rfl, rfl, am_ag.rf (by first | exact congrArg List.length hsh | rfl), hP, hD⟩, hF⟩)
theorem hp_street {d : Nat} {h h1 : am_H} {x1 x2 : Int32} {v : Int32} (hs0 : h.1[0]? = some (11, 15, 0)) (hs82 : h.1[82]? = some (102, 1, 0)) (hsh : h1.1 = h.1) (E : am_Ev d mX11_street [.inr (0, 0), am_I x1, am_I x2] h (.inl (some (am_I v), h1))) : am_EvH (d + 1) [(0, 10, 13, 31), (0, 10, 17, 13)] mL_street [.inr (0, 0), am_I x1, am_I x2, .inr (82, 0)] h (am_I 0) (am_ur h1 82 0 (am_lc v)) := by
  refine am_EvH.of (by decide +kernel) rfl rfl ?_
  change am_AtG _ _ _ _ _ 0 [_, _, _, _, _] [] _ _
  refine gm_aload_n dL_street_0 rfl ?_
  refine gm_iconst 0 (v := 0) dL_street_1 (by decide) ?_
  refine gm_aload_n dL_street_2 rfl ?_
  refine gm_iload_n dL_street_3 rfl ?_
  refine gm_iload_n dL_street_4 rfl ?_
  refine gm_callV [_, _] dL_street_5 ml_L_36 vm_X11_street hs0 rfl (fun _ => zq _ rfl) (Nat.le_refl _) rfl E hsh ?_
  change am_AtG _ _ _ _ _ 8 [_, _, _, _, _] [_, _, _] _ _
  refine gm_i2l dL_street_8 ?_
  refine gm_last (x := v) dL_street_9 (hsh ▸ hs82) (am_lit rfl) ?_
  refine gm_goto (11) 21 dL_street_10 rfl ?_
  refine gm_iconst 0 (v := 0) dL_street_21 (by decide) ?_
  exact gm_iret dL_street_22 rfl rfl (fun D cy A ad args s t hX hP hD hF => ⟨⟨_, _, ad, rfl, rfl, am_ag.rf (by first | exact congrArg List.length hsh | rfl), hP, hD⟩, hF⟩)
theorem hx_street_I {d : Nat} {h h1 : am_H} {x1 x2 : Int32} (hs0 : h.1[0]? = some (11, 15, 0)) (hs82 : h.1[82]? = some (102, 1, 0)) (hsh : h1.1 = h.1) (E : am_Ev d mX11_street [.inr (0, 0), am_I x1, am_I x2] h (.inr (lwI, h1))) : am_EvH (d + 1) [(0, 10, 13, 31), (0, 10, 17, 13)] mL_street [.inr (0, 0), am_I x1, am_I x2, .inr (82, 0)] h (am_I 2) h1 := by
  refine am_EvH.of (by decide +kernel) rfl rfl ?_
  change am_AtG _ _ _ _ _ 0 [_, _, _, _, _] [] _ _
  refine gm_aload_n dL_street_0 rfl ?_
  refine gm_iconst 0 (v := 0) dL_street_1 (by decide) ?_
  refine gm_aload_n dL_street_2 rfl ?_
  refine gm_iload_n dL_street_3 rfl ?_
  refine gm_iload_n dL_street_4 rfl ?_
  refine gm_callVC (r' := (am_nc h, am_ns h)) [_, _] dL_street_5 ml_L_36 vm_X11_street hs0 rfl (fun _ => zq _ rfl) (Nat.le_refl _) rfl E hsh (fun _ _ _ z => z) tk_street_I (Nat.le_refl _) (Nat.le_refl _) (Nat.le_refl _) (Nat.le_refl _) (fun q => ?_)
  change am_AtG _ _ _ _ _ 17 [_, _, _, _, _] [_] _ _
  refine gm_astx dL_street_17 (am_lb rfl) ?_
  refine gm_iconst 2 (v := 2) dL_street_19 (by decide) ?_
  exact gm_iret dL_street_20 rfl rfl (fun D cy A ad args s t hX hP hD hF => ⟨⟨_, _, ad, rfl, rfl, am_ag.rf (by first | exact congrArg List.length hsh | rfl), hP, hD⟩, hF⟩)
theorem hx_street_N {d : Nat} {h h1 : am_H} {x1 x2 : Int32} (hs0 : h.1[0]? = some (11, 15, 0)) (hs82 : h.1[82]? = some (102, 1, 0)) (hsh : h1.1 = h.1) (E : am_Ev d mX11_street [.inr (0, 0), am_I x1, am_I x2] h (.inr (lwN, h1))) : am_EvH (d + 1) [(0, 10, 13, 31), (0, 10, 17, 13)] mL_street [.inr (0, 0), am_I x1, am_I x2, .inr (82, 0)] h (am_I 1) h1 := by
  refine am_EvH.of (by decide +kernel) rfl rfl ?_
  change am_AtG _ _ _ _ _ 0 [_, _, _, _, _] [] _ _
  refine gm_aload_n dL_street_0 rfl ?_
  refine gm_iconst 0 (v := 0) dL_street_1 (by decide) ?_
  refine gm_aload_n dL_street_2 rfl ?_
  refine gm_iload_n dL_street_3 rfl ?_
  refine gm_iload_n dL_street_4 rfl ?_
  refine gm_callVC (r' := (am_nc h, am_ns h)) [_, _] dL_street_5 ml_L_36 vm_X11_street hs0 rfl (fun _ => zq _ rfl) (Nat.le_refl _) rfl E hsh (fun _ _ _ z => z) tk_street_N (Nat.le_refl _) (Nat.le_refl _) (Nat.le_refl _) (Nat.le_refl _) (fun q => ?_)
  change am_AtG _ _ _ _ _ 13 [_, _, _, _, _] [_] _ _
  refine gm_astx dL_street_13 (am_lb rfl) ?_
  refine gm_iconst 1 (v := 1) dL_street_15 (by decide) ?_
  exact gm_iret dL_street_16 rfl rfl (fun D cy A ad args s t hX hP hD hF => ⟨⟨_, _, ad, rfl, rfl, am_ag.rf (by first | exact congrArg List.length hsh | rfl), hP, hD⟩, hF⟩)
theorem hp_lawful0 {d : Nat} {h h1 : am_H} {x1 x2 x3 : Int32} {v : Int32} (hv : v = 0) (hs0 : h.1[0]? = some (11, 15, 0)) (hs82 : h.1[82]? = some (102, 1, 0)) (hsh : h1.1 = h.1) (E : am_Ev d mX11_lawful [.inr (0, 0), am_I x1, am_I x2, am_I x3] h (.inl (some (am_I v), h1))) : am_EvH (d + 1) [(0, 19, 22, 31), (0, 19, 26, 13)] mL_lawful [.inr (0, 0), am_I x1, am_I x2, am_I x3, .inr (82, 0)] h (am_I 0) (am_ur h1 82 0 (am_lc 0)) := by
  refine am_EvH.of (by decide +kernel) rfl rfl ?_
  change am_AtG _ _ _ _ _ 0 [_, _, _, _, _, _] [] _ _
  refine gm_aload dL_lawful_0 rfl ?_
  refine gm_iconst 0 (v := 0) dL_lawful_2 (by decide) ?_
  refine gm_aload_n dL_lawful_3 rfl ?_
  refine gm_iload_n dL_lawful_4 rfl ?_
  refine gm_iload_n dL_lawful_5 rfl ?_
  refine gm_iload_n dL_lawful_6 rfl ?_
  refine gm_callV [_, _, _] dL_lawful_7 ml_L_39 vm_X11_lawful hs0 rfl (fun _ => zq _ rfl) (Nat.le_refl _) rfl E hsh ?_
  change am_AtG _ _ _ _ _ 10 [_, _, _, _, _, _] [_, _, _] _ _
  refine gm_if_eq (7) 17 dL_lawful_10 rfl (fun hc => ?_) (fun hc => ?_)
  · refine gm_lconst (v := Int32.toInt64 0) dL_lawful_17 (by decide) ?_
    refine gm_last (x := 0) dL_lawful_18 (hsh ▸ hs82) (am_lit rfl) ?_
    refine gm_goto (11) 30 dL_lawful_19 rfl ?_
    refine gm_iconst 0 (v := 0) dL_lawful_30 (by decide) ?_
    exact gm_iret dL_lawful_31 rfl rfl (fun D cy A ad args s t hX hP hD hF => ⟨⟨_, _, ad, rfl, rfl, am_ag.rf (by first | exact congrArg List.length hsh | rfl), hP, hD⟩, hF⟩)
  · exact absurd hv hc
theorem hp_lawful1 {d : Nat} {h h1 : am_H} {x1 x2 x3 : Int32} {v : Int32} (hv : ¬ v = 0) (hs0 : h.1[0]? = some (11, 15, 0)) (hs82 : h.1[82]? = some (102, 1, 0)) (hsh : h1.1 = h.1) (E : am_Ev d mX11_lawful [.inr (0, 0), am_I x1, am_I x2, am_I x3] h (.inl (some (am_I v), h1))) : am_EvH (d + 1) [(0, 19, 22, 31), (0, 19, 26, 13)] mL_lawful [.inr (0, 0), am_I x1, am_I x2, am_I x3, .inr (82, 0)] h (am_I 0) (am_ur h1 82 0 (am_lc 1)) := by
  refine am_EvH.of (by decide +kernel) rfl rfl ?_
  change am_AtG _ _ _ _ _ 0 [_, _, _, _, _, _] [] _ _
  refine gm_aload dL_lawful_0 rfl ?_
  refine gm_iconst 0 (v := 0) dL_lawful_2 (by decide) ?_
  refine gm_aload_n dL_lawful_3 rfl ?_
  refine gm_iload_n dL_lawful_4 rfl ?_
  refine gm_iload_n dL_lawful_5 rfl ?_
  refine gm_iload_n dL_lawful_6 rfl ?_
  refine gm_callV [_, _, _] dL_lawful_7 ml_L_39 vm_X11_lawful hs0 rfl (fun _ => zq _ rfl) (Nat.le_refl _) rfl E hsh ?_
  change am_AtG _ _ _ _ _ 10 [_, _, _, _, _, _] [_, _, _] _ _
  refine gm_if_eq (7) 17 dL_lawful_10 rfl (fun hc => ?_) (fun hc => ?_)
  · exact absurd hc hv
  · refine gm_lconst (v := Int32.toInt64 1) dL_lawful_13 (by decide) ?_
    refine gm_goto (4) 18 dL_lawful_14 rfl ?_
    refine gm_last (x := 1) dL_lawful_18 (hsh ▸ hs82) (am_lit rfl) ?_
    refine gm_goto (11) 30 dL_lawful_19 rfl ?_
    refine gm_iconst 0 (v := 0) dL_lawful_30 (by decide) ?_
    exact gm_iret dL_lawful_31 rfl rfl (fun D cy A ad args s t hX hP hD hF => ⟨⟨_, _, ad, rfl, rfl, am_ag.rf (by first | exact congrArg List.length hsh | rfl), hP, hD⟩, hF⟩)
theorem hx_lawful_I {d : Nat} {h h1 : am_H} {x1 x2 x3 : Int32} (hs0 : h.1[0]? = some (11, 15, 0)) (hs82 : h.1[82]? = some (102, 1, 0)) (hsh : h1.1 = h.1) (E : am_Ev d mX11_lawful [.inr (0, 0), am_I x1, am_I x2, am_I x3] h (.inr (lwI, h1))) : am_EvH (d + 1) [(0, 19, 22, 31), (0, 19, 26, 13)] mL_lawful [.inr (0, 0), am_I x1, am_I x2, am_I x3, .inr (82, 0)] h (am_I 2) h1 := by
  refine am_EvH.of (by decide +kernel) rfl rfl ?_
  change am_AtG _ _ _ _ _ 0 [_, _, _, _, _, _] [] _ _
  refine gm_aload dL_lawful_0 rfl ?_
  refine gm_iconst 0 (v := 0) dL_lawful_2 (by decide) ?_
  refine gm_aload_n dL_lawful_3 rfl ?_
  refine gm_iload_n dL_lawful_4 rfl ?_
  refine gm_iload_n dL_lawful_5 rfl ?_
  refine gm_iload_n dL_lawful_6 rfl ?_
  refine gm_callVC (r' := (am_nc h, am_ns h)) [_, _, _] dL_lawful_7 ml_L_39 vm_X11_lawful hs0 rfl (fun _ => zq _ rfl) (Nat.le_refl _) rfl E hsh (fun _ _ _ z => z) tk_lawful_I (Nat.le_refl _) (Nat.le_refl _) (Nat.le_refl _) (Nat.le_refl _) (fun q => ?_)
  change am_AtG _ _ _ _ _ 26 [_, _, _, _, _, _] [_] _ _
  refine gm_astx dL_lawful_26 (am_lb rfl) ?_
  refine gm_iconst 2 (v := 2) dL_lawful_28 (by decide) ?_
  exact gm_iret dL_lawful_29 rfl rfl (fun D cy A ad args s t hX hP hD hF => ⟨⟨_, _, ad, rfl, rfl, am_ag.rf (by first | exact congrArg List.length hsh | rfl), hP, hD⟩, hF⟩)
theorem hx_lawful_N {d : Nat} {h h1 : am_H} {x1 x2 x3 : Int32} (hs0 : h.1[0]? = some (11, 15, 0)) (hs82 : h.1[82]? = some (102, 1, 0)) (hsh : h1.1 = h.1) (E : am_Ev d mX11_lawful [.inr (0, 0), am_I x1, am_I x2, am_I x3] h (.inr (lwN, h1))) : am_EvH (d + 1) [(0, 19, 22, 31), (0, 19, 26, 13)] mL_lawful [.inr (0, 0), am_I x1, am_I x2, am_I x3, .inr (82, 0)] h (am_I 1) h1 := by
  refine am_EvH.of (by decide +kernel) rfl rfl ?_
  change am_AtG _ _ _ _ _ 0 [_, _, _, _, _, _] [] _ _
  refine gm_aload dL_lawful_0 rfl ?_
  refine gm_iconst 0 (v := 0) dL_lawful_2 (by decide) ?_
  refine gm_aload_n dL_lawful_3 rfl ?_
  refine gm_iload_n dL_lawful_4 rfl ?_
  refine gm_iload_n dL_lawful_5 rfl ?_
  refine gm_iload_n dL_lawful_6 rfl ?_
  refine gm_callVC (r' := (am_nc h, am_ns h)) [_, _, _] dL_lawful_7 ml_L_39 vm_X11_lawful hs0 rfl (fun _ => zq _ rfl) (Nat.le_refl _) rfl E hsh (fun _ _ _ z => z) tk_lawful_N (Nat.le_refl _) (Nat.le_refl _) (Nat.le_refl _) (Nat.le_refl _) (fun q => ?_)
  change am_AtG _ _ _ _ _ 22 [_, _, _, _, _, _] [_] _ _
  refine gm_astx dL_lawful_22 (am_lb rfl) ?_
  refine gm_iconst 1 (v := 1) dL_lawful_24 (by decide) ?_
  exact gm_iret dL_lawful_25 rfl rfl (fun D cy A ad args s t hX hP hD hF => ⟨⟨_, _, ad, rfl, rfl, am_ag.rf (by first | exact congrArg List.length hsh | rfl), hP, hD⟩, hF⟩)
theorem hp_opens {d : Nat} {h h1 : am_H} {x1 : Int32} {v : Int32} (hs0 : h.1[0]? = some (11, 15, 0)) (hs82 : h.1[82]? = some (102, 1, 0)) (hsh : h1.1 = h.1) (E : am_Ev d mX11_opens [.inr (0, 0), am_I x1] h (.inl (some (am_I v), h1))) : am_EvH (d + 1) [(0, 9, 12, 31)] mL_opens [.inr (0, 0), am_I x1, .inr (82, 0)] h (am_I 0) (am_ur h1 82 0 (am_lc v)) := by
  refine am_EvH.of (by decide +kernel) rfl rfl ?_
  change am_AtG _ _ _ _ _ 0 [_, _, _, _] [] _ _
  refine gm_aload_n dL_opens_0 rfl ?_
  refine gm_iconst 0 (v := 0) dL_opens_1 (by decide) ?_
  refine gm_aload_n dL_opens_2 rfl ?_
  refine gm_iload_n dL_opens_3 rfl ?_
  refine gm_callV [_] dL_opens_4 ml_L_43 vm_X11_opens hs0 rfl (fun _ => zq _ rfl) (Nat.le_refl _) rfl E hsh ?_
  change am_AtG _ _ _ _ _ 7 [_, _, _, _] [_, _, _] _ _
  refine gm_i2l dL_opens_7 ?_
  refine gm_last (x := v) dL_opens_8 (hsh ▸ hs82) (am_lit rfl) ?_
  refine gm_goto (6) 15 dL_opens_9 rfl ?_
  refine gm_iconst 0 (v := 0) dL_opens_15 (by decide) ?_
  exact gm_iret dL_opens_16 rfl rfl (fun D cy A ad args s t hX hP hD hF => ⟨⟨_, _, ad, rfl, rfl, am_ag.rf (by first | exact congrArg List.length hsh | rfl), hP, hD⟩, hF⟩)
theorem hx_opens_N {d : Nat} {h h1 : am_H} {x1 : Int32} (hs0 : h.1[0]? = some (11, 15, 0)) (hs82 : h.1[82]? = some (102, 1, 0)) (hsh : h1.1 = h.1) (E : am_Ev d mX11_opens [.inr (0, 0), am_I x1] h (.inr (lwN, h1))) : am_EvH (d + 1) [(0, 9, 12, 31)] mL_opens [.inr (0, 0), am_I x1, .inr (82, 0)] h (am_I 1) h1 := by
  refine am_EvH.of (by decide +kernel) rfl rfl ?_
  change am_AtG _ _ _ _ _ 0 [_, _, _, _] [] _ _
  refine gm_aload_n dL_opens_0 rfl ?_
  refine gm_iconst 0 (v := 0) dL_opens_1 (by decide) ?_
  refine gm_aload_n dL_opens_2 rfl ?_
  refine gm_iload_n dL_opens_3 rfl ?_
  refine gm_callVC (r' := (am_nc h, am_ns h)) [_] dL_opens_4 ml_L_43 vm_X11_opens hs0 rfl (fun _ => zq _ rfl) (Nat.le_refl _) rfl E hsh (fun _ _ _ z => z) tk_opens_N (Nat.le_refl _) (Nat.le_refl _) (Nat.le_refl _) (Nat.le_refl _) (fun q => ?_)
  change am_AtG _ _ _ _ _ 12 [_, _, _, _] [_] _ _
  refine gm_astx_n dL_opens_12 (am_lb rfl) ?_
  refine gm_iconst 1 (v := 1) dL_opens_13 (by decide) ?_
  exact gm_iret dL_opens_14 rfl rfl (fun D cy A ad args s t hX hP hD hF => ⟨⟨_, _, ad, rfl, rfl, am_ag.rf (by first | exact congrArg List.length hsh | rfl), hP, hD⟩, hF⟩)
theorem hp_often {d : Nat} {h h1 : am_H} {x1 x2 : Int32} {v : Int32} (hs0 : h.1[0]? = some (11, 15, 0)) (hs82 : h.1[82]? = some (102, 1, 0)) (hsh : h1.1 = h.1) (E : am_Ev d mX11_often [.inr (0, 0), am_I x1, am_I x2] h (.inl (some (am_I v), h1))) : am_EvH (d + 1) [(0, 10, 13, 31), (0, 10, 17, 13)] mL_often [.inr (0, 0), am_I x1, am_I x2, .inr (82, 0)] h (am_I 0) (am_ur h1 82 0 (am_lc v)) := by
  refine am_EvH.of (by decide +kernel) rfl rfl ?_
  change am_AtG _ _ _ _ _ 0 [_, _, _, _, _] [] _ _
  refine gm_aload_n dL_often_0 rfl ?_
  refine gm_iconst 0 (v := 0) dL_often_1 (by decide) ?_
  refine gm_aload_n dL_often_2 rfl ?_
  refine gm_iload_n dL_often_3 rfl ?_
  refine gm_iload_n dL_often_4 rfl ?_
  refine gm_callV [_, _] dL_often_5 ml_L_46 vm_X11_often hs0 rfl (fun _ => zq _ rfl) (Nat.le_refl _) rfl E hsh ?_
  change am_AtG _ _ _ _ _ 8 [_, _, _, _, _] [_, _, _] _ _
  refine gm_i2l dL_often_8 ?_
  refine gm_last (x := v) dL_often_9 (hsh ▸ hs82) (am_lit rfl) ?_
  refine gm_goto (11) 21 dL_often_10 rfl ?_
  refine gm_iconst 0 (v := 0) dL_often_21 (by decide) ?_
  exact gm_iret dL_often_22 rfl rfl (fun D cy A ad args s t hX hP hD hF => ⟨⟨_, _, ad, rfl, rfl, am_ag.rf (by first | exact congrArg List.length hsh | rfl), hP, hD⟩, hF⟩)
theorem hx_often_I {d : Nat} {h h1 : am_H} {x1 x2 : Int32} (hs0 : h.1[0]? = some (11, 15, 0)) (hs82 : h.1[82]? = some (102, 1, 0)) (hsh : h1.1 = h.1) (E : am_Ev d mX11_often [.inr (0, 0), am_I x1, am_I x2] h (.inr (lwI, h1))) : am_EvH (d + 1) [(0, 10, 13, 31), (0, 10, 17, 13)] mL_often [.inr (0, 0), am_I x1, am_I x2, .inr (82, 0)] h (am_I 2) h1 := by
  refine am_EvH.of (by decide +kernel) rfl rfl ?_
  change am_AtG _ _ _ _ _ 0 [_, _, _, _, _] [] _ _
  refine gm_aload_n dL_often_0 rfl ?_
  refine gm_iconst 0 (v := 0) dL_often_1 (by decide) ?_
  refine gm_aload_n dL_often_2 rfl ?_
  refine gm_iload_n dL_often_3 rfl ?_
  refine gm_iload_n dL_often_4 rfl ?_
  refine gm_callVC (r' := (am_nc h, am_ns h)) [_, _] dL_often_5 ml_L_46 vm_X11_often hs0 rfl (fun _ => zq _ rfl) (Nat.le_refl _) rfl E hsh (fun _ _ _ z => z) tk_often_I (Nat.le_refl _) (Nat.le_refl _) (Nat.le_refl _) (Nat.le_refl _) (fun q => ?_)
  change am_AtG _ _ _ _ _ 17 [_, _, _, _, _] [_] _ _
  refine gm_astx dL_often_17 (am_lb rfl) ?_
  refine gm_iconst 2 (v := 2) dL_often_19 (by decide) ?_
  exact gm_iret dL_often_20 rfl rfl (fun D cy A ad args s t hX hP hD hF => ⟨⟨_, _, ad, rfl, rfl, am_ag.rf (by first | exact congrArg List.length hsh | rfl), hP, hD⟩, hF⟩)
theorem hx_often_N {d : Nat} {h h1 : am_H} {x1 x2 : Int32} (hs0 : h.1[0]? = some (11, 15, 0)) (hs82 : h.1[82]? = some (102, 1, 0)) (hsh : h1.1 = h.1) (E : am_Ev d mX11_often [.inr (0, 0), am_I x1, am_I x2] h (.inr (lwN, h1))) : am_EvH (d + 1) [(0, 10, 13, 31), (0, 10, 17, 13)] mL_often [.inr (0, 0), am_I x1, am_I x2, .inr (82, 0)] h (am_I 1) h1 := by
  refine am_EvH.of (by decide +kernel) rfl rfl ?_
  change am_AtG _ _ _ _ _ 0 [_, _, _, _, _] [] _ _
  refine gm_aload_n dL_often_0 rfl ?_
  refine gm_iconst 0 (v := 0) dL_often_1 (by decide) ?_
  refine gm_aload_n dL_often_2 rfl ?_
  refine gm_iload_n dL_often_3 rfl ?_
  refine gm_iload_n dL_often_4 rfl ?_
  refine gm_callVC (r' := (am_nc h, am_ns h)) [_, _] dL_often_5 ml_L_46 vm_X11_often hs0 rfl (fun _ => zq _ rfl) (Nat.le_refl _) rfl E hsh (fun _ _ _ z => z) tk_often_N (Nat.le_refl _) (Nat.le_refl _) (Nat.le_refl _) (Nat.le_refl _) (fun q => ?_)
  change am_AtG _ _ _ _ _ 13 [_, _, _, _, _] [_] _ _
  refine gm_astx dL_often_13 (am_lb rfl) ?_
  refine gm_iconst 1 (v := 1) dL_often_15 (by decide) ?_
  exact gm_iret dL_often_16 rfl rfl (fun D cy A ad args s t hX hP hD hF => ⟨⟨_, _, ad, rfl, rfl, am_ag.rf (by first | exact congrArg List.length hsh | rfl), hP, hD⟩, hF⟩)
theorem hp_trip {d : Nat} {h h1 : am_H} {x1 x2 x3 : Int32} {v : Int32} (hs0 : h.1[0]? = some (11, 15, 0)) (hs82 : h.1[82]? = some (102, 1, 0)) (hsh : h1.1 = h.1) (E : am_Ev d mX11_trip [.inr (0, 0), am_I x1, am_I x2, am_I x3] h (.inl (some (am_I v), h1))) : am_EvH (d + 1) [(0, 12, 15, 13)] mL_trip [.inr (0, 0), am_I x1, am_I x2, am_I x3, .inr (82, 0)] h (am_I 0) (am_ur h1 82 0 (am_lc v)) := by
  refine am_EvH.of (by decide +kernel) rfl rfl ?_
  change am_AtG _ _ _ _ _ 0 [_, _, _, _, _, _] [] _ _
  refine gm_aload dL_trip_0 rfl ?_
  refine gm_iconst 0 (v := 0) dL_trip_2 (by decide) ?_
  refine gm_aload_n dL_trip_3 rfl ?_
  refine gm_iload_n dL_trip_4 rfl ?_
  refine gm_iload_n dL_trip_5 rfl ?_
  refine gm_iload_n dL_trip_6 rfl ?_
  refine gm_callV [_, _, _] dL_trip_7 ml_L_49 vm_X11_trip hs0 rfl (fun _ => zq _ rfl) (Nat.le_refl _) rfl E hsh ?_
  change am_AtG _ _ _ _ _ 10 [_, _, _, _, _, _] [_, _, _] _ _
  refine gm_i2l dL_trip_10 ?_
  refine gm_last (x := v) dL_trip_11 (hsh ▸ hs82) (am_lit rfl) ?_
  refine gm_goto (7) 19 dL_trip_12 rfl ?_
  refine gm_iconst 0 (v := 0) dL_trip_19 (by decide) ?_
  exact gm_iret dL_trip_20 rfl rfl (fun D cy A ad args s t hX hP hD hF => ⟨⟨_, _, ad, rfl, rfl, am_ag.rf (by first | exact congrArg List.length hsh | rfl), hP, hD⟩, hF⟩)
theorem hx_trip_I {d : Nat} {h h1 : am_H} {x1 x2 x3 : Int32} (hs0 : h.1[0]? = some (11, 15, 0)) (hs82 : h.1[82]? = some (102, 1, 0)) (hsh : h1.1 = h.1) (E : am_Ev d mX11_trip [.inr (0, 0), am_I x1, am_I x2, am_I x3] h (.inr (lwI, h1))) : am_EvH (d + 1) [(0, 12, 15, 13)] mL_trip [.inr (0, 0), am_I x1, am_I x2, am_I x3, .inr (82, 0)] h (am_I 1) h1 := by
  refine am_EvH.of (by decide +kernel) rfl rfl ?_
  change am_AtG _ _ _ _ _ 0 [_, _, _, _, _, _] [] _ _
  refine gm_aload dL_trip_0 rfl ?_
  refine gm_iconst 0 (v := 0) dL_trip_2 (by decide) ?_
  refine gm_aload_n dL_trip_3 rfl ?_
  refine gm_iload_n dL_trip_4 rfl ?_
  refine gm_iload_n dL_trip_5 rfl ?_
  refine gm_iload_n dL_trip_6 rfl ?_
  refine gm_callVC (r' := (am_nc h, am_ns h)) [_, _, _] dL_trip_7 ml_L_49 vm_X11_trip hs0 rfl (fun _ => zq _ rfl) (Nat.le_refl _) rfl E hsh (fun _ _ _ z => z) tk_trip_I (Nat.le_refl _) (Nat.le_refl _) (Nat.le_refl _) (Nat.le_refl _) (fun q => ?_)
  change am_AtG _ _ _ _ _ 15 [_, _, _, _, _, _] [_] _ _
  refine gm_astx dL_trip_15 (am_lb rfl) ?_
  refine gm_iconst 1 (v := 1) dL_trip_17 (by decide) ?_
  exact gm_iret dL_trip_18 rfl rfl (fun D cy A ad args s t hX hP hD hF => ⟨⟨_, _, ad, rfl, rfl, am_ag.rf (by first | exact congrArg List.length hsh | rfl), hP, hD⟩, hF⟩)
theorem hp_soonest {d : Nat} {h h1 : am_H} {x1 x2 x3 : Int32} {v : Int32} (hs0 : h.1[0]? = some (11, 15, 0)) (hs82 : h.1[82]? = some (102, 1, 0)) (hsh : h1.1 = h.1) (E : am_Ev d mX11_soonest [.inr (0, 0), am_I x1, am_I x2, am_I x3] h (.inl (some (am_I v), h1))) : am_EvH (d + 1) [(0, 12, 15, 13)] mL_soonest [.inr (0, 0), am_I x1, am_I x2, am_I x3, .inr (82, 0)] h (am_I 0) (am_ur h1 82 0 (am_lc v)) := by
  refine am_EvH.of (by decide +kernel) rfl rfl ?_
  change am_AtG _ _ _ _ _ 0 [_, _, _, _, _, _] [] _ _
  refine gm_aload dL_soonest_0 rfl ?_
  refine gm_iconst 0 (v := 0) dL_soonest_2 (by decide) ?_
  refine gm_aload_n dL_soonest_3 rfl ?_
  refine gm_iload_n dL_soonest_4 rfl ?_
  refine gm_iload_n dL_soonest_5 rfl ?_
  refine gm_iload_n dL_soonest_6 rfl ?_
  refine gm_callV [_, _, _] dL_soonest_7 ml_L_53 vm_X11_soonest hs0 rfl (fun _ => zq _ rfl) (Nat.le_refl _) rfl E hsh ?_
  change am_AtG _ _ _ _ _ 10 [_, _, _, _, _, _] [_, _, _] _ _
  refine gm_i2l dL_soonest_10 ?_
  refine gm_last (x := v) dL_soonest_11 (hsh ▸ hs82) (am_lit rfl) ?_
  refine gm_goto (7) 19 dL_soonest_12 rfl ?_
  refine gm_iconst 0 (v := 0) dL_soonest_19 (by decide) ?_
  exact gm_iret dL_soonest_20 rfl rfl (fun D cy A ad args s t hX hP hD hF => ⟨⟨_, _, ad, rfl, rfl, am_ag.rf (by first | exact congrArg List.length hsh | rfl), hP, hD⟩, hF⟩)
theorem hx_soonest_I {d : Nat} {h h1 : am_H} {x1 x2 x3 : Int32} (hs0 : h.1[0]? = some (11, 15, 0)) (hs82 : h.1[82]? = some (102, 1, 0)) (hsh : h1.1 = h.1) (E : am_Ev d mX11_soonest [.inr (0, 0), am_I x1, am_I x2, am_I x3] h (.inr (lwI, h1))) : am_EvH (d + 1) [(0, 12, 15, 13)] mL_soonest [.inr (0, 0), am_I x1, am_I x2, am_I x3, .inr (82, 0)] h (am_I 1) h1 := by
  refine am_EvH.of (by decide +kernel) rfl rfl ?_
  change am_AtG _ _ _ _ _ 0 [_, _, _, _, _, _] [] _ _
  refine gm_aload dL_soonest_0 rfl ?_
  refine gm_iconst 0 (v := 0) dL_soonest_2 (by decide) ?_
  refine gm_aload_n dL_soonest_3 rfl ?_
  refine gm_iload_n dL_soonest_4 rfl ?_
  refine gm_iload_n dL_soonest_5 rfl ?_
  refine gm_iload_n dL_soonest_6 rfl ?_
  refine gm_callVC (r' := (am_nc h, am_ns h)) [_, _, _] dL_soonest_7 ml_L_53 vm_X11_soonest hs0 rfl (fun _ => zq _ rfl) (Nat.le_refl _) rfl E hsh (fun _ _ _ z => z) tk_soonest_I (Nat.le_refl _) (Nat.le_refl _) (Nat.le_refl _) (Nat.le_refl _) (fun q => ?_)
  change am_AtG _ _ _ _ _ 15 [_, _, _, _, _, _] [_] _ _
  refine gm_astx dL_soonest_15 (am_lb rfl) ?_
  refine gm_iconst 1 (v := 1) dL_soonest_17 (by decide) ?_
  exact gm_iret dL_soonest_18 rfl rfl (fun D cy A ad args s t hX hP hD hF => ⟨⟨_, _, ad, rfl, rfl, am_ag.rf (by first | exact congrArg List.length hsh | rfl), hP, hD⟩, hF⟩)
theorem hp_hold {d : Nat} {h h1 : am_H} {x1 x2 : Int32} {v : Int32} (hs0 : h.1[0]? = some (11, 15, 0)) (hs82 : h.1[82]? = some (102, 1, 0)) (hsh : h1.1 = h.1) (E : am_Ev d mX11_hold [.inr (0, 0), am_I x1, am_I x2] h (.inl (some (am_I v), h1))) : am_EvH (d + 1) [(0, 10, 13, 13)] mL_hold [.inr (0, 0), am_I x1, am_I x2, .inr (82, 0)] h (am_I 0) (am_ur h1 82 0 (am_lc v)) := by
  refine am_EvH.of (by decide +kernel) rfl rfl ?_
  change am_AtG _ _ _ _ _ 0 [_, _, _, _, _] [] _ _
  refine gm_aload_n dL_hold_0 rfl ?_
  refine gm_iconst 0 (v := 0) dL_hold_1 (by decide) ?_
  refine gm_aload_n dL_hold_2 rfl ?_
  refine gm_iload_n dL_hold_3 rfl ?_
  refine gm_iload_n dL_hold_4 rfl ?_
  refine gm_callV [_, _] dL_hold_5 ml_L_56 vm_X11_hold hs0 rfl (fun _ => zq _ rfl) (Nat.le_refl _) rfl E hsh ?_
  change am_AtG _ _ _ _ _ 8 [_, _, _, _, _] [_, _, _] _ _
  refine gm_i2l dL_hold_8 ?_
  refine gm_last (x := v) dL_hold_9 (hsh ▸ hs82) (am_lit rfl) ?_
  refine gm_goto (7) 17 dL_hold_10 rfl ?_
  refine gm_iconst 0 (v := 0) dL_hold_17 (by decide) ?_
  exact gm_iret dL_hold_18 rfl rfl (fun D cy A ad args s t hX hP hD hF => ⟨⟨_, _, ad, rfl, rfl, am_ag.rf (by first | exact congrArg List.length hsh | rfl), hP, hD⟩, hF⟩)
theorem hx_hold_I {d : Nat} {h h1 : am_H} {x1 x2 : Int32} (hs0 : h.1[0]? = some (11, 15, 0)) (hs82 : h.1[82]? = some (102, 1, 0)) (hsh : h1.1 = h.1) (E : am_Ev d mX11_hold [.inr (0, 0), am_I x1, am_I x2] h (.inr (lwI, h1))) : am_EvH (d + 1) [(0, 10, 13, 13)] mL_hold [.inr (0, 0), am_I x1, am_I x2, .inr (82, 0)] h (am_I 1) h1 := by
  refine am_EvH.of (by decide +kernel) rfl rfl ?_
  change am_AtG _ _ _ _ _ 0 [_, _, _, _, _] [] _ _
  refine gm_aload_n dL_hold_0 rfl ?_
  refine gm_iconst 0 (v := 0) dL_hold_1 (by decide) ?_
  refine gm_aload_n dL_hold_2 rfl ?_
  refine gm_iload_n dL_hold_3 rfl ?_
  refine gm_iload_n dL_hold_4 rfl ?_
  refine gm_callVC (r' := (am_nc h, am_ns h)) [_, _] dL_hold_5 ml_L_56 vm_X11_hold hs0 rfl (fun _ => zq _ rfl) (Nat.le_refl _) rfl E hsh (fun _ _ _ z => z) tk_hold_I (Nat.le_refl _) (Nat.le_refl _) (Nat.le_refl _) (Nat.le_refl _) (fun q => ?_)
  change am_AtG _ _ _ _ _ 13 [_, _, _, _, _] [_] _ _
  refine gm_astx dL_hold_13 (am_lb rfl) ?_
  refine gm_iconst 1 (v := 1) dL_hold_15 (by decide) ?_
  exact gm_iret dL_hold_16 rfl rfl (fun D cy A ad args s t hX hP hD hF => ⟨⟨_, _, ad, rfl, rfl, am_ag.rf (by first | exact congrArg List.length hsh | rfl), hP, hD⟩, hF⟩)
theorem hp_tallest {d : Nat} {h h1 : am_H} {x1 : Int32} {v : Int32} (hs0 : h.1[0]? = some (11, 15, 0)) (hs82 : h.1[82]? = some (102, 1, 0)) (hsh : h1.1 = h.1) (E : am_Ev d mX11_tallest [.inr (0, 0), am_I x1] h (.inl (some (am_I v), h1))) : am_EvH (d + 1) [(0, 9, 12, 13)] mL_tallest [.inr (0, 0), am_I x1, .inr (82, 0)] h (am_I 0) (am_ur h1 82 0 (am_lc v)) := by
  refine am_EvH.of (by decide +kernel) rfl rfl ?_
  change am_AtG _ _ _ _ _ 0 [_, _, _, _] [] _ _
  refine gm_aload_n dL_tallest_0 rfl ?_
  refine gm_iconst 0 (v := 0) dL_tallest_1 (by decide) ?_
  refine gm_aload_n dL_tallest_2 rfl ?_
  refine gm_iload_n dL_tallest_3 rfl ?_
  refine gm_callV [_] dL_tallest_4 ml_L_59 vm_X11_tallest hs0 rfl (fun _ => zq _ rfl) (Nat.le_refl _) rfl E hsh ?_
  change am_AtG _ _ _ _ _ 7 [_, _, _, _] [_, _, _] _ _
  refine gm_i2l dL_tallest_7 ?_
  refine gm_last (x := v) dL_tallest_8 (hsh ▸ hs82) (am_lit rfl) ?_
  refine gm_goto (6) 15 dL_tallest_9 rfl ?_
  refine gm_iconst 0 (v := 0) dL_tallest_15 (by decide) ?_
  exact gm_iret dL_tallest_16 rfl rfl (fun D cy A ad args s t hX hP hD hF => ⟨⟨_, _, ad, rfl, rfl, am_ag.rf (by first | exact congrArg List.length hsh | rfl), hP, hD⟩, hF⟩)
theorem hx_tallest_I {d : Nat} {h h1 : am_H} {x1 : Int32} (hs0 : h.1[0]? = some (11, 15, 0)) (hs82 : h.1[82]? = some (102, 1, 0)) (hsh : h1.1 = h.1) (E : am_Ev d mX11_tallest [.inr (0, 0), am_I x1] h (.inr (lwI, h1))) : am_EvH (d + 1) [(0, 9, 12, 13)] mL_tallest [.inr (0, 0), am_I x1, .inr (82, 0)] h (am_I 1) h1 := by
  refine am_EvH.of (by decide +kernel) rfl rfl ?_
  change am_AtG _ _ _ _ _ 0 [_, _, _, _] [] _ _
  refine gm_aload_n dL_tallest_0 rfl ?_
  refine gm_iconst 0 (v := 0) dL_tallest_1 (by decide) ?_
  refine gm_aload_n dL_tallest_2 rfl ?_
  refine gm_iload_n dL_tallest_3 rfl ?_
  refine gm_callVC (r' := (am_nc h, am_ns h)) [_] dL_tallest_4 ml_L_59 vm_X11_tallest hs0 rfl (fun _ => zq _ rfl) (Nat.le_refl _) rfl E hsh (fun _ _ _ z => z) tk_tallest_I (Nat.le_refl _) (Nat.le_refl _) (Nat.le_refl _) (Nat.le_refl _) (fun q => ?_)
  change am_AtG _ _ _ _ _ 12 [_, _, _, _] [_] _ _
  refine gm_astx_n dL_tallest_12 (am_lb rfl) ?_
  refine gm_iconst 1 (v := 1) dL_tallest_13 (by decide) ?_
  exact gm_iret dL_tallest_14 rfl rfl (fun D cy A ad args s t hX hP hD hF => ⟨⟨_, _, ad, rfl, rfl, am_ag.rf (by first | exact congrArg List.length hsh | rfl), hP, hD⟩, hF⟩)
theorem hp_letter {d : Nat} {h h1 : am_H} {x1 x2 : Int32} {v : Int32} (hs0 : h.1[0]? = some (11, 15, 0)) (hs82 : h.1[82]? = some (102, 1, 0)) (hsh : h1.1 = h.1) (E : am_Ev d mX11_letter [.inr (0, 0), am_I x1, am_I x2] h (.inl (some (am_I v), h1))) : am_EvH (d + 1) [(0, 10, 13, 31), (0, 10, 17, 13)] mL_letter [.inr (0, 0), am_I x1, am_I x2, .inr (82, 0)] h (am_I 0) (am_ur h1 82 0 (am_lc v)) := by
  refine am_EvH.of (by decide +kernel) rfl rfl ?_
  change am_AtG _ _ _ _ _ 0 [_, _, _, _, _] [] _ _
  refine gm_aload_n dL_letter_0 rfl ?_
  refine gm_iconst 0 (v := 0) dL_letter_1 (by decide) ?_
  refine gm_aload_n dL_letter_2 rfl ?_
  refine gm_iload_n dL_letter_3 rfl ?_
  refine gm_iload_n dL_letter_4 rfl ?_
  refine gm_callV [_, _] dL_letter_5 ml_L_62 vm_X11_letter hs0 rfl (fun _ => zq _ rfl) (Nat.le_refl _) rfl E hsh ?_
  change am_AtG _ _ _ _ _ 8 [_, _, _, _, _] [_, _, _] _ _
  refine gm_i2l dL_letter_8 ?_
  refine gm_last (x := v) dL_letter_9 (hsh ▸ hs82) (am_lit rfl) ?_
  refine gm_goto (11) 21 dL_letter_10 rfl ?_
  refine gm_iconst 0 (v := 0) dL_letter_21 (by decide) ?_
  exact gm_iret dL_letter_22 rfl rfl (fun D cy A ad args s t hX hP hD hF => ⟨⟨_, _, ad, rfl, rfl, am_ag.rf (by first | exact congrArg List.length hsh | rfl), hP, hD⟩, hF⟩)
theorem hx_letter_I {d : Nat} {h h1 : am_H} {x1 x2 : Int32} (hs0 : h.1[0]? = some (11, 15, 0)) (hs82 : h.1[82]? = some (102, 1, 0)) (hsh : h1.1 = h.1) (E : am_Ev d mX11_letter [.inr (0, 0), am_I x1, am_I x2] h (.inr (lwI, h1))) : am_EvH (d + 1) [(0, 10, 13, 31), (0, 10, 17, 13)] mL_letter [.inr (0, 0), am_I x1, am_I x2, .inr (82, 0)] h (am_I 2) h1 := by
  refine am_EvH.of (by decide +kernel) rfl rfl ?_
  change am_AtG _ _ _ _ _ 0 [_, _, _, _, _] [] _ _
  refine gm_aload_n dL_letter_0 rfl ?_
  refine gm_iconst 0 (v := 0) dL_letter_1 (by decide) ?_
  refine gm_aload_n dL_letter_2 rfl ?_
  refine gm_iload_n dL_letter_3 rfl ?_
  refine gm_iload_n dL_letter_4 rfl ?_
  refine gm_callVC (r' := (am_nc h, am_ns h)) [_, _] dL_letter_5 ml_L_62 vm_X11_letter hs0 rfl (fun _ => zq _ rfl) (Nat.le_refl _) rfl E hsh (fun _ _ _ z => z) tk_letter_I (Nat.le_refl _) (Nat.le_refl _) (Nat.le_refl _) (Nat.le_refl _) (fun q => ?_)
  change am_AtG _ _ _ _ _ 17 [_, _, _, _, _] [_] _ _
  refine gm_astx dL_letter_17 (am_lb rfl) ?_
  refine gm_iconst 2 (v := 2) dL_letter_19 (by decide) ?_
  exact gm_iret dL_letter_20 rfl rfl (fun D cy A ad args s t hX hP hD hF => ⟨⟨_, _, ad, rfl, rfl, am_ag.rf (by first | exact congrArg List.length hsh | rfl), hP, hD⟩, hF⟩)
theorem hx_letter_N {d : Nat} {h h1 : am_H} {x1 x2 : Int32} (hs0 : h.1[0]? = some (11, 15, 0)) (hs82 : h.1[82]? = some (102, 1, 0)) (hsh : h1.1 = h.1) (E : am_Ev d mX11_letter [.inr (0, 0), am_I x1, am_I x2] h (.inr (lwN, h1))) : am_EvH (d + 1) [(0, 10, 13, 31), (0, 10, 17, 13)] mL_letter [.inr (0, 0), am_I x1, am_I x2, .inr (82, 0)] h (am_I 1) h1 := by
  refine am_EvH.of (by decide +kernel) rfl rfl ?_
  change am_AtG _ _ _ _ _ 0 [_, _, _, _, _] [] _ _
  refine gm_aload_n dL_letter_0 rfl ?_
  refine gm_iconst 0 (v := 0) dL_letter_1 (by decide) ?_
  refine gm_aload_n dL_letter_2 rfl ?_
  refine gm_iload_n dL_letter_3 rfl ?_
  refine gm_iload_n dL_letter_4 rfl ?_
  refine gm_callVC (r' := (am_nc h, am_ns h)) [_, _] dL_letter_5 ml_L_62 vm_X11_letter hs0 rfl (fun _ => zq _ rfl) (Nat.le_refl _) rfl E hsh (fun _ _ _ z => z) tk_letter_N (Nat.le_refl _) (Nat.le_refl _) (Nat.le_refl _) (Nat.le_refl _) (fun q => ?_)
  change am_AtG _ _ _ _ _ 13 [_, _, _, _, _] [_] _ _
  refine gm_astx dL_letter_13 (am_lb rfl) ?_
  refine gm_iconst 1 (v := 1) dL_letter_15 (by decide) ?_
  exact gm_iret dL_letter_16 rfl rfl (fun D cy A ad args s t hX hP hD hF => ⟨⟨_, _, ad, rfl, rfl, am_ag.rf (by first | exact congrArg List.length hsh | rfl), hP, hD⟩, hF⟩)
theorem hp_flood {d : Nat} {h h1 : am_H} {x1 : Int32} {v : Int32} (hs0 : h.1[0]? = some (11, 15, 0)) (hs82 : h.1[82]? = some (102, 1, 0)) (hsh : h1.1 = h.1) (E : am_Ev d mX11_flood [.inr (0, 0), am_I x1] h (.inl (some (am_I v), h1))) : am_EvH (d + 1) [(0, 9, 12, 13)] mL_flood [.inr (0, 0), am_I x1, .inr (82, 0)] h (am_I 0) (am_ur h1 82 0 (am_lc v)) := by
  refine am_EvH.of (by decide +kernel) rfl rfl ?_
  change am_AtG _ _ _ _ _ 0 [_, _, _, _] [] _ _
  refine gm_aload_n dL_flood_0 rfl ?_
  refine gm_iconst 0 (v := 0) dL_flood_1 (by decide) ?_
  refine gm_aload_n dL_flood_2 rfl ?_
  refine gm_iload_n dL_flood_3 rfl ?_
  refine gm_callV [_] dL_flood_4 ml_L_65 vm_X11_flood hs0 rfl (fun _ => zq _ rfl) (Nat.le_refl _) rfl E hsh ?_
  change am_AtG _ _ _ _ _ 7 [_, _, _, _] [_, _, _] _ _
  refine gm_i2l dL_flood_7 ?_
  refine gm_last (x := v) dL_flood_8 (hsh ▸ hs82) (am_lit rfl) ?_
  refine gm_goto (6) 15 dL_flood_9 rfl ?_
  refine gm_iconst 0 (v := 0) dL_flood_15 (by decide) ?_
  exact gm_iret dL_flood_16 rfl rfl (fun D cy A ad args s t hX hP hD hF => ⟨⟨_, _, ad, rfl, rfl, am_ag.rf (by first | exact congrArg List.length hsh | rfl), hP, hD⟩, hF⟩)
theorem hx_flood_I {d : Nat} {h h1 : am_H} {x1 : Int32} (hs0 : h.1[0]? = some (11, 15, 0)) (hs82 : h.1[82]? = some (102, 1, 0)) (hsh : h1.1 = h.1) (E : am_Ev d mX11_flood [.inr (0, 0), am_I x1] h (.inr (lwI, h1))) : am_EvH (d + 1) [(0, 9, 12, 13)] mL_flood [.inr (0, 0), am_I x1, .inr (82, 0)] h (am_I 1) h1 := by
  refine am_EvH.of (by decide +kernel) rfl rfl ?_
  change am_AtG _ _ _ _ _ 0 [_, _, _, _] [] _ _
  refine gm_aload_n dL_flood_0 rfl ?_
  refine gm_iconst 0 (v := 0) dL_flood_1 (by decide) ?_
  refine gm_aload_n dL_flood_2 rfl ?_
  refine gm_iload_n dL_flood_3 rfl ?_
  refine gm_callVC (r' := (am_nc h, am_ns h)) [_] dL_flood_4 ml_L_65 vm_X11_flood hs0 rfl (fun _ => zq _ rfl) (Nat.le_refl _) rfl E hsh (fun _ _ _ z => z) tk_flood_I (Nat.le_refl _) (Nat.le_refl _) (Nat.le_refl _) (Nat.le_refl _) (fun q => ?_)
  change am_AtG _ _ _ _ _ 12 [_, _, _, _] [_] _ _
  refine gm_astx_n dL_flood_12 (am_lb rfl) ?_
  refine gm_iconst 1 (v := 1) dL_flood_13 (by decide) ?_
  exact gm_iret dL_flood_14 rfl rfl (fun D cy A ad args s t hX hP hD hF => ⟨⟨_, _, ad, rfl, rfl, am_ag.rf (by first | exact congrArg List.length hsh | rfl), hP, hD⟩, hF⟩)
theorem hp_holds {d : Nat} {h h1 : am_H} {x1 : Int32} {v : Int32} (hs0 : h.1[0]? = some (11, 15, 0)) (hs82 : h.1[82]? = some (102, 1, 0)) (hsh : h1.1 = h.1) (E : am_Ev d mX11_holds [.inr (0, 0), am_I x1] h (.inl (some (am_I v), h1))) : am_EvH (d + 1) [(0, 9, 12, 13)] mL_holds [.inr (0, 0), am_I x1, .inr (82, 0)] h (am_I 0) (am_ur h1 82 0 (am_lc v)) := by
  refine am_EvH.of (by decide +kernel) rfl rfl ?_
  change am_AtG _ _ _ _ _ 0 [_, _, _, _] [] _ _
  refine gm_aload_n dL_holds_0 rfl ?_
  refine gm_iconst 0 (v := 0) dL_holds_1 (by decide) ?_
  refine gm_aload_n dL_holds_2 rfl ?_
  refine gm_iload_n dL_holds_3 rfl ?_
  refine gm_callV [_] dL_holds_4 ml_L_68 vm_X11_holds hs0 rfl (fun _ => zq _ rfl) (Nat.le_refl _) rfl E hsh ?_
  change am_AtG _ _ _ _ _ 7 [_, _, _, _] [_, _, _] _ _
  refine gm_i2l dL_holds_7 ?_
  refine gm_last (x := v) dL_holds_8 (hsh ▸ hs82) (am_lit rfl) ?_
  refine gm_goto (6) 15 dL_holds_9 rfl ?_
  refine gm_iconst 0 (v := 0) dL_holds_15 (by decide) ?_
  exact gm_iret dL_holds_16 rfl rfl (fun D cy A ad args s t hX hP hD hF => ⟨⟨_, _, ad, rfl, rfl, am_ag.rf (by first | exact congrArg List.length hsh | rfl), hP, hD⟩, hF⟩)
theorem hx_holds_I {d : Nat} {h h1 : am_H} {x1 : Int32} (hs0 : h.1[0]? = some (11, 15, 0)) (hs82 : h.1[82]? = some (102, 1, 0)) (hsh : h1.1 = h.1) (E : am_Ev d mX11_holds [.inr (0, 0), am_I x1] h (.inr (lwI, h1))) : am_EvH (d + 1) [(0, 9, 12, 13)] mL_holds [.inr (0, 0), am_I x1, .inr (82, 0)] h (am_I 1) h1 := by
  refine am_EvH.of (by decide +kernel) rfl rfl ?_
  change am_AtG _ _ _ _ _ 0 [_, _, _, _] [] _ _
  refine gm_aload_n dL_holds_0 rfl ?_
  refine gm_iconst 0 (v := 0) dL_holds_1 (by decide) ?_
  refine gm_aload_n dL_holds_2 rfl ?_
  refine gm_iload_n dL_holds_3 rfl ?_
  refine gm_callVC (r' := (am_nc h, am_ns h)) [_] dL_holds_4 ml_L_68 vm_X11_holds hs0 rfl (fun _ => zq _ rfl) (Nat.le_refl _) rfl E hsh (fun _ _ _ z => z) tk_holds_I (Nat.le_refl _) (Nat.le_refl _) (Nat.le_refl _) (Nat.le_refl _) (fun q => ?_)
  change am_AtG _ _ _ _ _ 12 [_, _, _, _] [_] _ _
  refine gm_astx_n dL_holds_12 (am_lb rfl) ?_
  refine gm_iconst 1 (v := 1) dL_holds_13 (by decide) ?_
  exact gm_iret dL_holds_14 rfl rfl (fun D cy A ad args s t hX hP hD hF => ⟨⟨_, _, ad, rfl, rfl, am_ag.rf (by first | exact congrArg List.length hsh | rfl), hP, hD⟩, hF⟩)
theorem hp_smells {d : Nat} {h h1 : am_H} {x1 x2 : Int32} {v : Int32} (hs0 : h.1[0]? = some (11, 15, 0)) (hs82 : h.1[82]? = some (102, 1, 0)) (hsh : h1.1 = h.1) (E : am_Ev d mX11_smells [.inr (0, 0), am_I x1, am_I x2] h (.inl (some (am_I v), h1))) : am_EvH (d + 1) [(0, 10, 13, 31), (0, 10, 17, 13)] mL_smells [.inr (0, 0), am_I x1, am_I x2, .inr (82, 0)] h (am_I 0) (am_ur h1 82 0 (am_lc v)) := by
  refine am_EvH.of (by decide +kernel) rfl rfl ?_
  change am_AtG _ _ _ _ _ 0 [_, _, _, _, _] [] _ _
  refine gm_aload_n dL_smells_0 rfl ?_
  refine gm_iconst 0 (v := 0) dL_smells_1 (by decide) ?_
  refine gm_aload_n dL_smells_2 rfl ?_
  refine gm_iload_n dL_smells_3 rfl ?_
  refine gm_iload_n dL_smells_4 rfl ?_
  refine gm_callV [_, _] dL_smells_5 ml_L_71 vm_X11_smells hs0 rfl (fun _ => zq _ rfl) (Nat.le_refl _) rfl E hsh ?_
  change am_AtG _ _ _ _ _ 8 [_, _, _, _, _] [_, _, _] _ _
  refine gm_i2l dL_smells_8 ?_
  refine gm_last (x := v) dL_smells_9 (hsh ▸ hs82) (am_lit rfl) ?_
  refine gm_goto (11) 21 dL_smells_10 rfl ?_
  refine gm_iconst 0 (v := 0) dL_smells_21 (by decide) ?_
  exact gm_iret dL_smells_22 rfl rfl (fun D cy A ad args s t hX hP hD hF => ⟨⟨_, _, ad, rfl, rfl, am_ag.rf (by first | exact congrArg List.length hsh | rfl), hP, hD⟩, hF⟩)
theorem hx_smells_I {d : Nat} {h h1 : am_H} {x1 x2 : Int32} (hs0 : h.1[0]? = some (11, 15, 0)) (hs82 : h.1[82]? = some (102, 1, 0)) (hsh : h1.1 = h.1) (E : am_Ev d mX11_smells [.inr (0, 0), am_I x1, am_I x2] h (.inr (lwI, h1))) : am_EvH (d + 1) [(0, 10, 13, 31), (0, 10, 17, 13)] mL_smells [.inr (0, 0), am_I x1, am_I x2, .inr (82, 0)] h (am_I 2) h1 := by
  refine am_EvH.of (by decide +kernel) rfl rfl ?_
  change am_AtG _ _ _ _ _ 0 [_, _, _, _, _] [] _ _
  refine gm_aload_n dL_smells_0 rfl ?_
  refine gm_iconst 0 (v := 0) dL_smells_1 (by decide) ?_
  refine gm_aload_n dL_smells_2 rfl ?_
  refine gm_iload_n dL_smells_3 rfl ?_
  refine gm_iload_n dL_smells_4 rfl ?_
  refine gm_callVC (r' := (am_nc h, am_ns h)) [_, _] dL_smells_5 ml_L_71 vm_X11_smells hs0 rfl (fun _ => zq _ rfl) (Nat.le_refl _) rfl E hsh (fun _ _ _ z => z) tk_smells_I (Nat.le_refl _) (Nat.le_refl _) (Nat.le_refl _) (Nat.le_refl _) (fun q => ?_)
  change am_AtG _ _ _ _ _ 17 [_, _, _, _, _] [_] _ _
  refine gm_astx dL_smells_17 (am_lb rfl) ?_
  refine gm_iconst 2 (v := 2) dL_smells_19 (by decide) ?_
  exact gm_iret dL_smells_20 rfl rfl (fun D cy A ad args s t hX hP hD hF => ⟨⟨_, _, ad, rfl, rfl, am_ag.rf (by first | exact congrArg List.length hsh | rfl), hP, hD⟩, hF⟩)
theorem hx_smells_N {d : Nat} {h h1 : am_H} {x1 x2 : Int32} (hs0 : h.1[0]? = some (11, 15, 0)) (hs82 : h.1[82]? = some (102, 1, 0)) (hsh : h1.1 = h.1) (E : am_Ev d mX11_smells [.inr (0, 0), am_I x1, am_I x2] h (.inr (lwN, h1))) : am_EvH (d + 1) [(0, 10, 13, 31), (0, 10, 17, 13)] mL_smells [.inr (0, 0), am_I x1, am_I x2, .inr (82, 0)] h (am_I 1) h1 := by
  refine am_EvH.of (by decide +kernel) rfl rfl ?_
  change am_AtG _ _ _ _ _ 0 [_, _, _, _, _] [] _ _
  refine gm_aload_n dL_smells_0 rfl ?_
  refine gm_iconst 0 (v := 0) dL_smells_1 (by decide) ?_
  refine gm_aload_n dL_smells_2 rfl ?_
  refine gm_iload_n dL_smells_3 rfl ?_
  refine gm_iload_n dL_smells_4 rfl ?_
  refine gm_callVC (r' := (am_nc h, am_ns h)) [_, _] dL_smells_5 ml_L_71 vm_X11_smells hs0 rfl (fun _ => zq _ rfl) (Nat.le_refl _) rfl E hsh (fun _ _ _ z => z) tk_smells_N (Nat.le_refl _) (Nat.le_refl _) (Nat.le_refl _) (Nat.le_refl _) (fun q => ?_)
  change am_AtG _ _ _ _ _ 13 [_, _, _, _, _] [_] _ _
  refine gm_astx dL_smells_13 (am_lb rfl) ?_
  refine gm_iconst 1 (v := 1) dL_smells_15 (by decide) ?_
  exact gm_iret dL_smells_16 rfl rfl (fun D cy A ad args s t hX hP hD hF => ⟨⟨_, _, ad, rfl, rfl, am_ag.rf (by first | exact congrArg List.length hsh | rfl), hP, hD⟩, hF⟩)
theorem hp_openers {d : Nat} {h h1 : am_H} {x1 : Int32} {v : Int32} (hs0 : h.1[0]? = some (11, 15, 0)) (hs82 : h.1[82]? = some (102, 1, 0)) (hsh : h1.1 = h.1) (E : am_Ev d mX11_openers [.inr (0, 0), am_I x1] h (.inl (some (am_I v), h1))) : am_EvH (d + 1) [(0, 9, 12, 13)] mL_openers [.inr (0, 0), am_I x1, .inr (82, 0)] h (am_I 0) (am_ur h1 82 0 (am_lc v)) := by
  refine am_EvH.of (by decide +kernel) rfl rfl ?_
  change am_AtG _ _ _ _ _ 0 [_, _, _, _] [] _ _
  refine gm_aload_n dL_openers_0 rfl ?_
  refine gm_iconst 0 (v := 0) dL_openers_1 (by decide) ?_
  refine gm_aload_n dL_openers_2 rfl ?_
  refine gm_iload_n dL_openers_3 rfl ?_
  refine gm_callV [_] dL_openers_4 ml_L_74 vm_X11_openers hs0 rfl (fun _ => zq _ rfl) (Nat.le_refl _) rfl E hsh ?_
  change am_AtG _ _ _ _ _ 7 [_, _, _, _] [_, _, _] _ _
  refine gm_i2l dL_openers_7 ?_
  refine gm_last (x := v) dL_openers_8 (hsh ▸ hs82) (am_lit rfl) ?_
  refine gm_goto (6) 15 dL_openers_9 rfl ?_
  refine gm_iconst 0 (v := 0) dL_openers_15 (by decide) ?_
  exact gm_iret dL_openers_16 rfl rfl (fun D cy A ad args s t hX hP hD hF => ⟨⟨_, _, ad, rfl, rfl, am_ag.rf (by first | exact congrArg List.length hsh | rfl), hP, hD⟩, hF⟩)
theorem hx_openers_I {d : Nat} {h h1 : am_H} {x1 : Int32} (hs0 : h.1[0]? = some (11, 15, 0)) (hs82 : h.1[82]? = some (102, 1, 0)) (hsh : h1.1 = h.1) (E : am_Ev d mX11_openers [.inr (0, 0), am_I x1] h (.inr (lwI, h1))) : am_EvH (d + 1) [(0, 9, 12, 13)] mL_openers [.inr (0, 0), am_I x1, .inr (82, 0)] h (am_I 1) h1 := by
  refine am_EvH.of (by decide +kernel) rfl rfl ?_
  change am_AtG _ _ _ _ _ 0 [_, _, _, _] [] _ _
  refine gm_aload_n dL_openers_0 rfl ?_
  refine gm_iconst 0 (v := 0) dL_openers_1 (by decide) ?_
  refine gm_aload_n dL_openers_2 rfl ?_
  refine gm_iload_n dL_openers_3 rfl ?_
  refine gm_callVC (r' := (am_nc h, am_ns h)) [_] dL_openers_4 ml_L_74 vm_X11_openers hs0 rfl (fun _ => zq _ rfl) (Nat.le_refl _) rfl E hsh (fun _ _ _ z => z) tk_openers_I (Nat.le_refl _) (Nat.le_refl _) (Nat.le_refl _) (Nat.le_refl _) (fun q => ?_)
  change am_AtG _ _ _ _ _ 12 [_, _, _, _] [_] _ _
  refine gm_astx_n dL_openers_12 (am_lb rfl) ?_
  refine gm_iconst 1 (v := 1) dL_openers_13 (by decide) ?_
  exact gm_iret dL_openers_14 rfl rfl (fun D cy A ad args s t hX hP hD hF => ⟨⟨_, _, ad, rfl, rfl, am_ag.rf (by first | exact congrArg List.length hsh | rfl), hP, hD⟩, hF⟩)
theorem hp_nose {d : Nat} {h h1 : am_H} {x1 : Int32} {v : Int32} (hs0 : h.1[0]? = some (11, 15, 0)) (hs82 : h.1[82]? = some (102, 1, 0)) (hsh : h1.1 = h.1) (E : am_Ev d mX11_nose [.inr (0, 0), am_I x1] h (.inl (some (am_I v), h1))) : am_EvH (d + 1) [(0, 9, 12, 13)] mL_nose [.inr (0, 0), am_I x1, .inr (82, 0)] h (am_I 0) (am_ur h1 82 0 (am_lc v)) := by
  refine am_EvH.of (by decide +kernel) rfl rfl ?_
  change am_AtG _ _ _ _ _ 0 [_, _, _, _] [] _ _
  refine gm_aload_n dL_nose_0 rfl ?_
  refine gm_iconst 0 (v := 0) dL_nose_1 (by decide) ?_
  refine gm_aload_n dL_nose_2 rfl ?_
  refine gm_iload_n dL_nose_3 rfl ?_
  refine gm_callV [_] dL_nose_4 ml_L_77 vm_X11_nose hs0 rfl (fun _ => zq _ rfl) (Nat.le_refl _) rfl E hsh ?_
  change am_AtG _ _ _ _ _ 7 [_, _, _, _] [_, _, _] _ _
  refine gm_i2l dL_nose_7 ?_
  refine gm_last (x := v) dL_nose_8 (hsh ▸ hs82) (am_lit rfl) ?_
  refine gm_goto (6) 15 dL_nose_9 rfl ?_
  refine gm_iconst 0 (v := 0) dL_nose_15 (by decide) ?_
  exact gm_iret dL_nose_16 rfl rfl (fun D cy A ad args s t hX hP hD hF => ⟨⟨_, _, ad, rfl, rfl, am_ag.rf (by first | exact congrArg List.length hsh | rfl), hP, hD⟩, hF⟩)
theorem hx_nose_I {d : Nat} {h h1 : am_H} {x1 : Int32} (hs0 : h.1[0]? = some (11, 15, 0)) (hs82 : h.1[82]? = some (102, 1, 0)) (hsh : h1.1 = h.1) (E : am_Ev d mX11_nose [.inr (0, 0), am_I x1] h (.inr (lwI, h1))) : am_EvH (d + 1) [(0, 9, 12, 13)] mL_nose [.inr (0, 0), am_I x1, .inr (82, 0)] h (am_I 1) h1 := by
  refine am_EvH.of (by decide +kernel) rfl rfl ?_
  change am_AtG _ _ _ _ _ 0 [_, _, _, _] [] _ _
  refine gm_aload_n dL_nose_0 rfl ?_
  refine gm_iconst 0 (v := 0) dL_nose_1 (by decide) ?_
  refine gm_aload_n dL_nose_2 rfl ?_
  refine gm_iload_n dL_nose_3 rfl ?_
  refine gm_callVC (r' := (am_nc h, am_ns h)) [_] dL_nose_4 ml_L_77 vm_X11_nose hs0 rfl (fun _ => zq _ rfl) (Nat.le_refl _) rfl E hsh (fun _ _ _ z => z) tk_nose_I (Nat.le_refl _) (Nat.le_refl _) (Nat.le_refl _) (Nat.le_refl _) (fun q => ?_)
  change am_AtG _ _ _ _ _ 12 [_, _, _, _] [_] _ _
  refine gm_astx_n dL_nose_12 (am_lb rfl) ?_
  refine gm_iconst 1 (v := 1) dL_nose_13 (by decide) ?_
  exact gm_iret dL_nose_14 rfl rfl (fun D cy A ad args s t hX hP hD hF => ⟨⟨_, _, ad, rfl, rfl, am_ag.rf (by first | exact congrArg List.length hsh | rfl), hP, hD⟩, hF⟩)
theorem hp_anglers {d : Nat} {h h1 : am_H} {x1 x2 : Int32} {v : Int32} (hs0 : h.1[0]? = some (11, 15, 0)) (hs82 : h.1[82]? = some (102, 1, 0)) (hsh : h1.1 = h.1) (E : am_Ev d mX11_anglers [.inr (0, 0), am_I x1, am_I x2] h (.inl (some (am_I v), h1))) : am_EvH (d + 1) [(0, 10, 13, 13)] mL_anglers [.inr (0, 0), am_I x1, am_I x2, .inr (82, 0)] h (am_I 0) (am_ur h1 82 0 (am_lc v)) := by
  refine am_EvH.of (by decide +kernel) rfl rfl ?_
  change am_AtG _ _ _ _ _ 0 [_, _, _, _, _] [] _ _
  refine gm_aload_n dL_anglers_0 rfl ?_
  refine gm_iconst 0 (v := 0) dL_anglers_1 (by decide) ?_
  refine gm_aload_n dL_anglers_2 rfl ?_
  refine gm_iload_n dL_anglers_3 rfl ?_
  refine gm_iload_n dL_anglers_4 rfl ?_
  refine gm_callV [_, _] dL_anglers_5 ml_L_80 vm_X11_anglers hs0 rfl (fun _ => zq _ rfl) (Nat.le_refl _) rfl E hsh ?_
  change am_AtG _ _ _ _ _ 8 [_, _, _, _, _] [_, _, _] _ _
  refine gm_i2l dL_anglers_8 ?_
  refine gm_last (x := v) dL_anglers_9 (hsh ▸ hs82) (am_lit rfl) ?_
  refine gm_goto (7) 17 dL_anglers_10 rfl ?_
  refine gm_iconst 0 (v := 0) dL_anglers_17 (by decide) ?_
  exact gm_iret dL_anglers_18 rfl rfl (fun D cy A ad args s t hX hP hD hF => ⟨⟨_, _, ad, rfl, rfl, am_ag.rf (by first | exact congrArg List.length hsh | rfl), hP, hD⟩, hF⟩)
theorem hx_anglers_I {d : Nat} {h h1 : am_H} {x1 x2 : Int32} (hs0 : h.1[0]? = some (11, 15, 0)) (hs82 : h.1[82]? = some (102, 1, 0)) (hsh : h1.1 = h.1) (E : am_Ev d mX11_anglers [.inr (0, 0), am_I x1, am_I x2] h (.inr (lwI, h1))) : am_EvH (d + 1) [(0, 10, 13, 13)] mL_anglers [.inr (0, 0), am_I x1, am_I x2, .inr (82, 0)] h (am_I 1) h1 := by
  refine am_EvH.of (by decide +kernel) rfl rfl ?_
  change am_AtG _ _ _ _ _ 0 [_, _, _, _, _] [] _ _
  refine gm_aload_n dL_anglers_0 rfl ?_
  refine gm_iconst 0 (v := 0) dL_anglers_1 (by decide) ?_
  refine gm_aload_n dL_anglers_2 rfl ?_
  refine gm_iload_n dL_anglers_3 rfl ?_
  refine gm_iload_n dL_anglers_4 rfl ?_
  refine gm_callVC (r' := (am_nc h, am_ns h)) [_, _] dL_anglers_5 ml_L_80 vm_X11_anglers hs0 rfl (fun _ => zq _ rfl) (Nat.le_refl _) rfl E hsh (fun _ _ _ z => z) tk_anglers_I (Nat.le_refl _) (Nat.le_refl _) (Nat.le_refl _) (Nat.le_refl _) (fun q => ?_)
  change am_AtG _ _ _ _ _ 13 [_, _, _, _, _] [_] _ _
  refine gm_astx dL_anglers_13 (am_lb rfl) ?_
  refine gm_iconst 1 (v := 1) dL_anglers_15 (by decide) ?_
  exact gm_iret dL_anglers_16 rfl rfl (fun D cy A ad args s t hX hP hD hF => ⟨⟨_, _, ad, rfl, rfl, am_ag.rf (by first | exact congrArg List.length hsh | rfl), hP, hD⟩, hF⟩)
theorem hp_stand {d : Nat} {h h1 : am_H} {x1 x2 : Int32} {v : Int32} (hs0 : h.1[0]? = some (11, 15, 0)) (hs82 : h.1[82]? = some (102, 1, 0)) (hsh : h1.1 = h.1) (E : am_Ev d mX11_stand [.inr (0, 0), am_I x1, am_I x2] h (.inl (some (am_I v), h1))) : am_EvH (d + 1) [(0, 10, 13, 31), (0, 10, 17, 13)] mL_stand [.inr (0, 0), am_I x1, am_I x2, .inr (82, 0)] h (am_I 0) (am_ur h1 82 0 (am_lc v)) := by
  refine am_EvH.of (by decide +kernel) rfl rfl ?_
  change am_AtG _ _ _ _ _ 0 [_, _, _, _, _] [] _ _
  refine gm_aload_n dL_stand_0 rfl ?_
  refine gm_iconst 0 (v := 0) dL_stand_1 (by decide) ?_
  refine gm_aload_n dL_stand_2 rfl ?_
  refine gm_iload_n dL_stand_3 rfl ?_
  refine gm_iload_n dL_stand_4 rfl ?_
  refine gm_callV [_, _] dL_stand_5 ml_L_83 vm_X11_stand hs0 rfl (fun _ => zq _ rfl) (Nat.le_refl _) rfl E hsh ?_
  change am_AtG _ _ _ _ _ 8 [_, _, _, _, _] [_, _, _] _ _
  refine gm_i2l dL_stand_8 ?_
  refine gm_last (x := v) dL_stand_9 (hsh ▸ hs82) (am_lit rfl) ?_
  refine gm_goto (11) 21 dL_stand_10 rfl ?_
  refine gm_iconst 0 (v := 0) dL_stand_21 (by decide) ?_
  exact gm_iret dL_stand_22 rfl rfl (fun D cy A ad args s t hX hP hD hF => ⟨⟨_, _, ad, rfl, rfl, am_ag.rf (by first | exact congrArg List.length hsh | rfl), hP, hD⟩, hF⟩)
theorem hx_stand_I {d : Nat} {h h1 : am_H} {x1 x2 : Int32} (hs0 : h.1[0]? = some (11, 15, 0)) (hs82 : h.1[82]? = some (102, 1, 0)) (hsh : h1.1 = h.1) (E : am_Ev d mX11_stand [.inr (0, 0), am_I x1, am_I x2] h (.inr (lwI, h1))) : am_EvH (d + 1) [(0, 10, 13, 31), (0, 10, 17, 13)] mL_stand [.inr (0, 0), am_I x1, am_I x2, .inr (82, 0)] h (am_I 2) h1 := by
  refine am_EvH.of (by decide +kernel) rfl rfl ?_
  change am_AtG _ _ _ _ _ 0 [_, _, _, _, _] [] _ _
  refine gm_aload_n dL_stand_0 rfl ?_
  refine gm_iconst 0 (v := 0) dL_stand_1 (by decide) ?_
  refine gm_aload_n dL_stand_2 rfl ?_
  refine gm_iload_n dL_stand_3 rfl ?_
  refine gm_iload_n dL_stand_4 rfl ?_
  refine gm_callVC (r' := (am_nc h, am_ns h)) [_, _] dL_stand_5 ml_L_83 vm_X11_stand hs0 rfl (fun _ => zq _ rfl) (Nat.le_refl _) rfl E hsh (fun _ _ _ z => z) tk_stand_I (Nat.le_refl _) (Nat.le_refl _) (Nat.le_refl _) (Nat.le_refl _) (fun q => ?_)
  change am_AtG _ _ _ _ _ 17 [_, _, _, _, _] [_] _ _
  refine gm_astx dL_stand_17 (am_lb rfl) ?_
  refine gm_iconst 2 (v := 2) dL_stand_19 (by decide) ?_
  exact gm_iret dL_stand_20 rfl rfl (fun D cy A ad args s t hX hP hD hF => ⟨⟨_, _, ad, rfl, rfl, am_ag.rf (by first | exact congrArg List.length hsh | rfl), hP, hD⟩, hF⟩)
theorem hx_stand_N {d : Nat} {h h1 : am_H} {x1 x2 : Int32} (hs0 : h.1[0]? = some (11, 15, 0)) (hs82 : h.1[82]? = some (102, 1, 0)) (hsh : h1.1 = h.1) (E : am_Ev d mX11_stand [.inr (0, 0), am_I x1, am_I x2] h (.inr (lwN, h1))) : am_EvH (d + 1) [(0, 10, 13, 31), (0, 10, 17, 13)] mL_stand [.inr (0, 0), am_I x1, am_I x2, .inr (82, 0)] h (am_I 1) h1 := by
  refine am_EvH.of (by decide +kernel) rfl rfl ?_
  change am_AtG _ _ _ _ _ 0 [_, _, _, _, _] [] _ _
  refine gm_aload_n dL_stand_0 rfl ?_
  refine gm_iconst 0 (v := 0) dL_stand_1 (by decide) ?_
  refine gm_aload_n dL_stand_2 rfl ?_
  refine gm_iload_n dL_stand_3 rfl ?_
  refine gm_iload_n dL_stand_4 rfl ?_
  refine gm_callVC (r' := (am_nc h, am_ns h)) [_, _] dL_stand_5 ml_L_83 vm_X11_stand hs0 rfl (fun _ => zq _ rfl) (Nat.le_refl _) rfl E hsh (fun _ _ _ z => z) tk_stand_N (Nat.le_refl _) (Nat.le_refl _) (Nat.le_refl _) (Nat.le_refl _) (fun q => ?_)
  change am_AtG _ _ _ _ _ 13 [_, _, _, _, _] [_] _ _
  refine gm_astx dL_stand_13 (am_lb rfl) ?_
  refine gm_iconst 1 (v := 1) dL_stand_15 (by decide) ?_
  exact gm_iret dL_stand_16 rfl rfl (fun D cy A ad args s t hX hP hD hF => ⟨⟨_, _, ad, rfl, rfl, am_ag.rf (by first | exact congrArg List.length hsh | rfl), hP, hD⟩, hF⟩)
theorem hp_walk {d : Nat} {h h1 : am_H} {x1 x2 x3 : Int32} {v : Int32} (hs0 : h.1[0]? = some (11, 15, 0)) (hs82 : h.1[82]? = some (102, 1, 0)) (hsh : h1.1 = h.1) (E : am_Ev d mX11_walk [.inr (0, 0), am_I x1, am_I x2, am_I x3] h (.inl (some (am_I v), h1))) : am_EvH (d + 1) [(0, 12, 15, 31), (0, 12, 19, 13)] mL_walk [.inr (0, 0), am_I x1, am_I x2, am_I x3, .inr (82, 0)] h (am_I 0) (am_ur h1 82 0 (am_lc v)) := by
  refine am_EvH.of (by decide +kernel) rfl rfl ?_
  change am_AtG _ _ _ _ _ 0 [_, _, _, _, _, _] [] _ _
  refine gm_aload dL_walk_0 rfl ?_
  refine gm_iconst 0 (v := 0) dL_walk_2 (by decide) ?_
  refine gm_aload_n dL_walk_3 rfl ?_
  refine gm_iload_n dL_walk_4 rfl ?_
  refine gm_iload_n dL_walk_5 rfl ?_
  refine gm_iload_n dL_walk_6 rfl ?_
  refine gm_callV [_, _, _] dL_walk_7 ml_L_86 vm_X11_walk hs0 rfl (fun _ => zq _ rfl) (Nat.le_refl _) rfl E hsh ?_
  change am_AtG _ _ _ _ _ 10 [_, _, _, _, _, _] [_, _, _] _ _
  refine gm_i2l dL_walk_10 ?_
  refine gm_last (x := v) dL_walk_11 (hsh ▸ hs82) (am_lit rfl) ?_
  refine gm_goto (11) 23 dL_walk_12 rfl ?_
  refine gm_iconst 0 (v := 0) dL_walk_23 (by decide) ?_
  exact gm_iret dL_walk_24 rfl rfl (fun D cy A ad args s t hX hP hD hF => ⟨⟨_, _, ad, rfl, rfl, am_ag.rf (by first | exact congrArg List.length hsh | rfl), hP, hD⟩, hF⟩)
theorem hx_walk_I {d : Nat} {h h1 : am_H} {x1 x2 x3 : Int32} (hs0 : h.1[0]? = some (11, 15, 0)) (hs82 : h.1[82]? = some (102, 1, 0)) (hsh : h1.1 = h.1) (E : am_Ev d mX11_walk [.inr (0, 0), am_I x1, am_I x2, am_I x3] h (.inr (lwI, h1))) : am_EvH (d + 1) [(0, 12, 15, 31), (0, 12, 19, 13)] mL_walk [.inr (0, 0), am_I x1, am_I x2, am_I x3, .inr (82, 0)] h (am_I 2) h1 := by
  refine am_EvH.of (by decide +kernel) rfl rfl ?_
  change am_AtG _ _ _ _ _ 0 [_, _, _, _, _, _] [] _ _
  refine gm_aload dL_walk_0 rfl ?_
  refine gm_iconst 0 (v := 0) dL_walk_2 (by decide) ?_
  refine gm_aload_n dL_walk_3 rfl ?_
  refine gm_iload_n dL_walk_4 rfl ?_
  refine gm_iload_n dL_walk_5 rfl ?_
  refine gm_iload_n dL_walk_6 rfl ?_
  refine gm_callVC (r' := (am_nc h, am_ns h)) [_, _, _] dL_walk_7 ml_L_86 vm_X11_walk hs0 rfl (fun _ => zq _ rfl) (Nat.le_refl _) rfl E hsh (fun _ _ _ z => z) tk_walk_I (Nat.le_refl _) (Nat.le_refl _) (Nat.le_refl _) (Nat.le_refl _) (fun q => ?_)
  change am_AtG _ _ _ _ _ 19 [_, _, _, _, _, _] [_] _ _
  refine gm_astx dL_walk_19 (am_lb rfl) ?_
  refine gm_iconst 2 (v := 2) dL_walk_21 (by decide) ?_
  exact gm_iret dL_walk_22 rfl rfl (fun D cy A ad args s t hX hP hD hF => ⟨⟨_, _, ad, rfl, rfl, am_ag.rf (by first | exact congrArg List.length hsh | rfl), hP, hD⟩, hF⟩)
theorem hx_walk_N {d : Nat} {h h1 : am_H} {x1 x2 x3 : Int32} (hs0 : h.1[0]? = some (11, 15, 0)) (hs82 : h.1[82]? = some (102, 1, 0)) (hsh : h1.1 = h.1) (E : am_Ev d mX11_walk [.inr (0, 0), am_I x1, am_I x2, am_I x3] h (.inr (lwN, h1))) : am_EvH (d + 1) [(0, 12, 15, 31), (0, 12, 19, 13)] mL_walk [.inr (0, 0), am_I x1, am_I x2, am_I x3, .inr (82, 0)] h (am_I 1) h1 := by
  refine am_EvH.of (by decide +kernel) rfl rfl ?_
  change am_AtG _ _ _ _ _ 0 [_, _, _, _, _, _] [] _ _
  refine gm_aload dL_walk_0 rfl ?_
  refine gm_iconst 0 (v := 0) dL_walk_2 (by decide) ?_
  refine gm_aload_n dL_walk_3 rfl ?_
  refine gm_iload_n dL_walk_4 rfl ?_
  refine gm_iload_n dL_walk_5 rfl ?_
  refine gm_iload_n dL_walk_6 rfl ?_
  refine gm_callVC (r' := (am_nc h, am_ns h)) [_, _, _] dL_walk_7 ml_L_86 vm_X11_walk hs0 rfl (fun _ => zq _ rfl) (Nat.le_refl _) rfl E hsh (fun _ _ _ z => z) tk_walk_N (Nat.le_refl _) (Nat.le_refl _) (Nat.le_refl _) (Nat.le_refl _) (fun q => ?_)
  change am_AtG _ _ _ _ _ 15 [_, _, _, _, _, _] [_] _ _
  refine gm_astx dL_walk_15 (am_lb rfl) ?_
  refine gm_iconst 1 (v := 1) dL_walk_17 (by decide) ?_
  exact gm_iret dL_walk_18 rfl rfl (fun D cy A ad args s t hX hP hD hF => ⟨⟨_, _, ad, rfl, rfl, am_ag.rf (by first | exact congrArg List.length hsh | rfl), hP, hD⟩, hF⟩)
theorem hp_reach {d : Nat} {h h1 : am_H} {x1 x2 : Int32} {v : Int32} (hs0 : h.1[0]? = some (11, 15, 0)) (hs82 : h.1[82]? = some (102, 1, 0)) (hsh : h1.1 = h.1) (E : am_Ev d mX11_reach [.inr (0, 0), am_I x1, am_I x2] h (.inl (some (am_I v), h1))) : am_EvH (d + 1) [(0, 10, 13, 31), (0, 10, 17, 13)] mL_reach [.inr (0, 0), am_I x1, am_I x2, .inr (82, 0)] h (am_I 0) (am_ur h1 82 0 (am_lc v)) := by
  refine am_EvH.of (by decide +kernel) rfl rfl ?_
  change am_AtG _ _ _ _ _ 0 [_, _, _, _, _] [] _ _
  refine gm_aload_n dL_reach_0 rfl ?_
  refine gm_iconst 0 (v := 0) dL_reach_1 (by decide) ?_
  refine gm_aload_n dL_reach_2 rfl ?_
  refine gm_iload_n dL_reach_3 rfl ?_
  refine gm_iload_n dL_reach_4 rfl ?_
  refine gm_callV [_, _] dL_reach_5 ml_L_89 vm_X11_reach hs0 rfl (fun _ => zq _ rfl) (Nat.le_refl _) rfl E hsh ?_
  change am_AtG _ _ _ _ _ 8 [_, _, _, _, _] [_, _, _] _ _
  refine gm_i2l dL_reach_8 ?_
  refine gm_last (x := v) dL_reach_9 (hsh ▸ hs82) (am_lit rfl) ?_
  refine gm_goto (11) 21 dL_reach_10 rfl ?_
  refine gm_iconst 0 (v := 0) dL_reach_21 (by decide) ?_
  exact gm_iret dL_reach_22 rfl rfl (fun D cy A ad args s t hX hP hD hF => ⟨⟨_, _, ad, rfl, rfl, am_ag.rf (by first | exact congrArg List.length hsh | rfl), hP, hD⟩, hF⟩)
theorem hx_reach_I {d : Nat} {h h1 : am_H} {x1 x2 : Int32} (hs0 : h.1[0]? = some (11, 15, 0)) (hs82 : h.1[82]? = some (102, 1, 0)) (hsh : h1.1 = h.1) (E : am_Ev d mX11_reach [.inr (0, 0), am_I x1, am_I x2] h (.inr (lwI, h1))) : am_EvH (d + 1) [(0, 10, 13, 31), (0, 10, 17, 13)] mL_reach [.inr (0, 0), am_I x1, am_I x2, .inr (82, 0)] h (am_I 2) h1 := by
  refine am_EvH.of (by decide +kernel) rfl rfl ?_
  change am_AtG _ _ _ _ _ 0 [_, _, _, _, _] [] _ _
  refine gm_aload_n dL_reach_0 rfl ?_
  refine gm_iconst 0 (v := 0) dL_reach_1 (by decide) ?_
  refine gm_aload_n dL_reach_2 rfl ?_
  refine gm_iload_n dL_reach_3 rfl ?_
  refine gm_iload_n dL_reach_4 rfl ?_
  refine gm_callVC (r' := (am_nc h, am_ns h)) [_, _] dL_reach_5 ml_L_89 vm_X11_reach hs0 rfl (fun _ => zq _ rfl) (Nat.le_refl _) rfl E hsh (fun _ _ _ z => z) tk_reach_I (Nat.le_refl _) (Nat.le_refl _) (Nat.le_refl _) (Nat.le_refl _) (fun q => ?_)
  change am_AtG _ _ _ _ _ 17 [_, _, _, _, _] [_] _ _
  refine gm_astx dL_reach_17 (am_lb rfl) ?_
  refine gm_iconst 2 (v := 2) dL_reach_19 (by decide) ?_
  exact gm_iret dL_reach_20 rfl rfl (fun D cy A ad args s t hX hP hD hF => ⟨⟨_, _, ad, rfl, rfl, am_ag.rf (by first | exact congrArg List.length hsh | rfl), hP, hD⟩, hF⟩)
theorem hx_reach_N {d : Nat} {h h1 : am_H} {x1 x2 : Int32} (hs0 : h.1[0]? = some (11, 15, 0)) (hs82 : h.1[82]? = some (102, 1, 0)) (hsh : h1.1 = h.1) (E : am_Ev d mX11_reach [.inr (0, 0), am_I x1, am_I x2] h (.inr (lwN, h1))) : am_EvH (d + 1) [(0, 10, 13, 31), (0, 10, 17, 13)] mL_reach [.inr (0, 0), am_I x1, am_I x2, .inr (82, 0)] h (am_I 1) h1 := by
  refine am_EvH.of (by decide +kernel) rfl rfl ?_
  change am_AtG _ _ _ _ _ 0 [_, _, _, _, _] [] _ _
  refine gm_aload_n dL_reach_0 rfl ?_
  refine gm_iconst 0 (v := 0) dL_reach_1 (by decide) ?_
  refine gm_aload_n dL_reach_2 rfl ?_
  refine gm_iload_n dL_reach_3 rfl ?_
  refine gm_iload_n dL_reach_4 rfl ?_
  refine gm_callVC (r' := (am_nc h, am_ns h)) [_, _] dL_reach_5 ml_L_89 vm_X11_reach hs0 rfl (fun _ => zq _ rfl) (Nat.le_refl _) rfl E hsh (fun _ _ _ z => z) tk_reach_N (Nat.le_refl _) (Nat.le_refl _) (Nat.le_refl _) (Nat.le_refl _) (fun q => ?_)
  change am_AtG _ _ _ _ _ 13 [_, _, _, _, _] [_] _ _
  refine gm_astx dL_reach_13 (am_lb rfl) ?_
  refine gm_iconst 1 (v := 1) dL_reach_15 (by decide) ?_
  exact gm_iret dL_reach_16 rfl rfl (fun D cy A ad args s t hX hP hD hF => ⟨⟨_, _, ad, rfl, rfl, am_ag.rf (by first | exact congrArg List.length hsh | rfl), hP, hD⟩, hF⟩)
theorem hp_peak {d : Nat} {h h1 : am_H} {x1 : Int32} {v : Int32} (hs0 : h.1[0]? = some (11, 15, 0)) (hs82 : h.1[82]? = some (102, 1, 0)) (hsh : h1.1 = h.1) (E : am_Ev d mX11_peak [.inr (0, 0), am_I x1] h (.inl (some (am_I v), h1))) : am_EvH (d + 1) [(0, 9, 12, 13)] mL_peak [.inr (0, 0), am_I x1, .inr (82, 0)] h (am_I 0) (am_ur h1 82 0 (am_lc v)) := by
  refine am_EvH.of (by decide +kernel) rfl rfl ?_
  change am_AtG _ _ _ _ _ 0 [_, _, _, _] [] _ _
  refine gm_aload_n dL_peak_0 rfl ?_
  refine gm_iconst 0 (v := 0) dL_peak_1 (by decide) ?_
  refine gm_aload_n dL_peak_2 rfl ?_
  refine gm_iload_n dL_peak_3 rfl ?_
  refine gm_callV [_] dL_peak_4 ml_L_92 vm_X11_peak hs0 rfl (fun _ => zq _ rfl) (Nat.le_refl _) rfl E hsh ?_
  change am_AtG _ _ _ _ _ 7 [_, _, _, _] [_, _, _] _ _
  refine gm_i2l dL_peak_7 ?_
  refine gm_last (x := v) dL_peak_8 (hsh ▸ hs82) (am_lit rfl) ?_
  refine gm_goto (6) 15 dL_peak_9 rfl ?_
  refine gm_iconst 0 (v := 0) dL_peak_15 (by decide) ?_
  exact gm_iret dL_peak_16 rfl rfl (fun D cy A ad args s t hX hP hD hF => ⟨⟨_, _, ad, rfl, rfl, am_ag.rf (by first | exact congrArg List.length hsh | rfl), hP, hD⟩, hF⟩)
theorem hx_peak_I {d : Nat} {h h1 : am_H} {x1 : Int32} (hs0 : h.1[0]? = some (11, 15, 0)) (hs82 : h.1[82]? = some (102, 1, 0)) (hsh : h1.1 = h.1) (E : am_Ev d mX11_peak [.inr (0, 0), am_I x1] h (.inr (lwI, h1))) : am_EvH (d + 1) [(0, 9, 12, 13)] mL_peak [.inr (0, 0), am_I x1, .inr (82, 0)] h (am_I 1) h1 := by
  refine am_EvH.of (by decide +kernel) rfl rfl ?_
  change am_AtG _ _ _ _ _ 0 [_, _, _, _] [] _ _
  refine gm_aload_n dL_peak_0 rfl ?_
  refine gm_iconst 0 (v := 0) dL_peak_1 (by decide) ?_
  refine gm_aload_n dL_peak_2 rfl ?_
  refine gm_iload_n dL_peak_3 rfl ?_
  refine gm_callVC (r' := (am_nc h, am_ns h)) [_] dL_peak_4 ml_L_92 vm_X11_peak hs0 rfl (fun _ => zq _ rfl) (Nat.le_refl _) rfl E hsh (fun _ _ _ z => z) tk_peak_I (Nat.le_refl _) (Nat.le_refl _) (Nat.le_refl _) (Nat.le_refl _) (fun q => ?_)
  change am_AtG _ _ _ _ _ 12 [_, _, _, _] [_] _ _
  refine gm_astx_n dL_peak_12 (am_lb rfl) ?_
  refine gm_iconst 1 (v := 1) dL_peak_13 (by decide) ?_
  exact gm_iret dL_peak_14 rfl rfl (fun D cy A ad args s t hX hP hD hF => ⟨⟨_, _, ad, rfl, rfl, am_ag.rf (by first | exact congrArg List.length hsh | rfl), hP, hD⟩, hF⟩)
theorem hp_narrow {d : Nat} {h h1 : am_H} {x1 x2 : Int32} {v : Int32} (hs0 : h.1[0]? = some (11, 15, 0)) (hs82 : h.1[82]? = some (102, 1, 0)) (hsh : h1.1 = h.1) (E : am_Ev d mX11_narrow [.inr (0, 0), am_I x1, am_I x2] h (.inl (some (am_I v), h1))) : am_EvH (d + 1) [(0, 10, 13, 13)] mL_narrow [.inr (0, 0), am_I x1, am_I x2, .inr (82, 0)] h (am_I 0) (am_ur h1 82 0 (am_lc v)) := by
  refine am_EvH.of (by decide +kernel) rfl rfl ?_
  change am_AtG _ _ _ _ _ 0 [_, _, _, _, _] [] _ _
  refine gm_aload_n dL_narrow_0 rfl ?_
  refine gm_iconst 0 (v := 0) dL_narrow_1 (by decide) ?_
  refine gm_aload_n dL_narrow_2 rfl ?_
  refine gm_iload_n dL_narrow_3 rfl ?_
  refine gm_iload_n dL_narrow_4 rfl ?_
  refine gm_callV [_, _] dL_narrow_5 ml_L_95 vm_X11_narrow hs0 rfl (fun _ => zq _ rfl) (Nat.le_refl _) rfl E hsh ?_
  change am_AtG _ _ _ _ _ 8 [_, _, _, _, _] [_, _, _] _ _
  refine gm_i2l dL_narrow_8 ?_
  refine gm_last (x := v) dL_narrow_9 (hsh ▸ hs82) (am_lit rfl) ?_
  refine gm_goto (7) 17 dL_narrow_10 rfl ?_
  refine gm_iconst 0 (v := 0) dL_narrow_17 (by decide) ?_
  exact gm_iret dL_narrow_18 rfl rfl (fun D cy A ad args s t hX hP hD hF => ⟨⟨_, _, ad, rfl, rfl, am_ag.rf (by first | exact congrArg List.length hsh | rfl), hP, hD⟩, hF⟩)
theorem hx_narrow_I {d : Nat} {h h1 : am_H} {x1 x2 : Int32} (hs0 : h.1[0]? = some (11, 15, 0)) (hs82 : h.1[82]? = some (102, 1, 0)) (hsh : h1.1 = h.1) (E : am_Ev d mX11_narrow [.inr (0, 0), am_I x1, am_I x2] h (.inr (lwI, h1))) : am_EvH (d + 1) [(0, 10, 13, 13)] mL_narrow [.inr (0, 0), am_I x1, am_I x2, .inr (82, 0)] h (am_I 1) h1 := by
  refine am_EvH.of (by decide +kernel) rfl rfl ?_
  change am_AtG _ _ _ _ _ 0 [_, _, _, _, _] [] _ _
  refine gm_aload_n dL_narrow_0 rfl ?_
  refine gm_iconst 0 (v := 0) dL_narrow_1 (by decide) ?_
  refine gm_aload_n dL_narrow_2 rfl ?_
  refine gm_iload_n dL_narrow_3 rfl ?_
  refine gm_iload_n dL_narrow_4 rfl ?_
  refine gm_callVC (r' := (am_nc h, am_ns h)) [_, _] dL_narrow_5 ml_L_95 vm_X11_narrow hs0 rfl (fun _ => zq _ rfl) (Nat.le_refl _) rfl E hsh (fun _ _ _ z => z) tk_narrow_I (Nat.le_refl _) (Nat.le_refl _) (Nat.le_refl _) (Nat.le_refl _) (fun q => ?_)
  change am_AtG _ _ _ _ _ 13 [_, _, _, _, _] [_] _ _
  refine gm_astx dL_narrow_13 (am_lb rfl) ?_
  refine gm_iconst 1 (v := 1) dL_narrow_15 (by decide) ?_
  exact gm_iret dL_narrow_16 rfl rfl (fun D cy A ad args s t hX hP hD hF => ⟨⟨_, _, ad, rfl, rfl, am_ag.rf (by first | exact congrArg List.length hsh | rfl), hP, hD⟩, hF⟩)
theorem hp_worst {d : Nat} {h h1 : am_H} {x1 : Int32} {v : Int32} (hs0 : h.1[0]? = some (11, 15, 0)) (hs82 : h.1[82]? = some (102, 1, 0)) (hsh : h1.1 = h.1) (E : am_Ev d mX11_worst [.inr (0, 0), am_I x1] h (.inl (some (am_I v), h1))) : am_EvH (d + 1) [(0, 9, 12, 13)] mL_worst [.inr (0, 0), am_I x1, .inr (82, 0)] h (am_I 0) (am_ur h1 82 0 (am_lc v)) := by
  refine am_EvH.of (by decide +kernel) rfl rfl ?_
  change am_AtG _ _ _ _ _ 0 [_, _, _, _] [] _ _
  refine gm_aload_n dL_worst_0 rfl ?_
  refine gm_iconst 0 (v := 0) dL_worst_1 (by decide) ?_
  refine gm_aload_n dL_worst_2 rfl ?_
  refine gm_iload_n dL_worst_3 rfl ?_
  refine gm_callV [_] dL_worst_4 ml_L_98 vm_X11_worst hs0 rfl (fun _ => zq _ rfl) (Nat.le_refl _) rfl E hsh ?_
  change am_AtG _ _ _ _ _ 7 [_, _, _, _] [_, _, _] _ _
  refine gm_i2l dL_worst_7 ?_
  refine gm_last (x := v) dL_worst_8 (hsh ▸ hs82) (am_lit rfl) ?_
  refine gm_goto (6) 15 dL_worst_9 rfl ?_
  refine gm_iconst 0 (v := 0) dL_worst_15 (by decide) ?_
  exact gm_iret dL_worst_16 rfl rfl (fun D cy A ad args s t hX hP hD hF => ⟨⟨_, _, ad, rfl, rfl, am_ag.rf (by first | exact congrArg List.length hsh | rfl), hP, hD⟩, hF⟩)
theorem hx_worst_I {d : Nat} {h h1 : am_H} {x1 : Int32} (hs0 : h.1[0]? = some (11, 15, 0)) (hs82 : h.1[82]? = some (102, 1, 0)) (hsh : h1.1 = h.1) (E : am_Ev d mX11_worst [.inr (0, 0), am_I x1] h (.inr (lwI, h1))) : am_EvH (d + 1) [(0, 9, 12, 13)] mL_worst [.inr (0, 0), am_I x1, .inr (82, 0)] h (am_I 1) h1 := by
  refine am_EvH.of (by decide +kernel) rfl rfl ?_
  change am_AtG _ _ _ _ _ 0 [_, _, _, _] [] _ _
  refine gm_aload_n dL_worst_0 rfl ?_
  refine gm_iconst 0 (v := 0) dL_worst_1 (by decide) ?_
  refine gm_aload_n dL_worst_2 rfl ?_
  refine gm_iload_n dL_worst_3 rfl ?_
  refine gm_callVC (r' := (am_nc h, am_ns h)) [_] dL_worst_4 ml_L_98 vm_X11_worst hs0 rfl (fun _ => zq _ rfl) (Nat.le_refl _) rfl E hsh (fun _ _ _ z => z) tk_worst_I (Nat.le_refl _) (Nat.le_refl _) (Nat.le_refl _) (Nat.le_refl _) (fun q => ?_)
  change am_AtG _ _ _ _ _ 12 [_, _, _, _] [_] _ _
  refine gm_astx_n dL_worst_12 (am_lb rfl) ?_
  refine gm_iconst 1 (v := 1) dL_worst_13 (by decide) ?_
  exact gm_iret dL_worst_14 rfl rfl (fun D cy A ad args s t hX hP hD hF => ⟨⟨_, _, ad, rfl, rfl, am_ag.rf (by first | exact congrArg List.length hsh | rfl), hP, hD⟩, hF⟩)
theorem hp_ahead {d : Nat} {h h1 : am_H} {x1 x2 : Int32} {v : Int32} (hs0 : h.1[0]? = some (11, 15, 0)) (hs82 : h.1[82]? = some (102, 1, 0)) (hsh : h1.1 = h.1) (E : am_Ev d mX11_ahead [.inr (0, 0), am_I x1, am_I x2] h (.inl (some (am_I v), h1))) : am_EvH (d + 1) [(0, 10, 13, 13)] mL_ahead [.inr (0, 0), am_I x1, am_I x2, .inr (82, 0)] h (am_I 0) (am_ur h1 82 0 (am_lc v)) := by
  refine am_EvH.of (by decide +kernel) rfl rfl ?_
  change am_AtG _ _ _ _ _ 0 [_, _, _, _, _] [] _ _
  refine gm_aload_n dL_ahead_0 rfl ?_
  refine gm_iconst 0 (v := 0) dL_ahead_1 (by decide) ?_
  refine gm_aload_n dL_ahead_2 rfl ?_
  refine gm_iload_n dL_ahead_3 rfl ?_
  refine gm_iload_n dL_ahead_4 rfl ?_
  refine gm_callV [_, _] dL_ahead_5 ml_L_101 vm_X11_ahead hs0 rfl (fun _ => zq _ rfl) (Nat.le_refl _) rfl E hsh ?_
  change am_AtG _ _ _ _ _ 8 [_, _, _, _, _] [_, _, _] _ _
  refine gm_i2l dL_ahead_8 ?_
  refine gm_last (x := v) dL_ahead_9 (hsh ▸ hs82) (am_lit rfl) ?_
  refine gm_goto (7) 17 dL_ahead_10 rfl ?_
  refine gm_iconst 0 (v := 0) dL_ahead_17 (by decide) ?_
  exact gm_iret dL_ahead_18 rfl rfl (fun D cy A ad args s t hX hP hD hF => ⟨⟨_, _, ad, rfl, rfl, am_ag.rf (by first | exact congrArg List.length hsh | rfl), hP, hD⟩, hF⟩)
theorem hx_ahead_I {d : Nat} {h h1 : am_H} {x1 x2 : Int32} (hs0 : h.1[0]? = some (11, 15, 0)) (hs82 : h.1[82]? = some (102, 1, 0)) (hsh : h1.1 = h.1) (E : am_Ev d mX11_ahead [.inr (0, 0), am_I x1, am_I x2] h (.inr (lwI, h1))) : am_EvH (d + 1) [(0, 10, 13, 13)] mL_ahead [.inr (0, 0), am_I x1, am_I x2, .inr (82, 0)] h (am_I 1) h1 := by
  refine am_EvH.of (by decide +kernel) rfl rfl ?_
  change am_AtG _ _ _ _ _ 0 [_, _, _, _, _] [] _ _
  refine gm_aload_n dL_ahead_0 rfl ?_
  refine gm_iconst 0 (v := 0) dL_ahead_1 (by decide) ?_
  refine gm_aload_n dL_ahead_2 rfl ?_
  refine gm_iload_n dL_ahead_3 rfl ?_
  refine gm_iload_n dL_ahead_4 rfl ?_
  refine gm_callVC (r' := (am_nc h, am_ns h)) [_, _] dL_ahead_5 ml_L_101 vm_X11_ahead hs0 rfl (fun _ => zq _ rfl) (Nat.le_refl _) rfl E hsh (fun _ _ _ z => z) tk_ahead_I (Nat.le_refl _) (Nat.le_refl _) (Nat.le_refl _) (Nat.le_refl _) (fun q => ?_)
  change am_AtG _ _ _ _ _ 13 [_, _, _, _, _] [_] _ _
  refine gm_astx dL_ahead_13 (am_lb rfl) ?_
  refine gm_iconst 1 (v := 1) dL_ahead_15 (by decide) ?_
  exact gm_iret dL_ahead_16 rfl rfl (fun D cy A ad args s t hX hP hD hF => ⟨⟨_, _, ad, rfl, rfl, am_ag.rf (by first | exact congrArg List.length hsh | rfl), hP, hD⟩, hF⟩)
theorem hp_winters {d : Nat} {h h1 : am_H} {x1 x2 x3 x4 : Int32} {v : Int32} (hs0 : h.1[0]? = some (11, 15, 0)) (hs82 : h.1[82]? = some (102, 1, 0)) (hsh : h1.1 = h.1) (E : am_Ev d mX11_winters [.inr (0, 0), am_I x1, am_I x2, am_I x3, am_I x4] h (.inl (some (am_I v), h1))) : am_EvH (d + 1) [(0, 14, 17, 13)] mL_winters [.inr (0, 0), am_I x1, am_I x2, am_I x3, am_I x4, .inr (82, 0)] h (am_I 0) (am_ur h1 82 0 (am_lc v)) := by
  refine am_EvH.of (by decide +kernel) rfl rfl ?_
  change am_AtG _ _ _ _ _ 0 [_, _, _, _, _, _, _] [] _ _
  refine gm_aload dL_winters_0 rfl ?_
  refine gm_iconst 0 (v := 0) dL_winters_2 (by decide) ?_
  refine gm_aload_n dL_winters_3 rfl ?_
  refine gm_iload_n dL_winters_4 rfl ?_
  refine gm_iload_n dL_winters_5 rfl ?_
  refine gm_iload_n dL_winters_6 rfl ?_
  refine gm_iload dL_winters_7 rfl ?_
  refine gm_callV [_, _, _, _] dL_winters_9 ml_L_104 vm_X11_winters hs0 rfl (fun _ => zq _ rfl) (Nat.le_refl _) rfl E hsh ?_
  change am_AtG _ _ _ _ _ 12 [_, _, _, _, _, _, _] [_, _, _] _ _
  refine gm_i2l dL_winters_12 ?_
  refine gm_last (x := v) dL_winters_13 (hsh ▸ hs82) (am_lit rfl) ?_
  refine gm_goto (7) 21 dL_winters_14 rfl ?_
  refine gm_iconst 0 (v := 0) dL_winters_21 (by decide) ?_
  exact gm_iret dL_winters_22 rfl rfl (fun D cy A ad args s t hX hP hD hF => ⟨⟨_, _, ad, rfl, rfl, am_ag.rf (by first | exact congrArg List.length hsh | rfl), hP, hD⟩, hF⟩)
theorem hx_winters_I {d : Nat} {h h1 : am_H} {x1 x2 x3 x4 : Int32} (hs0 : h.1[0]? = some (11, 15, 0)) (hs82 : h.1[82]? = some (102, 1, 0)) (hsh : h1.1 = h.1) (E : am_Ev d mX11_winters [.inr (0, 0), am_I x1, am_I x2, am_I x3, am_I x4] h (.inr (lwI, h1))) : am_EvH (d + 1) [(0, 14, 17, 13)] mL_winters [.inr (0, 0), am_I x1, am_I x2, am_I x3, am_I x4, .inr (82, 0)] h (am_I 1) h1 := by
  refine am_EvH.of (by decide +kernel) rfl rfl ?_
  change am_AtG _ _ _ _ _ 0 [_, _, _, _, _, _, _] [] _ _
  refine gm_aload dL_winters_0 rfl ?_
  refine gm_iconst 0 (v := 0) dL_winters_2 (by decide) ?_
  refine gm_aload_n dL_winters_3 rfl ?_
  refine gm_iload_n dL_winters_4 rfl ?_
  refine gm_iload_n dL_winters_5 rfl ?_
  refine gm_iload_n dL_winters_6 rfl ?_
  refine gm_iload dL_winters_7 rfl ?_
  refine gm_callVC (r' := (am_nc h, am_ns h)) [_, _, _, _] dL_winters_9 ml_L_104 vm_X11_winters hs0 rfl (fun _ => zq _ rfl) (Nat.le_refl _) rfl E hsh (fun _ _ _ z => z) tk_winters_I (Nat.le_refl _) (Nat.le_refl _) (Nat.le_refl _) (Nat.le_refl _) (fun q => ?_)
  change am_AtG _ _ _ _ _ 17 [_, _, _, _, _, _, _] [_] _ _
  refine gm_astx dL_winters_17 (am_lb rfl) ?_
  refine gm_iconst 1 (v := 1) dL_winters_19 (by decide) ?_
  exact gm_iret dL_winters_20 rfl rfl (fun D cy A ad args s t hX hP hD hF => ⟨⟨_, _, ad, rfl, rfl, am_ag.rf (by first | exact congrArg List.length hsh | rfl), hP, hD⟩, hF⟩)
theorem hp_span {d : Nat} {h h1 : am_H} {x1 x2 x3 x4 x5 : Int32} {v : Int32} (hs0 : h.1[0]? = some (11, 15, 0)) (hs82 : h.1[82]? = some (102, 1, 0)) (hsh : h1.1 = h.1) (E : am_Ev d mX11_span [.inr (0, 0), am_I x1, am_I x2, am_I x3, am_I x4, am_I x5] h (.inl (some (am_I v), h1))) : am_EvH (d + 1) [(0, 16, 19, 13)] mL_span [.inr (0, 0), am_I x1, am_I x2, am_I x3, am_I x4, am_I x5, .inr (82, 0)] h (am_I 0) (am_ur h1 82 0 (am_lc v)) := by
  refine am_EvH.of (by decide +kernel) rfl rfl ?_
  change am_AtG _ _ _ _ _ 0 [_, _, _, _, _, _, _, _] [] _ _
  refine gm_aload dL_span_0 rfl ?_
  refine gm_iconst 0 (v := 0) dL_span_2 (by decide) ?_
  refine gm_aload_n dL_span_3 rfl ?_
  refine gm_iload_n dL_span_4 rfl ?_
  refine gm_iload_n dL_span_5 rfl ?_
  refine gm_iload_n dL_span_6 rfl ?_
  refine gm_iload dL_span_7 rfl ?_
  refine gm_iload dL_span_9 rfl ?_
  refine gm_callV [_, _, _, _, _] dL_span_11 ml_L_108 vm_X11_span hs0 rfl (fun _ => zq _ rfl) (Nat.le_refl _) rfl E hsh ?_
  change am_AtG _ _ _ _ _ 14 [_, _, _, _, _, _, _, _] [_, _, _] _ _
  refine gm_i2l dL_span_14 ?_
  refine gm_last (x := v) dL_span_15 (hsh ▸ hs82) (am_lit rfl) ?_
  refine gm_goto (7) 23 dL_span_16 rfl ?_
  refine gm_iconst 0 (v := 0) dL_span_23 (by decide) ?_
  exact gm_iret dL_span_24 rfl rfl (fun D cy A ad args s t hX hP hD hF => ⟨⟨_, _, ad, rfl, rfl, am_ag.rf (by first | exact congrArg List.length hsh | rfl), hP, hD⟩, hF⟩)
theorem hx_span_I {d : Nat} {h h1 : am_H} {x1 x2 x3 x4 x5 : Int32} (hs0 : h.1[0]? = some (11, 15, 0)) (hs82 : h.1[82]? = some (102, 1, 0)) (hsh : h1.1 = h.1) (E : am_Ev d mX11_span [.inr (0, 0), am_I x1, am_I x2, am_I x3, am_I x4, am_I x5] h (.inr (lwI, h1))) : am_EvH (d + 1) [(0, 16, 19, 13)] mL_span [.inr (0, 0), am_I x1, am_I x2, am_I x3, am_I x4, am_I x5, .inr (82, 0)] h (am_I 1) h1 := by
  refine am_EvH.of (by decide +kernel) rfl rfl ?_
  change am_AtG _ _ _ _ _ 0 [_, _, _, _, _, _, _, _] [] _ _
  refine gm_aload dL_span_0 rfl ?_
  refine gm_iconst 0 (v := 0) dL_span_2 (by decide) ?_
  refine gm_aload_n dL_span_3 rfl ?_
  refine gm_iload_n dL_span_4 rfl ?_
  refine gm_iload_n dL_span_5 rfl ?_
  refine gm_iload_n dL_span_6 rfl ?_
  refine gm_iload dL_span_7 rfl ?_
  refine gm_iload dL_span_9 rfl ?_
  refine gm_callVC (r' := (am_nc h, am_ns h)) [_, _, _, _, _] dL_span_11 ml_L_108 vm_X11_span hs0 rfl (fun _ => zq _ rfl) (Nat.le_refl _) rfl E hsh (fun _ _ _ z => z) tk_span_I (Nat.le_refl _) (Nat.le_refl _) (Nat.le_refl _) (Nat.le_refl _) (fun q => ?_)
  change am_AtG _ _ _ _ _ 19 [_, _, _, _, _, _, _, _] [_] _ _
  refine gm_astx dL_span_19 (am_lb rfl) ?_
  refine gm_iconst 1 (v := 1) dL_span_21 (by decide) ?_
  exact gm_iret dL_span_22 rfl rfl (fun D cy A ad args s t hX hP hD hF => ⟨⟨_, _, ad, rfl, rfl, am_ag.rf (by first | exact congrArg List.length hsh | rfl), hP, hD⟩, hF⟩)
