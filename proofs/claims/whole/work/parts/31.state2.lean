theorem ev_lifted {d : Nat} {h : am_H} (g : lay h) : am_Ev (d + 0) mX8_lifted [.inr (29, 0)] h (.inl (some (am_I (h.2.1 30 0 1)), h)) := by
  refine am_Ev.mk (by decide +kernel) rfl rfl (Nat.le_refl _) (Nat.le_refl _) ?_
  change am_At _ _ _ 0 [_] [] _ _
  refine am_aload_n dX8_lifted_0 rfl ?_
  refine am_getR 8 0 30 dX8_lifted_1 fg_X8_11 (sh_29 g) (by decide) rfl (rf_29_0 g) ?_
  refine am_iconst 1 (v := 1) dX8_lifted_4 (by decide) ?_
  refine am_iald dX8_lifted_5 (am_ia.one (sh_30 g)) (am_lit rfl) ?_
  exact am_iret dX8_lifted_6 rfl
theorem ev_shut {d : Nat} {h : am_H} (g : lay h) : am_Ev (d + 0) mX8_shut [.inr (29, 0)] h (.inl (some (am_I (h.2.1 30 0 2)), h)) := by
  refine am_Ev.mk (by decide +kernel) rfl rfl (Nat.le_refl _) (Nat.le_refl _) ?_
  change am_At _ _ _ 0 [_] [] _ _
  refine am_aload_n dX8_shut_0 rfl ?_
  refine am_getR 8 0 30 dX8_shut_1 fg_X8_11 (sh_29 g) (by decide) rfl (rf_29_0 g) ?_
  refine am_iconst 2 (v := 2) dX8_shut_4 (by decide) ?_
  refine am_iald dX8_shut_5 (am_ia.one (sh_30 g)) (am_lit rfl) ?_
  exact am_iret dX8_shut_6 rfl
theorem ev_knocksAt {d : Nat} {h : am_H} (g : lay h) {b : Int32} (s1 : vp_in ((19 : Int32) + b) 47) : am_Ev (d + 0) mX8_knocksAt [.inr (29, 0), am_I b] h (.inl (some (am_I (h.2.1 30 0 (((19 : Int32) + b).toNatClampNeg))), h)) := by
  refine am_Ev.mk (by decide +kernel) rfl rfl (Nat.le_refl _) (Nat.le_refl _) ?_
  change am_At _ _ _ 0 [_, _] [] _ _
  refine am_aload_n dX8_knocksAt_0 rfl ?_
  refine am_getR 8 0 30 dX8_knocksAt_1 fg_X8_11 (sh_29 g) (by decide) rfl (rf_29_0 g) ?_
  refine am_bipush 19 (v := 19) dX8_knocksAt_4 (by decide) ?_
  refine am_iload_n dX8_knocksAt_6 rfl ?_
  refine am_iadd dX8_knocksAt_7 ?_
  refine am_iald dX8_knocksAt_8 (am_ia.one (sh_30 g)) s1 ?_
  exact am_iret dX8_knocksAt_9 rfl
theorem ev_whereIs {d : Nat} {h : am_H} (g : lay h) {b : Int32} (s1 : vp_in ((35 : Int32) + b) 47) : am_Ev (d + 0) mX8_whereIs [.inr (29, 0), am_I b] h (.inl (some (am_I (h.2.1 30 0 (((35 : Int32) + b).toNatClampNeg))), h)) := by
  refine am_Ev.mk (by decide +kernel) rfl rfl (Nat.le_refl _) (Nat.le_refl _) ?_
  change am_At _ _ _ 0 [_, _] [] _ _
  refine am_aload_n dX8_whereIs_0 rfl ?_
  refine am_getR 8 0 30 dX8_whereIs_1 fg_X8_11 (sh_29 g) (by decide) rfl (rf_29_0 g) ?_
  refine am_bipush 35 (v := 35) dX8_whereIs_4 (by decide) ?_
  refine am_iload_n dX8_whereIs_6 rfl ?_
  refine am_iadd dX8_whereIs_7 ?_
  refine am_iald dX8_whereIs_8 (am_ia.one (sh_30 g)) s1 ?_
  exact am_iret dX8_whereIs_9 rfl
theorem ev_passedBy {d : Nat} {h : am_H} (g : lay h) {b : Int32} (s1 : vp_in ((39 : Int32) + b) 47) : am_Ev (d + 0) mX8_passedBy [.inr (29, 0), am_I b] h (.inl (some (am_I (h.2.1 30 0 (((39 : Int32) + b).toNatClampNeg))), h)) := by
  refine am_Ev.mk (by decide +kernel) rfl rfl (Nat.le_refl _) (Nat.le_refl _) ?_
  change am_At _ _ _ 0 [_, _] [] _ _
  refine am_aload_n dX8_passedBy_0 rfl ?_
  refine am_getR 8 0 30 dX8_passedBy_1 fg_X8_11 (sh_29 g) (by decide) rfl (rf_29_0 g) ?_
  refine am_bipush 39 (v := 39) dX8_passedBy_4 (by decide) ?_
  refine am_iload_n dX8_passedBy_6 rfl ?_
  refine am_iadd dX8_passedBy_7 ?_
  refine am_iald dX8_passedBy_8 (am_ia.one (sh_30 g)) s1 ?_
  exact am_iret dX8_passedBy_9 rfl
theorem ev_throughHour {d : Nat} {h : am_H} (g : lay h) {b : Int32} (s1 : vp_in ((43 : Int32) + b) 47) : am_Ev (d + 0) mX8_throughHour [.inr (29, 0), am_I b] h (.inl (some (am_I (h.2.1 30 0 (((43 : Int32) + b).toNatClampNeg))), h)) := by
  refine am_Ev.mk (by decide +kernel) rfl rfl (Nat.le_refl _) (Nat.le_refl _) ?_
  change am_At _ _ _ 0 [_, _] [] _ _
  refine am_aload_n dX8_throughHour_0 rfl ?_
  refine am_getR 8 0 30 dX8_throughHour_1 fg_X8_11 (sh_29 g) (by decide) rfl (rf_29_0 g) ?_
  refine am_bipush 43 (v := 43) dX8_throughHour_4 (by decide) ?_
  refine am_iload_n dX8_throughHour_6 rfl ?_
  refine am_iadd dX8_throughHour_7 ?_
  refine am_iald dX8_throughHour_8 (am_ia.one (sh_30 g)) s1 ?_
  exact am_iret dX8_throughHour_9 rfl
theorem ev_addHour {d : Nat} {h : am_H} (g : lay h) : am_Ev (d + 0) mX8_addHour [.inr (29, 0)] h (.inl (none, (am_hM h (am_u3 h.2.1 30 0 0 ((h.2.1 30 0 0) + (1 : Int32)))))) := by
  refine am_Ev.mk (by decide +kernel) rfl rfl (Nat.le_refl _) (Nat.le_refl _) ?_
  change am_At _ _ _ 0 [_] [] _ _
  refine am_aload_n dX8_addHour_0 rfl ?_
  refine am_getR 8 0 30 dX8_addHour_1 fg_X8_11 (sh_29 g) (by decide) rfl (rf_29_0 g) ?_
  refine am_iconst 0 (v := 0) dX8_addHour_4 (by decide) ?_
  refine am_dup2 dX8_addHour_5 (fun _ => rfl) (fun _ => rfl) ?_
  refine am_iald dX8_addHour_6 (am_ia.one (sh_30 g)) (am_lit rfl) ?_
  refine am_iconst 1 (v := 1) dX8_addHour_7 (by decide) ?_
  refine am_iadd dX8_addHour_8 ?_
  refine am_iast dX8_addHour_9 (am_ia.one (sh_30 g)) (am_lit rfl) ?_
  exact am_vret dX8_addHour_10 rfl
theorem ev_knock {d : Nat} {h : am_H} (g : lay h) {b : Int32} (s1 : vp_in ((19 : Int32) + b) 47) (s2 : vp_in ((19 : Int32) + b) 47) : am_Ev (d + 0) mX8_knock [.inr (29, 0), am_I b] h (.inl (none, (am_hM h (am_u3 h.2.1 30 0 (((19 : Int32) + b).toNatClampNeg) ((h.2.1 30 0 (((19 : Int32) + b).toNatClampNeg)) + (1 : Int32)))))) := by
  refine am_Ev.mk (by decide +kernel) rfl rfl (Nat.le_refl _) (Nat.le_refl _) ?_
  change am_At _ _ _ 0 [_, _] [] _ _
  refine am_aload_n dX8_knock_0 rfl ?_
  refine am_getR 8 0 30 dX8_knock_1 fg_X8_11 (sh_29 g) (by decide) rfl (rf_29_0 g) ?_
  refine am_bipush 19 (v := 19) dX8_knock_4 (by decide) ?_
  refine am_iload_n dX8_knock_6 rfl ?_
  refine am_iadd dX8_knock_7 ?_
  refine am_dup2 dX8_knock_8 (fun _ => rfl) (fun _ => rfl) ?_
  refine am_iald dX8_knock_9 (am_ia.one (sh_30 g)) s1 ?_
  refine am_iconst 1 (v := 1) dX8_knock_10 (by decide) ?_
  refine am_iadd dX8_knock_11 ?_
  refine am_iast dX8_knock_12 (am_ia.one (sh_30 g)) s2 ?_
  exact am_vret dX8_knock_13 rfl
theorem ev_come {d : Nat} {h : am_H} (g : lay h) {b : Int32} (s1 : vp_in ((35 : Int32) + b) 47) : am_Ev (d + 0) mX8_come [.inr (29, 0), am_I b] h (.inl (none, (am_hM h (am_u3 h.2.1 30 0 (((35 : Int32) + b).toNatClampNeg) (1 : Int32))))) := by
  refine am_Ev.mk (by decide +kernel) rfl rfl (Nat.le_refl _) (Nat.le_refl _) ?_
  change am_At _ _ _ 0 [_, _] [] _ _
  refine am_aload_n dX8_come_0 rfl ?_
  refine am_getR 8 0 30 dX8_come_1 fg_X8_11 (sh_29 g) (by decide) rfl (rf_29_0 g) ?_
  refine am_bipush 35 (v := 35) dX8_come_4 (by decide) ?_
  refine am_iload_n dX8_come_6 rfl ?_
  refine am_iadd dX8_come_7 ?_
  refine am_iconst 1 (v := 1) dX8_come_8 (by decide) ?_
  refine am_iast dX8_come_9 (am_ia.one (sh_30 g)) s1 ?_
  exact am_vret dX8_come_10 rfl
theorem ev_pass {d : Nat} {h : am_H} (g : lay h) {b v : Int32} (s1 : vp_in ((39 : Int32) + b) 47) : am_Ev (d + 0) mX8_pass [.inr (29, 0), am_I b, am_I v] h (.inl (none, (am_hM h (am_u3 h.2.1 30 0 (((39 : Int32) + b).toNatClampNeg) v)))) := by
  refine am_Ev.mk (by decide +kernel) rfl rfl (Nat.le_refl _) (Nat.le_refl _) ?_
  change am_At _ _ _ 0 [_, _, _] [] _ _
  refine am_aload_n dX8_pass_0 rfl ?_
  refine am_getR 8 0 30 dX8_pass_1 fg_X8_11 (sh_29 g) (by decide) rfl (rf_29_0 g) ?_
  refine am_bipush 39 (v := 39) dX8_pass_4 (by decide) ?_
  refine am_iload_n dX8_pass_6 rfl ?_
  refine am_iadd dX8_pass_7 ?_
  refine am_iload_n dX8_pass_8 rfl ?_
  refine am_iast dX8_pass_9 (am_ia.one (sh_30 g)) s1 ?_
  exact am_vret dX8_pass_10 rfl
theorem ev_modeOf {d : Nat} {h : am_H} (g : lay h) {b : Int32} : am_Ev (d + 1) mX8_modeOf [.inr (29, 0), am_I b] h (.inl (some (am_I (if (bitZ (h.2.1 30 0 1) b) = 0 then (if (bitZ (h.2.1 30 0 2) b) = 0 then (0 : Int32) else (2 : Int32)) else (1 : Int32))), h)) := by
  refine am_Ev.mk (by decide +kernel) rfl rfl (Nat.le_refl _) (Nat.le_refl _) ?_
  change am_At _ _ _ 0 [_, _] [] _ _
  refine am_aload_n dX8_modeOf_0 rfl ?_
  refine am_callV [] dX8_modeOf_1 ml_X8_27 vm_X8_lifted (sh_29 g) rfl (fun _ => Nat.le_of_ble_eq_true rfl) (by omega) rfl (ev_lifted (d := d + 0) g ) rfl ?_
  change am_At _ _ _ 4 [_, _] [_] _ _
  refine am_iload_n dX8_modeOf_4 rfl ?_
  refine am_callSN (c := 0) (k := 0) (n := 0) (w := 0) [_, _] dX8_modeOf_5 ml_X8_31 sm_X11_isBitOf rfl (fun _ => Nat.le_of_ble_eq_true rfl) (by omega) rfl (ev_isBitOf (d := d + 0)  ) rfl ?_
  change am_At _ _ _ 8 [_, _] [_] _ _
  refine am_if_eq (5) 13 dX8_modeOf_8 rfl ?_ ?_
  · intro hc1
    have hc1 : (bitZ (h.2.1 30 0 1) b) = 0 := hc1
    refine am_aload_n dX8_modeOf_13 rfl ?_
    refine am_callV [] dX8_modeOf_14 ml_X8_35 vm_X8_shut (sh_29 g) rfl (fun _ => Nat.le_of_ble_eq_true rfl) (by omega) rfl (ev_shut (d := d + 0) g ) rfl ?_
    change am_At _ _ _ 17 [_, _] [_] _ _
    refine am_iload_n dX8_modeOf_17 rfl ?_
    refine am_callSN (c := 0) (k := 0) (n := 0) (w := 0) [_, _] dX8_modeOf_18 ml_X8_31 sm_X11_isBitOf rfl (fun _ => Nat.le_of_ble_eq_true rfl) (by omega) rfl (ev_isBitOf (d := d + 0)  ) rfl ?_
    change am_At _ _ _ 21 [_, _] [_] _ _
    refine am_if_eq (7) 28 dX8_modeOf_21 rfl ?_ ?_
    · intro hc2
      have hc2 : (bitZ (h.2.1 30 0 2) b) = 0 := hc2
      refine am_iconst 0 (v := 0) dX8_modeOf_28 (by decide) ?_
      refine am_At.end ?_ (am_iret dX8_modeOf_29 rfl)
      first | rfl | (simp only [if_pos hc1, if_pos hc2]; done) | (simp only [if_pos hc1, if_pos hc2]; rfl)
    · intro hc2n
      have hc2n : ¬ ((bitZ (h.2.1 30 0 2) b) = 0) := hc2n
      refine am_iconst 2 (v := 2) dX8_modeOf_24 (by decide) ?_
      refine am_goto (4) 29 dX8_modeOf_25 rfl ?_
      refine am_At.end ?_ (am_iret dX8_modeOf_29 rfl)
      first | rfl | (simp only [if_pos hc1, if_neg hc2n]; done) | (simp only [if_pos hc1, if_neg hc2n]; rfl)
  · intro hc1n
    have hc1n : ¬ ((bitZ (h.2.1 30 0 1) b) = 0) := hc1n
    refine am_iconst 1 (v := 1) dX8_modeOf_11 (by decide) ?_
    refine am_At.end ?_ (am_iret dX8_modeOf_12 rfl)
    first | rfl | (simp only [if_neg hc1n]; done) | (simp only [if_neg hc1n]; rfl)
theorem ev_setMode {d : Nat} {h : am_H} (g : lay h) {b v : Int32} : am_Ev (d + 1) mX8_setMode [.inr (29, 0), am_I b, am_I v] h (.inl (none, (am_hM h (if v = (1 : Int32) then (if v = (2 : Int32) then (am_u3 (am_u3 h.2.1 30 0 1 ((h.2.1 30 0 1) ||| ((1 : Int32) <<< (b &&& 31)))) 30 0 2 (((am_u3 h.2.1 30 0 1 ((h.2.1 30 0 1) ||| ((1 : Int32) <<< (b &&& 31)))) 30 0 2) ||| ((1 : Int32) <<< (b &&& 31)))) else (am_u3 (am_u3 h.2.1 30 0 1 ((h.2.1 30 0 1) ||| ((1 : Int32) <<< (b &&& 31)))) 30 0 2 (((am_u3 h.2.1 30 0 1 ((h.2.1 30 0 1) ||| ((1 : Int32) <<< (b &&& 31)))) 30 0 2) &&& (((1 : Int32) <<< (b &&& 31)) ^^^ (-1 : Int32))))) else (if v = (2 : Int32) then (am_u3 (am_u3 h.2.1 30 0 1 ((h.2.1 30 0 1) &&& (((1 : Int32) <<< (b &&& 31)) ^^^ (-1 : Int32)))) 30 0 2 (((am_u3 h.2.1 30 0 1 ((h.2.1 30 0 1) &&& (((1 : Int32) <<< (b &&& 31)) ^^^ (-1 : Int32)))) 30 0 2) ||| ((1 : Int32) <<< (b &&& 31)))) else (am_u3 (am_u3 h.2.1 30 0 1 ((h.2.1 30 0 1) &&& (((1 : Int32) <<< (b &&& 31)) ^^^ (-1 : Int32)))) 30 0 2 (((am_u3 h.2.1 30 0 1 ((h.2.1 30 0 1) &&& (((1 : Int32) <<< (b &&& 31)) ^^^ (-1 : Int32)))) 30 0 2) &&& (((1 : Int32) <<< (b &&& 31)) ^^^ (-1 : Int32))))))))) := by
  refine am_Ev.mk (by decide +kernel) rfl rfl (Nat.le_refl _) (Nat.le_refl _) ?_
  change am_At _ _ _ 0 [_, _, _, _] [] _ _
  refine am_iconst 1 (v := 1) dX8_setMode_0 (by decide) ?_
  refine am_iload_n dX8_setMode_1 rfl ?_
  refine am_ishl dX8_setMode_2 ?_
  refine am_istore_n dX8_setMode_3 (am_lb rfl) ?_
  change am_At _ _ _ 4 [_, _, _, _] [] _ _
  refine am_aload_n dX8_setMode_4 rfl ?_
  refine am_getR 8 0 30 dX8_setMode_5 fg_X8_11 (sh_29 g) (by decide) rfl (rf_29_0 g) ?_
  refine am_iconst 1 (v := 1) dX8_setMode_8 (by decide) ?_
  refine am_iload_n dX8_setMode_9 rfl ?_
  refine am_iconst 1 (v := 1) dX8_setMode_10 (by decide) ?_
  refine am_icmp_ne (12) 23 dX8_setMode_11 rfl ?_ ?_
  · intro hc1n
    have hc1n : ¬ (v = (1 : Int32)) := hc1n
    refine am_aload_n dX8_setMode_23 rfl ?_
    refine am_callV [] dX8_setMode_24 ml_X8_27 vm_X8_lifted (sh_29 g) rfl (fun _ => Nat.le_of_ble_eq_true rfl) (by omega) rfl (ev_lifted (d := d + 0) g ) rfl ?_
    change am_At _ _ _ 27 [_, _, _, _] [_, _, _] _ _
    refine am_iload_n dX8_setMode_27 rfl ?_
    refine am_iconst (-1) (v := (-1)) dX8_setMode_28 (by decide) ?_
    refine am_ixor dX8_setMode_29 ?_
    refine am_iand dX8_setMode_30 ?_
    refine am_iast dX8_setMode_31 (am_ia.one (sh_30 g)) (am_lit rfl) ?_
    refine am_aload_n dX8_setMode_32 rfl ?_
    refine am_getR 8 0 30 dX8_setMode_33 fg_X8_11 (sh_29 g) (by decide) rfl (rf_29_0 g) ?_
    refine am_iconst 2 (v := 2) dX8_setMode_36 (by decide) ?_
    refine am_iload_n dX8_setMode_37 rfl ?_
    refine am_iconst 2 (v := 2) dX8_setMode_38 (by decide) ?_
    refine am_icmp_ne (12) 51 dX8_setMode_39 rfl ?_ ?_
    · intro hc2n
      have hc2n : ¬ (v = (2 : Int32)) := hc2n
      refine am_aload_n dX8_setMode_51 rfl ?_
      refine am_callV [] dX8_setMode_52 ml_X8_35 vm_X8_shut (sh_29 g) rfl (fun _ => Nat.le_of_ble_eq_true rfl) (by omega) rfl (ev_shut (d := d + 0) (h := am_hM h (am_u3 h.2.1 30 0 1 ((h.2.1 30 0 1) &&& (((1 : Int32) <<< (b &&& 31)) ^^^ (-1 : Int32))))) g ) rfl ?_
      change am_At _ _ _ 55 [_, _, _, _] [_, _, _] _ _
      refine am_iload_n dX8_setMode_55 rfl ?_
      refine am_iconst (-1) (v := (-1)) dX8_setMode_56 (by decide) ?_
      refine am_ixor dX8_setMode_57 ?_
      refine am_iand dX8_setMode_58 ?_
      refine am_iast dX8_setMode_59 (am_ia.one (sh_30 g)) (am_lit rfl) ?_
      refine am_At.end ?_ (am_vret dX8_setMode_60 rfl)
      first | rfl | (simp only [if_neg hc1n, if_neg hc2n]; done) | (simp only [if_neg hc1n, if_neg hc2n]; rfl)
    · intro hc2
      have hc2 : v = (2 : Int32) := hc2
      refine am_aload_n dX8_setMode_42 rfl ?_
      refine am_callV [] dX8_setMode_43 ml_X8_35 vm_X8_shut (sh_29 g) rfl (fun _ => Nat.le_of_ble_eq_true rfl) (by omega) rfl (ev_shut (d := d + 0) (h := am_hM h (am_u3 h.2.1 30 0 1 ((h.2.1 30 0 1) &&& (((1 : Int32) <<< (b &&& 31)) ^^^ (-1 : Int32))))) g ) rfl ?_
      change am_At _ _ _ 46 [_, _, _, _] [_, _, _] _ _
      refine am_iload_n dX8_setMode_46 rfl ?_
      refine am_ior dX8_setMode_47 ?_
      refine am_goto (11) 59 dX8_setMode_48 rfl ?_
      refine am_iast dX8_setMode_59 (am_ia.one (sh_30 g)) (am_lit rfl) ?_
      refine am_At.end ?_ (am_vret dX8_setMode_60 rfl)
      first | rfl | (simp only [if_neg hc1n, if_pos hc2]; done) | (simp only [if_neg hc1n, if_pos hc2]; rfl)
  · intro hc1
    have hc1 : v = (1 : Int32) := hc1
    refine am_aload_n dX8_setMode_14 rfl ?_
    refine am_callV [] dX8_setMode_15 ml_X8_27 vm_X8_lifted (sh_29 g) rfl (fun _ => Nat.le_of_ble_eq_true rfl) (by omega) rfl (ev_lifted (d := d + 0) g ) rfl ?_
    change am_At _ _ _ 18 [_, _, _, _] [_, _, _] _ _
    refine am_iload_n dX8_setMode_18 rfl ?_
    refine am_ior dX8_setMode_19 ?_
    refine am_goto (11) 31 dX8_setMode_20 rfl ?_
    refine am_iast dX8_setMode_31 (am_ia.one (sh_30 g)) (am_lit rfl) ?_
    refine am_aload_n dX8_setMode_32 rfl ?_
    refine am_getR 8 0 30 dX8_setMode_33 fg_X8_11 (sh_29 g) (by decide) rfl (rf_29_0 g) ?_
    refine am_iconst 2 (v := 2) dX8_setMode_36 (by decide) ?_
    refine am_iload_n dX8_setMode_37 rfl ?_
    refine am_iconst 2 (v := 2) dX8_setMode_38 (by decide) ?_
    refine am_icmp_ne (12) 51 dX8_setMode_39 rfl ?_ ?_
    · intro hc2n
      have hc2n : ¬ (v = (2 : Int32)) := hc2n
      refine am_aload_n dX8_setMode_51 rfl ?_
      refine am_callV [] dX8_setMode_52 ml_X8_35 vm_X8_shut (sh_29 g) rfl (fun _ => Nat.le_of_ble_eq_true rfl) (by omega) rfl (ev_shut (d := d + 0) (h := am_hM h (am_u3 h.2.1 30 0 1 ((h.2.1 30 0 1) ||| ((1 : Int32) <<< (b &&& 31))))) g ) rfl ?_
      change am_At _ _ _ 55 [_, _, _, _] [_, _, _] _ _
      refine am_iload_n dX8_setMode_55 rfl ?_
      refine am_iconst (-1) (v := (-1)) dX8_setMode_56 (by decide) ?_
      refine am_ixor dX8_setMode_57 ?_
      refine am_iand dX8_setMode_58 ?_
      refine am_iast dX8_setMode_59 (am_ia.one (sh_30 g)) (am_lit rfl) ?_
      refine am_At.end ?_ (am_vret dX8_setMode_60 rfl)
      first | rfl | (simp only [if_pos hc1, if_neg hc2n]; done) | (simp only [if_pos hc1, if_neg hc2n]; rfl)
    · intro hc2
      have hc2 : v = (2 : Int32) := hc2
      refine am_aload_n dX8_setMode_42 rfl ?_
      refine am_callV [] dX8_setMode_43 ml_X8_35 vm_X8_shut (sh_29 g) rfl (fun _ => Nat.le_of_ble_eq_true rfl) (by omega) rfl (ev_shut (d := d + 0) (h := am_hM h (am_u3 h.2.1 30 0 1 ((h.2.1 30 0 1) ||| ((1 : Int32) <<< (b &&& 31))))) g ) rfl ?_
      change am_At _ _ _ 46 [_, _, _, _] [_, _, _] _ _
      refine am_iload_n dX8_setMode_46 rfl ?_
      refine am_ior dX8_setMode_47 ?_
      refine am_goto (11) 59 dX8_setMode_48 rfl ?_
      refine am_iast dX8_setMode_59 (am_ia.one (sh_30 g)) (am_lit rfl) ?_
      refine am_At.end ?_ (am_vret dX8_setMode_60 rfl)
      first | rfl | (simp only [if_pos hc1, if_pos hc2]; done) | (simp only [if_pos hc1, if_pos hc2]; rfl)
theorem ev_leave {d : Nat} {h : am_H} (g : lay h) {b : Int32} (s1 : vp_in ((35 : Int32) + b) 47) (s2 : vp_in ((43 : Int32) + b) 47) : am_Ev (d + 1) mX8_leave [.inr (29, 0), am_I b] h (.inl (none, (am_hM h (am_u3 (am_u3 h.2.1 30 0 (((35 : Int32) + b).toNatClampNeg) (2 : Int32)) 30 0 (((43 : Int32) + b).toNatClampNeg) ((am_u3 h.2.1 30 0 (((35 : Int32) + b).toNatClampNeg) (2 : Int32)) 30 0 0))))) := by
  refine am_Ev.mk (by decide +kernel) rfl rfl (Nat.le_refl _) (Nat.le_refl _) ?_
  change am_At _ _ _ 0 [_, _] [] _ _
  refine am_aload_n dX8_leave_0 rfl ?_
  refine am_getR 8 0 30 dX8_leave_1 fg_X8_11 (sh_29 g) (by decide) rfl (rf_29_0 g) ?_
  refine am_bipush 35 (v := 35) dX8_leave_4 (by decide) ?_
  refine am_iload_n dX8_leave_6 rfl ?_
  refine am_iadd dX8_leave_7 ?_
  refine am_iconst 2 (v := 2) dX8_leave_8 (by decide) ?_
  refine am_iast dX8_leave_9 (am_ia.one (sh_30 g)) s1 ?_
  refine am_aload_n dX8_leave_10 rfl ?_
  refine am_getR 8 0 30 dX8_leave_11 fg_X8_11 (sh_29 g) (by decide) rfl (rf_29_0 g) ?_
  refine am_bipush 43 (v := 43) dX8_leave_14 (by decide) ?_
  refine am_iload_n dX8_leave_16 rfl ?_
  refine am_iadd dX8_leave_17 ?_
  refine am_aload_n dX8_leave_18 rfl ?_
  refine am_callV [] dX8_leave_19 ml_X8_38 vm_X8_hour (sh_29 g) rfl (fun _ => Nat.le_of_ble_eq_true rfl) (by omega) rfl (ev_hour (d := d + 0) (h := am_hM h (am_u3 h.2.1 30 0 (((35 : Int32) + b).toNatClampNeg) (2 : Int32))) g ) rfl ?_
  change am_At _ _ _ 22 [_, _] [_, _, _] _ _
  refine am_iast dX8_leave_22 (am_ia.one (sh_30 g)) s2 ?_
  exact am_vret dX8_leave_23 rfl
theorem ev_liftedT {d : Nat} {h : am_H} (g : lay h) : am_Ev (d + 0) mX8_lifted [.inr (39, 0)] h (.inl (some (am_I (h.2.1 40 0 1)), h)) := by
  refine am_Ev.mk (by decide +kernel) rfl rfl (Nat.le_refl _) (Nat.le_refl _) ?_
  change am_At _ _ _ 0 [_] [] _ _
  refine am_aload_n dX8_lifted_0 rfl ?_
  refine am_getR 8 0 40 dX8_lifted_1 fg_X8_11 (sh_39 g) (by decide) rfl (rf_39_0 g) ?_
  refine am_iconst 1 (v := 1) dX8_lifted_4 (by decide) ?_
  refine am_iald dX8_lifted_5 (am_ia.one (sh_40 g)) (am_lit rfl) ?_
  exact am_iret dX8_lifted_6 rfl
theorem ev_shutT {d : Nat} {h : am_H} (g : lay h) : am_Ev (d + 0) mX8_shut [.inr (39, 0)] h (.inl (some (am_I (h.2.1 40 0 2)), h)) := by
  refine am_Ev.mk (by decide +kernel) rfl rfl (Nat.le_refl _) (Nat.le_refl _) ?_
  change am_At _ _ _ 0 [_] [] _ _
  refine am_aload_n dX8_shut_0 rfl ?_
  refine am_getR 8 0 40 dX8_shut_1 fg_X8_11 (sh_39 g) (by decide) rfl (rf_39_0 g) ?_
  refine am_iconst 2 (v := 2) dX8_shut_4 (by decide) ?_
  refine am_iald dX8_shut_5 (am_ia.one (sh_40 g)) (am_lit rfl) ?_
  exact am_iret dX8_shut_6 rfl
theorem ev_knocksAtT {d : Nat} {h : am_H} (g : lay h) {b : Int32} (s1 : vp_in ((19 : Int32) + b) 47) : am_Ev (d + 0) mX8_knocksAt [.inr (39, 0), am_I b] h (.inl (some (am_I (h.2.1 40 0 (((19 : Int32) + b).toNatClampNeg))), h)) := by
  refine am_Ev.mk (by decide +kernel) rfl rfl (Nat.le_refl _) (Nat.le_refl _) ?_
  change am_At _ _ _ 0 [_, _] [] _ _
  refine am_aload_n dX8_knocksAt_0 rfl ?_
  refine am_getR 8 0 40 dX8_knocksAt_1 fg_X8_11 (sh_39 g) (by decide) rfl (rf_39_0 g) ?_
  refine am_bipush 19 (v := 19) dX8_knocksAt_4 (by decide) ?_
  refine am_iload_n dX8_knocksAt_6 rfl ?_
  refine am_iadd dX8_knocksAt_7 ?_
  refine am_iald dX8_knocksAt_8 (am_ia.one (sh_40 g)) s1 ?_
  exact am_iret dX8_knocksAt_9 rfl
theorem ev_whereIsT {d : Nat} {h : am_H} (g : lay h) {b : Int32} (s1 : vp_in ((35 : Int32) + b) 47) : am_Ev (d + 0) mX8_whereIs [.inr (39, 0), am_I b] h (.inl (some (am_I (h.2.1 40 0 (((35 : Int32) + b).toNatClampNeg))), h)) := by
  refine am_Ev.mk (by decide +kernel) rfl rfl (Nat.le_refl _) (Nat.le_refl _) ?_
  change am_At _ _ _ 0 [_, _] [] _ _
  refine am_aload_n dX8_whereIs_0 rfl ?_
  refine am_getR 8 0 40 dX8_whereIs_1 fg_X8_11 (sh_39 g) (by decide) rfl (rf_39_0 g) ?_
  refine am_bipush 35 (v := 35) dX8_whereIs_4 (by decide) ?_
  refine am_iload_n dX8_whereIs_6 rfl ?_
  refine am_iadd dX8_whereIs_7 ?_
  refine am_iald dX8_whereIs_8 (am_ia.one (sh_40 g)) s1 ?_
  exact am_iret dX8_whereIs_9 rfl
theorem ev_passedByT {d : Nat} {h : am_H} (g : lay h) {b : Int32} (s1 : vp_in ((39 : Int32) + b) 47) : am_Ev (d + 0) mX8_passedBy [.inr (39, 0), am_I b] h (.inl (some (am_I (h.2.1 40 0 (((39 : Int32) + b).toNatClampNeg))), h)) := by
  refine am_Ev.mk (by decide +kernel) rfl rfl (Nat.le_refl _) (Nat.le_refl _) ?_
  change am_At _ _ _ 0 [_, _] [] _ _
  refine am_aload_n dX8_passedBy_0 rfl ?_
  refine am_getR 8 0 40 dX8_passedBy_1 fg_X8_11 (sh_39 g) (by decide) rfl (rf_39_0 g) ?_
  refine am_bipush 39 (v := 39) dX8_passedBy_4 (by decide) ?_
  refine am_iload_n dX8_passedBy_6 rfl ?_
  refine am_iadd dX8_passedBy_7 ?_
  refine am_iald dX8_passedBy_8 (am_ia.one (sh_40 g)) s1 ?_
  exact am_iret dX8_passedBy_9 rfl
theorem ev_throughHourT {d : Nat} {h : am_H} (g : lay h) {b : Int32} (s1 : vp_in ((43 : Int32) + b) 47) : am_Ev (d + 0) mX8_throughHour [.inr (39, 0), am_I b] h (.inl (some (am_I (h.2.1 40 0 (((43 : Int32) + b).toNatClampNeg))), h)) := by
  refine am_Ev.mk (by decide +kernel) rfl rfl (Nat.le_refl _) (Nat.le_refl _) ?_
  change am_At _ _ _ 0 [_, _] [] _ _
  refine am_aload_n dX8_throughHour_0 rfl ?_
  refine am_getR 8 0 40 dX8_throughHour_1 fg_X8_11 (sh_39 g) (by decide) rfl (rf_39_0 g) ?_
  refine am_bipush 43 (v := 43) dX8_throughHour_4 (by decide) ?_
  refine am_iload_n dX8_throughHour_6 rfl ?_
  refine am_iadd dX8_throughHour_7 ?_
  refine am_iald dX8_throughHour_8 (am_ia.one (sh_40 g)) s1 ?_
  exact am_iret dX8_throughHour_9 rfl
theorem ev_addHourT {d : Nat} {h : am_H} (g : lay h) : am_Ev (d + 0) mX8_addHour [.inr (39, 0)] h (.inl (none, (am_hM h (am_u3 h.2.1 40 0 0 ((h.2.1 40 0 0) + (1 : Int32)))))) := by
  refine am_Ev.mk (by decide +kernel) rfl rfl (Nat.le_refl _) (Nat.le_refl _) ?_
  change am_At _ _ _ 0 [_] [] _ _
  refine am_aload_n dX8_addHour_0 rfl ?_
  refine am_getR 8 0 40 dX8_addHour_1 fg_X8_11 (sh_39 g) (by decide) rfl (rf_39_0 g) ?_
  refine am_iconst 0 (v := 0) dX8_addHour_4 (by decide) ?_
  refine am_dup2 dX8_addHour_5 (fun _ => rfl) (fun _ => rfl) ?_
  refine am_iald dX8_addHour_6 (am_ia.one (sh_40 g)) (am_lit rfl) ?_
  refine am_iconst 1 (v := 1) dX8_addHour_7 (by decide) ?_
  refine am_iadd dX8_addHour_8 ?_
  refine am_iast dX8_addHour_9 (am_ia.one (sh_40 g)) (am_lit rfl) ?_
  exact am_vret dX8_addHour_10 rfl
theorem ev_knockT {d : Nat} {h : am_H} (g : lay h) {b : Int32} (s1 : vp_in ((19 : Int32) + b) 47) (s2 : vp_in ((19 : Int32) + b) 47) : am_Ev (d + 0) mX8_knock [.inr (39, 0), am_I b] h (.inl (none, (am_hM h (am_u3 h.2.1 40 0 (((19 : Int32) + b).toNatClampNeg) ((h.2.1 40 0 (((19 : Int32) + b).toNatClampNeg)) + (1 : Int32)))))) := by
  refine am_Ev.mk (by decide +kernel) rfl rfl (Nat.le_refl _) (Nat.le_refl _) ?_
  change am_At _ _ _ 0 [_, _] [] _ _
  refine am_aload_n dX8_knock_0 rfl ?_
  refine am_getR 8 0 40 dX8_knock_1 fg_X8_11 (sh_39 g) (by decide) rfl (rf_39_0 g) ?_
  refine am_bipush 19 (v := 19) dX8_knock_4 (by decide) ?_
  refine am_iload_n dX8_knock_6 rfl ?_
  refine am_iadd dX8_knock_7 ?_
  refine am_dup2 dX8_knock_8 (fun _ => rfl) (fun _ => rfl) ?_
  refine am_iald dX8_knock_9 (am_ia.one (sh_40 g)) s1 ?_
  refine am_iconst 1 (v := 1) dX8_knock_10 (by decide) ?_
  refine am_iadd dX8_knock_11 ?_
  refine am_iast dX8_knock_12 (am_ia.one (sh_40 g)) s2 ?_
  exact am_vret dX8_knock_13 rfl
theorem ev_comeT {d : Nat} {h : am_H} (g : lay h) {b : Int32} (s1 : vp_in ((35 : Int32) + b) 47) : am_Ev (d + 0) mX8_come [.inr (39, 0), am_I b] h (.inl (none, (am_hM h (am_u3 h.2.1 40 0 (((35 : Int32) + b).toNatClampNeg) (1 : Int32))))) := by
  refine am_Ev.mk (by decide +kernel) rfl rfl (Nat.le_refl _) (Nat.le_refl _) ?_
  change am_At _ _ _ 0 [_, _] [] _ _
  refine am_aload_n dX8_come_0 rfl ?_
  refine am_getR 8 0 40 dX8_come_1 fg_X8_11 (sh_39 g) (by decide) rfl (rf_39_0 g) ?_
  refine am_bipush 35 (v := 35) dX8_come_4 (by decide) ?_
  refine am_iload_n dX8_come_6 rfl ?_
  refine am_iadd dX8_come_7 ?_
  refine am_iconst 1 (v := 1) dX8_come_8 (by decide) ?_
  refine am_iast dX8_come_9 (am_ia.one (sh_40 g)) s1 ?_
  exact am_vret dX8_come_10 rfl
theorem ev_passT {d : Nat} {h : am_H} (g : lay h) {b v : Int32} (s1 : vp_in ((39 : Int32) + b) 47) : am_Ev (d + 0) mX8_pass [.inr (39, 0), am_I b, am_I v] h (.inl (none, (am_hM h (am_u3 h.2.1 40 0 (((39 : Int32) + b).toNatClampNeg) v)))) := by
  refine am_Ev.mk (by decide +kernel) rfl rfl (Nat.le_refl _) (Nat.le_refl _) ?_
  change am_At _ _ _ 0 [_, _, _] [] _ _
  refine am_aload_n dX8_pass_0 rfl ?_
  refine am_getR 8 0 40 dX8_pass_1 fg_X8_11 (sh_39 g) (by decide) rfl (rf_39_0 g) ?_
  refine am_bipush 39 (v := 39) dX8_pass_4 (by decide) ?_
  refine am_iload_n dX8_pass_6 rfl ?_
  refine am_iadd dX8_pass_7 ?_
  refine am_iload_n dX8_pass_8 rfl ?_
  refine am_iast dX8_pass_9 (am_ia.one (sh_40 g)) s1 ?_
  exact am_vret dX8_pass_10 rfl
theorem ev_modeOfT {d : Nat} {h : am_H} (g : lay h) {b : Int32} : am_Ev (d + 1) mX8_modeOf [.inr (39, 0), am_I b] h (.inl (some (am_I (if (bitZ (h.2.1 40 0 1) b) = 0 then (if (bitZ (h.2.1 40 0 2) b) = 0 then (0 : Int32) else (2 : Int32)) else (1 : Int32))), h)) := by
  refine am_Ev.mk (by decide +kernel) rfl rfl (Nat.le_refl _) (Nat.le_refl _) ?_
  change am_At _ _ _ 0 [_, _] [] _ _
  refine am_aload_n dX8_modeOf_0 rfl ?_
  refine am_callV [] dX8_modeOf_1 ml_X8_27 vm_X8_lifted (sh_39 g) rfl (fun _ => Nat.le_of_ble_eq_true rfl) (by omega) rfl (ev_liftedT (d := d + 0) g ) rfl ?_
  change am_At _ _ _ 4 [_, _] [_] _ _
  refine am_iload_n dX8_modeOf_4 rfl ?_
  refine am_callSN (c := 0) (k := 0) (n := 0) (w := 0) [_, _] dX8_modeOf_5 ml_X8_31 sm_X11_isBitOf rfl (fun _ => Nat.le_of_ble_eq_true rfl) (by omega) rfl (ev_isBitOf (d := d + 0)  ) rfl ?_
  change am_At _ _ _ 8 [_, _] [_] _ _
  refine am_if_eq (5) 13 dX8_modeOf_8 rfl ?_ ?_
  · intro hc1
    have hc1 : (bitZ (h.2.1 40 0 1) b) = 0 := hc1
    refine am_aload_n dX8_modeOf_13 rfl ?_
    refine am_callV [] dX8_modeOf_14 ml_X8_35 vm_X8_shut (sh_39 g) rfl (fun _ => Nat.le_of_ble_eq_true rfl) (by omega) rfl (ev_shutT (d := d + 0) g ) rfl ?_
    change am_At _ _ _ 17 [_, _] [_] _ _
    refine am_iload_n dX8_modeOf_17 rfl ?_
    refine am_callSN (c := 0) (k := 0) (n := 0) (w := 0) [_, _] dX8_modeOf_18 ml_X8_31 sm_X11_isBitOf rfl (fun _ => Nat.le_of_ble_eq_true rfl) (by omega) rfl (ev_isBitOf (d := d + 0)  ) rfl ?_
    change am_At _ _ _ 21 [_, _] [_] _ _
    refine am_if_eq (7) 28 dX8_modeOf_21 rfl ?_ ?_
    · intro hc2
      have hc2 : (bitZ (h.2.1 40 0 2) b) = 0 := hc2
      refine am_iconst 0 (v := 0) dX8_modeOf_28 (by decide) ?_
      refine am_At.end ?_ (am_iret dX8_modeOf_29 rfl)
      first | rfl | (simp only [if_pos hc1, if_pos hc2]; done) | (simp only [if_pos hc1, if_pos hc2]; rfl)
    · intro hc2n
      have hc2n : ¬ ((bitZ (h.2.1 40 0 2) b) = 0) := hc2n
      refine am_iconst 2 (v := 2) dX8_modeOf_24 (by decide) ?_
      refine am_goto (4) 29 dX8_modeOf_25 rfl ?_
      refine am_At.end ?_ (am_iret dX8_modeOf_29 rfl)
      first | rfl | (simp only [if_pos hc1, if_neg hc2n]; done) | (simp only [if_pos hc1, if_neg hc2n]; rfl)
  · intro hc1n
    have hc1n : ¬ ((bitZ (h.2.1 40 0 1) b) = 0) := hc1n
    refine am_iconst 1 (v := 1) dX8_modeOf_11 (by decide) ?_
    refine am_At.end ?_ (am_iret dX8_modeOf_12 rfl)
    first | rfl | (simp only [if_neg hc1n]; done) | (simp only [if_neg hc1n]; rfl)
theorem ev_setModeT {d : Nat} {h : am_H} (g : lay h) {b v : Int32} : am_Ev (d + 1) mX8_setMode [.inr (39, 0), am_I b, am_I v] h (.inl (none, (am_hM h (if v = (1 : Int32) then (if v = (2 : Int32) then (am_u3 (am_u3 h.2.1 40 0 1 ((h.2.1 40 0 1) ||| ((1 : Int32) <<< (b &&& 31)))) 40 0 2 (((am_u3 h.2.1 40 0 1 ((h.2.1 40 0 1) ||| ((1 : Int32) <<< (b &&& 31)))) 40 0 2) ||| ((1 : Int32) <<< (b &&& 31)))) else (am_u3 (am_u3 h.2.1 40 0 1 ((h.2.1 40 0 1) ||| ((1 : Int32) <<< (b &&& 31)))) 40 0 2 (((am_u3 h.2.1 40 0 1 ((h.2.1 40 0 1) ||| ((1 : Int32) <<< (b &&& 31)))) 40 0 2) &&& (((1 : Int32) <<< (b &&& 31)) ^^^ (-1 : Int32))))) else (if v = (2 : Int32) then (am_u3 (am_u3 h.2.1 40 0 1 ((h.2.1 40 0 1) &&& (((1 : Int32) <<< (b &&& 31)) ^^^ (-1 : Int32)))) 40 0 2 (((am_u3 h.2.1 40 0 1 ((h.2.1 40 0 1) &&& (((1 : Int32) <<< (b &&& 31)) ^^^ (-1 : Int32)))) 40 0 2) ||| ((1 : Int32) <<< (b &&& 31)))) else (am_u3 (am_u3 h.2.1 40 0 1 ((h.2.1 40 0 1) &&& (((1 : Int32) <<< (b &&& 31)) ^^^ (-1 : Int32)))) 40 0 2 (((am_u3 h.2.1 40 0 1 ((h.2.1 40 0 1) &&& (((1 : Int32) <<< (b &&& 31)) ^^^ (-1 : Int32)))) 40 0 2) &&& (((1 : Int32) <<< (b &&& 31)) ^^^ (-1 : Int32))))))))) := by
  refine am_Ev.mk (by decide +kernel) rfl rfl (Nat.le_refl _) (Nat.le_refl _) ?_
  change am_At _ _ _ 0 [_, _, _, _] [] _ _
  refine am_iconst 1 (v := 1) dX8_setMode_0 (by decide) ?_
  refine am_iload_n dX8_setMode_1 rfl ?_
  refine am_ishl dX8_setMode_2 ?_
  refine am_istore_n dX8_setMode_3 (am_lb rfl) ?_
  change am_At _ _ _ 4 [_, _, _, _] [] _ _
  refine am_aload_n dX8_setMode_4 rfl ?_
  refine am_getR 8 0 40 dX8_setMode_5 fg_X8_11 (sh_39 g) (by decide) rfl (rf_39_0 g) ?_
  refine am_iconst 1 (v := 1) dX8_setMode_8 (by decide) ?_
  refine am_iload_n dX8_setMode_9 rfl ?_
  refine am_iconst 1 (v := 1) dX8_setMode_10 (by decide) ?_
  refine am_icmp_ne (12) 23 dX8_setMode_11 rfl ?_ ?_
  · intro hc1n
    have hc1n : ¬ (v = (1 : Int32)) := hc1n
    refine am_aload_n dX8_setMode_23 rfl ?_
    refine am_callV [] dX8_setMode_24 ml_X8_27 vm_X8_lifted (sh_39 g) rfl (fun _ => Nat.le_of_ble_eq_true rfl) (by omega) rfl (ev_liftedT (d := d + 0) g ) rfl ?_
    change am_At _ _ _ 27 [_, _, _, _] [_, _, _] _ _
    refine am_iload_n dX8_setMode_27 rfl ?_
    refine am_iconst (-1) (v := (-1)) dX8_setMode_28 (by decide) ?_
    refine am_ixor dX8_setMode_29 ?_
    refine am_iand dX8_setMode_30 ?_
    refine am_iast dX8_setMode_31 (am_ia.one (sh_40 g)) (am_lit rfl) ?_
    refine am_aload_n dX8_setMode_32 rfl ?_
    refine am_getR 8 0 40 dX8_setMode_33 fg_X8_11 (sh_39 g) (by decide) rfl (rf_39_0 g) ?_
    refine am_iconst 2 (v := 2) dX8_setMode_36 (by decide) ?_
    refine am_iload_n dX8_setMode_37 rfl ?_
    refine am_iconst 2 (v := 2) dX8_setMode_38 (by decide) ?_
    refine am_icmp_ne (12) 51 dX8_setMode_39 rfl ?_ ?_
    · intro hc2n
      have hc2n : ¬ (v = (2 : Int32)) := hc2n
      refine am_aload_n dX8_setMode_51 rfl ?_
      refine am_callV [] dX8_setMode_52 ml_X8_35 vm_X8_shut (sh_39 g) rfl (fun _ => Nat.le_of_ble_eq_true rfl) (by omega) rfl (ev_shutT (d := d + 0) (h := am_hM h (am_u3 h.2.1 40 0 1 ((h.2.1 40 0 1) &&& (((1 : Int32) <<< (b &&& 31)) ^^^ (-1 : Int32))))) g ) rfl ?_
      change am_At _ _ _ 55 [_, _, _, _] [_, _, _] _ _
      refine am_iload_n dX8_setMode_55 rfl ?_
      refine am_iconst (-1) (v := (-1)) dX8_setMode_56 (by decide) ?_
      refine am_ixor dX8_setMode_57 ?_
      refine am_iand dX8_setMode_58 ?_
      refine am_iast dX8_setMode_59 (am_ia.one (sh_40 g)) (am_lit rfl) ?_
      refine am_At.end ?_ (am_vret dX8_setMode_60 rfl)
      first | rfl | (simp only [if_neg hc1n, if_neg hc2n]; done) | (simp only [if_neg hc1n, if_neg hc2n]; rfl)
    · intro hc2
      have hc2 : v = (2 : Int32) := hc2
      refine am_aload_n dX8_setMode_42 rfl ?_
      refine am_callV [] dX8_setMode_43 ml_X8_35 vm_X8_shut (sh_39 g) rfl (fun _ => Nat.le_of_ble_eq_true rfl) (by omega) rfl (ev_shutT (d := d + 0) (h := am_hM h (am_u3 h.2.1 40 0 1 ((h.2.1 40 0 1) &&& (((1 : Int32) <<< (b &&& 31)) ^^^ (-1 : Int32))))) g ) rfl ?_
      change am_At _ _ _ 46 [_, _, _, _] [_, _, _] _ _
      refine am_iload_n dX8_setMode_46 rfl ?_
      refine am_ior dX8_setMode_47 ?_
      refine am_goto (11) 59 dX8_setMode_48 rfl ?_
      refine am_iast dX8_setMode_59 (am_ia.one (sh_40 g)) (am_lit rfl) ?_
      refine am_At.end ?_ (am_vret dX8_setMode_60 rfl)
      first | rfl | (simp only [if_neg hc1n, if_pos hc2]; done) | (simp only [if_neg hc1n, if_pos hc2]; rfl)
  · intro hc1
    have hc1 : v = (1 : Int32) := hc1
    refine am_aload_n dX8_setMode_14 rfl ?_
    refine am_callV [] dX8_setMode_15 ml_X8_27 vm_X8_lifted (sh_39 g) rfl (fun _ => Nat.le_of_ble_eq_true rfl) (by omega) rfl (ev_liftedT (d := d + 0) g ) rfl ?_
    change am_At _ _ _ 18 [_, _, _, _] [_, _, _] _ _
    refine am_iload_n dX8_setMode_18 rfl ?_
    refine am_ior dX8_setMode_19 ?_
    refine am_goto (11) 31 dX8_setMode_20 rfl ?_
    refine am_iast dX8_setMode_31 (am_ia.one (sh_40 g)) (am_lit rfl) ?_
    refine am_aload_n dX8_setMode_32 rfl ?_
    refine am_getR 8 0 40 dX8_setMode_33 fg_X8_11 (sh_39 g) (by decide) rfl (rf_39_0 g) ?_
    refine am_iconst 2 (v := 2) dX8_setMode_36 (by decide) ?_
    refine am_iload_n dX8_setMode_37 rfl ?_
    refine am_iconst 2 (v := 2) dX8_setMode_38 (by decide) ?_
    refine am_icmp_ne (12) 51 dX8_setMode_39 rfl ?_ ?_
    · intro hc2n
      have hc2n : ¬ (v = (2 : Int32)) := hc2n
      refine am_aload_n dX8_setMode_51 rfl ?_
      refine am_callV [] dX8_setMode_52 ml_X8_35 vm_X8_shut (sh_39 g) rfl (fun _ => Nat.le_of_ble_eq_true rfl) (by omega) rfl (ev_shutT (d := d + 0) (h := am_hM h (am_u3 h.2.1 40 0 1 ((h.2.1 40 0 1) ||| ((1 : Int32) <<< (b &&& 31))))) g ) rfl ?_
      change am_At _ _ _ 55 [_, _, _, _] [_, _, _] _ _
      refine am_iload_n dX8_setMode_55 rfl ?_
      refine am_iconst (-1) (v := (-1)) dX8_setMode_56 (by decide) ?_
      refine am_ixor dX8_setMode_57 ?_
      refine am_iand dX8_setMode_58 ?_
      refine am_iast dX8_setMode_59 (am_ia.one (sh_40 g)) (am_lit rfl) ?_
      refine am_At.end ?_ (am_vret dX8_setMode_60 rfl)
      first | rfl | (simp only [if_pos hc1, if_neg hc2n]; done) | (simp only [if_pos hc1, if_neg hc2n]; rfl)
    · intro hc2
      have hc2 : v = (2 : Int32) := hc2
      refine am_aload_n dX8_setMode_42 rfl ?_
      refine am_callV [] dX8_setMode_43 ml_X8_35 vm_X8_shut (sh_39 g) rfl (fun _ => Nat.le_of_ble_eq_true rfl) (by omega) rfl (ev_shutT (d := d + 0) (h := am_hM h (am_u3 h.2.1 40 0 1 ((h.2.1 40 0 1) ||| ((1 : Int32) <<< (b &&& 31))))) g ) rfl ?_
      change am_At _ _ _ 46 [_, _, _, _] [_, _, _] _ _
      refine am_iload_n dX8_setMode_46 rfl ?_
      refine am_ior dX8_setMode_47 ?_
      refine am_goto (11) 59 dX8_setMode_48 rfl ?_
      refine am_iast dX8_setMode_59 (am_ia.one (sh_40 g)) (am_lit rfl) ?_
      refine am_At.end ?_ (am_vret dX8_setMode_60 rfl)
      first | rfl | (simp only [if_pos hc1, if_pos hc2]; done) | (simp only [if_pos hc1, if_pos hc2]; rfl)
theorem ev_leaveT {d : Nat} {h : am_H} (g : lay h) {b : Int32} (s1 : vp_in ((35 : Int32) + b) 47) (s2 : vp_in ((43 : Int32) + b) 47) : am_Ev (d + 1) mX8_leave [.inr (39, 0), am_I b] h (.inl (none, (am_hM h (am_u3 (am_u3 h.2.1 40 0 (((35 : Int32) + b).toNatClampNeg) (2 : Int32)) 40 0 (((43 : Int32) + b).toNatClampNeg) ((am_u3 h.2.1 40 0 (((35 : Int32) + b).toNatClampNeg) (2 : Int32)) 40 0 0))))) := by
  refine am_Ev.mk (by decide +kernel) rfl rfl (Nat.le_refl _) (Nat.le_refl _) ?_
  change am_At _ _ _ 0 [_, _] [] _ _
  refine am_aload_n dX8_leave_0 rfl ?_
  refine am_getR 8 0 40 dX8_leave_1 fg_X8_11 (sh_39 g) (by decide) rfl (rf_39_0 g) ?_
  refine am_bipush 35 (v := 35) dX8_leave_4 (by decide) ?_
  refine am_iload_n dX8_leave_6 rfl ?_
  refine am_iadd dX8_leave_7 ?_
  refine am_iconst 2 (v := 2) dX8_leave_8 (by decide) ?_
  refine am_iast dX8_leave_9 (am_ia.one (sh_40 g)) s1 ?_
  refine am_aload_n dX8_leave_10 rfl ?_
  refine am_getR 8 0 40 dX8_leave_11 fg_X8_11 (sh_39 g) (by decide) rfl (rf_39_0 g) ?_
  refine am_bipush 43 (v := 43) dX8_leave_14 (by decide) ?_
  refine am_iload_n dX8_leave_16 rfl ?_
  refine am_iadd dX8_leave_17 ?_
  refine am_aload_n dX8_leave_18 rfl ?_
  refine am_callV [] dX8_leave_19 ml_X8_38 vm_X8_hour (sh_39 g) rfl (fun _ => Nat.le_of_ble_eq_true rfl) (by omega) rfl (ev_hourT (d := d + 0) (h := am_hM h (am_u3 h.2.1 40 0 (((35 : Int32) + b).toNatClampNeg) (2 : Int32))) g ) rfl ?_
  change am_At _ _ _ 22 [_, _] [_, _, _] _ _
  refine am_iast dX8_leave_22 (am_ia.one (sh_40 g)) s2 ?_
  exact am_vret dX8_leave_23 rfl
