/-! the constructors -/
theorem zq (n : Nat) (h : Nat.ble n 8 = true) : n ≤ 8 := Nat.le_of_ble_eq_true h
def rl_0 : List (Nat × Nat × Nat) := []
def rl_1 : List (Nat × Nat × Nat) := (1, 0, 2) :: rl_0
theorem ct_X10_1 {d : Nat} {M  : Mem} (hZ : am_Z 2 M)  : am_Ev (d + 0) mX10_init [.inr (1, 0)] (HB 2 rl_0 M) (.inl (none, HB 3 rl_1 (am_u3 M 1 0 6 (-1 : Int32)))) := by
  have hr : am_rm 3 (.inl (none, HB 3 rl_1 (am_u3 M 1 0 6 (-1 : Int32))) : am_R) := am_rm.mk
  refine am_Ev.mk rfl rfl rfl (ncS.le (by decide)) (nsS.le (by decide)) ?_
  refine am_aload_n dX10_init_0 rfl ?_
  refine am_obj dX10_init_1 ol_X10_3 ob_i ob_c (fun _ => zq _ rfl) ?_
  refine am_aload_n dX10_init_4 rfl ?_
  refine am_sipush 600 (v := 600) dX10_init_5 (by decide) ?_
  refine hb_newb (N := 3) 600 am_Xst.z hr (am_Z.m (hZ) rfl) dX10_init_8 (by decide) ac_byte rfl rfl ?_
  refine hb_putR 10 0 rl_1 dX10_init_10 (Or.inr ⟨fp_X10_9, rfl⟩) rfl (by decide) rfl (fun _ => rfl) (fun _ => rfl) rfl ?_
  refine am_aload_n dX10_init_13 rfl ?_
  refine am_iconst (-1) (v := (-1)) dX10_init_14 (by decide) ?_
  refine am_putI (h := HB 3 rl_1 M) 10 6 dX10_init_15 (Or.inl fp_X10_15) rfl (by decide) rfl rfl rfl ?_
  change am_At _ _ _ _ _ _ (HB 3 rl_1 (am_u3 M 1 0 6 (-1 : Int32))) _
  exact am_vret dX10_init_18 rfl
def rl_2 : List (Nat × Nat × Nat) := (0, 0, 1) :: rl_1
def rl_3 : List (Nat × Nat × Nat) := (3, 1, 4) :: rl_2
def rl_4 : List (Nat × Nat × Nat) := (3, 2, 5) :: rl_3
def rl_5 : List (Nat × Nat × Nat) := (3, 3, 6) :: rl_4
def rl_6 : List (Nat × Nat × Nat) := (3, 4, 7) :: rl_5
def rl_7 : List (Nat × Nat × Nat) := (3, 6, 8) :: rl_6
def rl_8 : List (Nat × Nat × Nat) := (3, 7, 9) :: rl_7
def rl_9 : List (Nat × Nat × Nat) := (3, 9, 10) :: rl_8
def rl_10 : List (Nat × Nat × Nat) := (3, 10, 11) :: rl_9
def rl_11 : List (Nat × Nat × Nat) := (3, 11, 12) :: rl_10
theorem ct_X1_3 {d : Nat} {M  : Mem} (hZ : am_Z 4 M)  : am_Ev (d + 0) mX1_init [.inr (3, 0)] (HB 4 rl_2 M) (.inl (none, HB 13 rl_11 (am_u3 (am_u3 M 3 0 12 (2 : Int32)) 3 0 13 (2 : Int32)))) := by
  have hr : am_rm 13 (.inl (none, HB 13 rl_11 (am_u3 (am_u3 M 3 0 12 (2 : Int32)) 3 0 13 (2 : Int32))) : am_R) := am_rm.mk
  refine am_Ev.mk rfl rfl rfl (ncS.le (by decide)) (nsS.le (by decide)) ?_
  refine am_aload_n dX1_init_0 rfl ?_
  refine am_obj dX1_init_1 ol_X1_3 ob_i ob_c (fun _ => zq _ rfl) ?_
  refine am_aload_n dX1_init_4 rfl ?_
  refine am_bipush 16 (v := 16) dX1_init_5 (by decide) ?_
  refine hb_newi (N := 13) 16 am_Xst.z hr (am_Z.m (hZ) rfl) dX1_init_7 (by decide) ac_int rfl rfl ?_
  refine hb_putR 1 1 rl_3 dX1_init_9 (Or.inr ⟨fp_X1_9, rfl⟩) rfl (by decide) rfl (fun _ => rfl) (fun _ => rfl) rfl ?_
  refine am_aload_n dX1_init_12 rfl ?_
  refine am_bipush 16 (v := 16) dX1_init_13 (by decide) ?_
  refine hb_newi (N := 13) 16 am_Xst.z hr (am_Z.m (hZ) rfl) dX1_init_15 (by decide) ac_int rfl rfl ?_
  refine hb_putR 1 2 rl_4 dX1_init_17 (Or.inr ⟨fp_X1_15, rfl⟩) rfl (by decide) rfl (fun _ => rfl) (fun _ => rfl) rfl ?_
  refine am_aload_n dX1_init_20 rfl ?_
  refine am_bipush 16 (v := 16) dX1_init_21 (by decide) ?_
  refine hb_newi (N := 13) 16 am_Xst.z hr (am_Z.m (hZ) rfl) dX1_init_23 (by decide) ac_int rfl rfl ?_
  refine hb_putR 1 3 rl_5 dX1_init_25 (Or.inr ⟨fp_X1_18, rfl⟩) rfl (by decide) rfl (fun _ => rfl) (fun _ => rfl) rfl ?_
  refine am_aload_n dX1_init_28 rfl ?_
  refine am_bipush 16 (v := 16) dX1_init_29 (by decide) ?_
  refine hb_newi (N := 13) 16 am_Xst.z hr (am_Z.m (hZ) rfl) dX1_init_31 (by decide) ac_int rfl rfl ?_
  refine hb_putR 1 4 rl_6 dX1_init_33 (Or.inr ⟨fp_X1_21, rfl⟩) rfl (by decide) rfl (fun _ => rfl) (fun _ => rfl) rfl ?_
  refine am_aload_n dX1_init_36 rfl ?_
  refine am_iconst 4 (v := 4) dX1_init_37 (by decide) ?_
  refine hb_newi (N := 13) 4 am_Xst.z hr (am_Z.m (hZ) rfl) dX1_init_38 (by decide) ac_int rfl rfl ?_
  refine hb_putR 1 6 rl_7 dX1_init_40 (Or.inr ⟨fp_X1_24, rfl⟩) rfl (by decide) rfl (fun _ => rfl) (fun _ => rfl) rfl ?_
  refine am_aload_n dX1_init_43 rfl ?_
  refine am_iconst 4 (v := 4) dX1_init_44 (by decide) ?_
  refine hb_newi (N := 13) 4 am_Xst.z hr (am_Z.m (hZ) rfl) dX1_init_45 (by decide) ac_int rfl rfl ?_
  refine hb_putR 1 7 rl_8 dX1_init_47 (Or.inr ⟨fp_X1_27, rfl⟩) rfl (by decide) rfl (fun _ => rfl) (fun _ => rfl) rfl ?_
  refine am_aload_n dX1_init_50 rfl ?_
  refine am_bipush 8 (v := 8) dX1_init_51 (by decide) ?_
  refine hb_newi (N := 13) 8 am_Xst.z hr (am_Z.m (hZ) rfl) dX1_init_53 (by decide) ac_int rfl rfl ?_
  refine hb_putR 1 9 rl_9 dX1_init_55 (Or.inr ⟨fp_X1_30, rfl⟩) rfl (by decide) rfl (fun _ => rfl) (fun _ => rfl) rfl ?_
  refine am_aload_n dX1_init_58 rfl ?_
  refine am_bipush 8 (v := 8) dX1_init_59 (by decide) ?_
  refine hb_newi (N := 13) 8 am_Xst.z hr (am_Z.m (hZ) rfl) dX1_init_61 (by decide) ac_int rfl rfl ?_
  refine hb_putR 1 10 rl_10 dX1_init_63 (Or.inr ⟨fp_X1_33, rfl⟩) rfl (by decide) rfl (fun _ => rfl) (fun _ => rfl) rfl ?_
  refine am_aload_n dX1_init_66 rfl ?_
  refine am_bipush 8 (v := 8) dX1_init_67 (by decide) ?_
  refine hb_newi (N := 13) 8 am_Xst.z hr (am_Z.m (hZ) rfl) dX1_init_69 (by decide) ac_int rfl rfl ?_
  refine hb_putR 1 11 rl_11 dX1_init_71 (Or.inr ⟨fp_X1_36, rfl⟩) rfl (by decide) rfl (fun _ => rfl) (fun _ => rfl) rfl ?_
  refine am_aload_n dX1_init_74 rfl ?_
  refine am_iconst 2 (v := 2) dX1_init_75 (by decide) ?_
  refine am_putI (h := HB 13 rl_11 M) 1 12 dX1_init_76 (Or.inl fp_X1_39) rfl (by decide) rfl rfl rfl ?_
  change am_At _ _ _ _ _ _ (HB 13 rl_11 (am_u3 M 3 0 12 (2 : Int32))) _
  refine am_aload_n dX1_init_79 rfl ?_
  refine am_iconst 2 (v := 2) dX1_init_80 (by decide) ?_
  refine am_putI (h := HB 13 rl_11 (am_u3 M 3 0 12 (2 : Int32))) 1 13 dX1_init_81 (Or.inl fp_X1_43) rfl (by decide) rfl rfl rfl ?_
  change am_At _ _ _ _ _ _ (HB 13 rl_11 (am_u3 (am_u3 M 3 0 12 (2 : Int32)) 3 0 13 (2 : Int32))) _
  exact am_vret dX1_init_84 rfl
def rl_12 : List (Nat × Nat × Nat) := (0, 1, 3) :: rl_11
def rl_13 : List (Nat × Nat × Nat) := (13, 1, 14) :: rl_12
def rl_14 : List (Nat × Nat × Nat) := (13, 2, 15) :: rl_13
def rl_15 : List (Nat × Nat × Nat) := (13, 3, 16) :: rl_14
def rl_16 : List (Nat × Nat × Nat) := (13, 4, 17) :: rl_15
def rl_17 : List (Nat × Nat × Nat) := (13, 6, 18) :: rl_16
def rl_18 : List (Nat × Nat × Nat) := (13, 7, 19) :: rl_17
def rl_19 : List (Nat × Nat × Nat) := (13, 9, 20) :: rl_18
def rl_20 : List (Nat × Nat × Nat) := (13, 10, 21) :: rl_19
def rl_21 : List (Nat × Nat × Nat) := (13, 11, 22) :: rl_20
theorem ct_X1_13 {d : Nat} {M  : Mem} (hZ : am_Z 14 M)  : am_Ev (d + 0) mX1_init [.inr (13, 0)] (HB 14 rl_12 M) (.inl (none, HB 23 rl_21 (am_u3 (am_u3 M 13 0 12 (2 : Int32)) 13 0 13 (2 : Int32)))) := by
  have hr : am_rm 23 (.inl (none, HB 23 rl_21 (am_u3 (am_u3 M 13 0 12 (2 : Int32)) 13 0 13 (2 : Int32))) : am_R) := am_rm.mk
  refine am_Ev.mk rfl rfl rfl (ncS.le (by decide)) (nsS.le (by decide)) ?_
  refine am_aload_n dX1_init_0 rfl ?_
  refine am_obj dX1_init_1 ol_X1_3 ob_i ob_c (fun _ => zq _ rfl) ?_
  refine am_aload_n dX1_init_4 rfl ?_
  refine am_bipush 16 (v := 16) dX1_init_5 (by decide) ?_
  refine hb_newi (N := 23) 16 am_Xst.z hr (am_Z.m (hZ) rfl) dX1_init_7 (by decide) ac_int rfl rfl ?_
  refine hb_putR 1 1 rl_13 dX1_init_9 (Or.inr ⟨fp_X1_9, rfl⟩) rfl (by decide) rfl (fun _ => rfl) (fun _ => rfl) rfl ?_
  refine am_aload_n dX1_init_12 rfl ?_
  refine am_bipush 16 (v := 16) dX1_init_13 (by decide) ?_
  refine hb_newi (N := 23) 16 am_Xst.z hr (am_Z.m (hZ) rfl) dX1_init_15 (by decide) ac_int rfl rfl ?_
  refine hb_putR 1 2 rl_14 dX1_init_17 (Or.inr ⟨fp_X1_15, rfl⟩) rfl (by decide) rfl (fun _ => rfl) (fun _ => rfl) rfl ?_
  refine am_aload_n dX1_init_20 rfl ?_
  refine am_bipush 16 (v := 16) dX1_init_21 (by decide) ?_
  refine hb_newi (N := 23) 16 am_Xst.z hr (am_Z.m (hZ) rfl) dX1_init_23 (by decide) ac_int rfl rfl ?_
  refine hb_putR 1 3 rl_15 dX1_init_25 (Or.inr ⟨fp_X1_18, rfl⟩) rfl (by decide) rfl (fun _ => rfl) (fun _ => rfl) rfl ?_
  refine am_aload_n dX1_init_28 rfl ?_
  refine am_bipush 16 (v := 16) dX1_init_29 (by decide) ?_
  refine hb_newi (N := 23) 16 am_Xst.z hr (am_Z.m (hZ) rfl) dX1_init_31 (by decide) ac_int rfl rfl ?_
  refine hb_putR 1 4 rl_16 dX1_init_33 (Or.inr ⟨fp_X1_21, rfl⟩) rfl (by decide) rfl (fun _ => rfl) (fun _ => rfl) rfl ?_
  refine am_aload_n dX1_init_36 rfl ?_
  refine am_iconst 4 (v := 4) dX1_init_37 (by decide) ?_
  refine hb_newi (N := 23) 4 am_Xst.z hr (am_Z.m (hZ) rfl) dX1_init_38 (by decide) ac_int rfl rfl ?_
  refine hb_putR 1 6 rl_17 dX1_init_40 (Or.inr ⟨fp_X1_24, rfl⟩) rfl (by decide) rfl (fun _ => rfl) (fun _ => rfl) rfl ?_
  refine am_aload_n dX1_init_43 rfl ?_
  refine am_iconst 4 (v := 4) dX1_init_44 (by decide) ?_
  refine hb_newi (N := 23) 4 am_Xst.z hr (am_Z.m (hZ) rfl) dX1_init_45 (by decide) ac_int rfl rfl ?_
  refine hb_putR 1 7 rl_18 dX1_init_47 (Or.inr ⟨fp_X1_27, rfl⟩) rfl (by decide) rfl (fun _ => rfl) (fun _ => rfl) rfl ?_
  refine am_aload_n dX1_init_50 rfl ?_
  refine am_bipush 8 (v := 8) dX1_init_51 (by decide) ?_
  refine hb_newi (N := 23) 8 am_Xst.z hr (am_Z.m (hZ) rfl) dX1_init_53 (by decide) ac_int rfl rfl ?_
  refine hb_putR 1 9 rl_19 dX1_init_55 (Or.inr ⟨fp_X1_30, rfl⟩) rfl (by decide) rfl (fun _ => rfl) (fun _ => rfl) rfl ?_
  refine am_aload_n dX1_init_58 rfl ?_
  refine am_bipush 8 (v := 8) dX1_init_59 (by decide) ?_
  refine hb_newi (N := 23) 8 am_Xst.z hr (am_Z.m (hZ) rfl) dX1_init_61 (by decide) ac_int rfl rfl ?_
  refine hb_putR 1 10 rl_20 dX1_init_63 (Or.inr ⟨fp_X1_33, rfl⟩) rfl (by decide) rfl (fun _ => rfl) (fun _ => rfl) rfl ?_
  refine am_aload_n dX1_init_66 rfl ?_
  refine am_bipush 8 (v := 8) dX1_init_67 (by decide) ?_
  refine hb_newi (N := 23) 8 am_Xst.z hr (am_Z.m (hZ) rfl) dX1_init_69 (by decide) ac_int rfl rfl ?_
  refine hb_putR 1 11 rl_21 dX1_init_71 (Or.inr ⟨fp_X1_36, rfl⟩) rfl (by decide) rfl (fun _ => rfl) (fun _ => rfl) rfl ?_
  refine am_aload_n dX1_init_74 rfl ?_
  refine am_iconst 2 (v := 2) dX1_init_75 (by decide) ?_
  refine am_putI (h := HB 23 rl_21 M) 1 12 dX1_init_76 (Or.inl fp_X1_39) rfl (by decide) rfl rfl rfl ?_
  change am_At _ _ _ _ _ _ (HB 23 rl_21 (am_u3 M 13 0 12 (2 : Int32))) _
  refine am_aload_n dX1_init_79 rfl ?_
  refine am_iconst 2 (v := 2) dX1_init_80 (by decide) ?_
  refine am_putI (h := HB 23 rl_21 (am_u3 M 13 0 12 (2 : Int32))) 1 13 dX1_init_81 (Or.inl fp_X1_43) rfl (by decide) rfl rfl rfl ?_
  change am_At _ _ _ _ _ _ (HB 23 rl_21 (am_u3 (am_u3 M 13 0 12 (2 : Int32)) 13 0 13 (2 : Int32))) _
  exact am_vret dX1_init_84 rfl
def rl_22 : List (Nat × Nat × Nat) := (0, 2, 13) :: rl_21
def rl_23 : List (Nat × Nat × Nat) := (23, 0, 24) :: rl_22
def rl_24 : List (Nat × Nat × Nat) := (23, 2, 25) :: rl_23
def rl_25 : List (Nat × Nat × Nat) := (23, 5, 26) :: rl_24
def rl_26 : List (Nat × Nat × Nat) := (23, 6, 27) :: rl_25
def rl_27 : List (Nat × Nat × Nat) := (23, 0, 25) :: rl_26
def rl_28 : List (Nat × Nat × Nat) := (23, 2, 24) :: rl_27
theorem ct_X3_23 {d : Nat} {M MU : Mem} (hZ : am_Z 24 M) (hU : f_X3_beUntold 24 25 M = some MU) (hZU : am_Z 28 MU) : am_Ev (d + 2) mX3_init [.inr (23, 0)] (HB 24 rl_22 M) (.inl (none, HB 28 rl_28 MU)) := by
  have hr : am_rm 28 (.inl (none, HB 28 rl_28 MU) : am_R) := am_rm.mk
  refine am_Ev.mk rfl rfl rfl (ncS.le (by decide)) (nsS.le (by decide)) ?_
  refine am_aload_n dX3_init_0 rfl ?_
  refine am_obj dX3_init_1 ol_X3_3 ob_i ob_c (fun _ => zq _ rfl) ?_
  refine am_aload_n dX3_init_4 rfl ?_
  refine am_sipush 150 (v := 150) dX3_init_5 (by decide) ?_
  refine hb_newi (N := 28) 150 am_Xst.z hr (am_Z.m (hZ) rfl) dX3_init_8 (by decide) ac_int rfl rfl ?_
  refine hb_putR 3 0 rl_23 dX3_init_10 (Or.inl fp_X3_9) rfl (by decide) rfl (fun _ => rfl) (fun _ => rfl) rfl ?_
  refine am_aload_n dX3_init_13 rfl ?_
  refine am_sipush 150 (v := 150) dX3_init_14 (by decide) ?_
  refine hb_newi (N := 28) 150 am_Xst.z hr (am_Z.m (hZ) rfl) dX3_init_17 (by decide) ac_int rfl rfl ?_
  refine hb_putR 3 2 rl_24 dX3_init_19 (Or.inl fp_X3_15) rfl (by decide) rfl (fun _ => rfl) (fun _ => rfl) rfl ?_
  refine am_aload_n dX3_init_22 rfl ?_
  refine am_sipush 150 (v := 150) dX3_init_23 (by decide) ?_
  refine hb_newi (N := 28) 150 am_Xst.z hr (am_Z.m (hZ) rfl) dX3_init_26 (by decide) ac_int rfl rfl ?_
  refine hb_putR 3 5 rl_25 dX3_init_28 (Or.inr ⟨fp_X3_18, rfl⟩) rfl (by decide) rfl (fun _ => rfl) (fun _ => rfl) rfl ?_
  refine am_aload_n dX3_init_31 rfl ?_
  refine am_bipush 8 (v := 8) dX3_init_32 (by decide) ?_
  refine hb_newi (N := 28) 8 am_Xst.z hr (am_Z.m (hZ) rfl) dX3_init_34 (by decide) ac_int rfl rfl ?_
  refine hb_putR 3 6 rl_26 dX3_init_36 (Or.inr ⟨fp_X3_21, rfl⟩) rfl (by decide) rfl (fun _ => rfl) (fun _ => rfl) rfl ?_
  refine am_aload_n dX3_init_39 rfl ?_
  refine hb_callV (M1 := MU) (R1 := rl_28) [] dX3_init_40 ml_X3_24 vm_X3_beUntold rfl rfl (fun _ => zq _ rfl) (by omega) rfl (zf_beUntold (d := d + 0) (R := rl_26) ⟨rfl, rfl⟩ hU) ?_
  exact am_vret dX3_init_43 rfl
def rl_29 : List (Nat × Nat × Nat) := (0, 3, 23) :: rl_28
def rl_30 : List (Nat × Nat × Nat) := (28, 0, 3) :: rl_29
def rl_31 : List (Nat × Nat × Nat) := (28, 1, 23) :: rl_30
theorem ct_X4_28 {d : Nat} {M  : Mem} (hZ : am_Z 29 M)  : am_Ev (d + 0) mX4_init [.inr (28, 0), .inr (3, 0), .inr (23, 0)] (HB 29 rl_29 M) (.inl (none, HB 29 rl_31 M)) := by
  have hr : am_rm 29 (.inl (none, HB 29 rl_31 M) : am_R) := am_rm.mk
  refine am_Ev.mk rfl rfl rfl (ncS.le (by decide)) (nsS.le (by decide)) ?_
  refine am_aload_n dX4_init_0 rfl ?_
  refine am_obj dX4_init_1 ol_X4_3 ob_i ob_c (fun _ => zq _ rfl) ?_
  refine am_aload_n dX4_init_4 rfl ?_
  refine am_aload_n dX4_init_5 rfl ?_
  refine hb_putR 4 0 rl_30 dX4_init_6 (Or.inr ⟨fp_X4_9, rfl⟩) rfl (by decide) rfl (fun _ => rfl) (fun _ => rfl) rfl ?_
  refine am_aload_n dX4_init_9 rfl ?_
  refine am_aload_n dX4_init_10 rfl ?_
  refine hb_putR 4 1 rl_31 dX4_init_11 (Or.inr ⟨fp_X4_15, rfl⟩) rfl (by decide) rfl (fun _ => rfl) (fun _ => rfl) rfl ?_
  exact am_vret dX4_init_14 rfl
def rl_32 : List (Nat × Nat × Nat) := (0, 4, 28) :: rl_31
def rl_33 : List (Nat × Nat × Nat) := (29, 0, 30) :: rl_32
theorem ct_X8_29 {d : Nat} {M  : Mem} (hZ : am_Z 30 M)  : am_Ev (d + 0) mX8_init [.inr (29, 0)] (HB 30 rl_32 M) (.inl (none, HB 31 rl_33 M)) := by
  have hr : am_rm 31 (.inl (none, HB 31 rl_33 M) : am_R) := am_rm.mk
  refine am_Ev.mk rfl rfl rfl (ncS.le (by decide)) (nsS.le (by decide)) ?_
  refine am_aload_n dX8_init_0 rfl ?_
  refine am_obj dX8_init_1 ol_X8_5 ob_i ob_c (fun _ => zq _ rfl) ?_
  refine am_aload_n dX8_init_4 rfl ?_
  refine am_bipush 47 (v := 47) dX8_init_5 (by decide) ?_
  refine hb_newi (N := 31) 47 am_Xst.z hr (am_Z.m (hZ) rfl) dX8_init_7 (by decide) ac_int rfl rfl ?_
  refine hb_putR 8 0 rl_33 dX8_init_9 (Or.inr ⟨fp_X8_11, rfl⟩) rfl (by decide) rfl (fun _ => rfl) (fun _ => rfl) rfl ?_
  exact am_vret dX8_init_12 rfl
def rl_34 : List (Nat × Nat × Nat) := (0, 5, 29) :: rl_33
def rl_35 : List (Nat × Nat × Nat) := (31, 0, 32) :: rl_34
def rl_36 : List (Nat × Nat × Nat) := (31, 2, 33) :: rl_35
theorem ct_X7_31 {d : Nat} {M  : Mem} (hZ : am_Z 32 M)  : am_Ev (d + 0) mX7_init [.inr (31, 0)] (HB 32 rl_34 M) (.inl (none, HB 34 rl_36 M)) := by
  have hr : am_rm 34 (.inl (none, HB 34 rl_36 M) : am_R) := am_rm.mk
  refine am_Ev.mk rfl rfl rfl (ncS.le (by decide)) (nsS.le (by decide)) ?_
  refine am_aload_n dX7_init_0 rfl ?_
  refine am_obj dX7_init_1 ol_X7_7 ob_i ob_c (fun _ => zq _ rfl) ?_
  refine am_aload_n dX7_init_4 rfl ?_
  refine am_sipush 752 (v := 752) dX7_init_5 (by decide) ?_
  refine hb_newi (N := 34) 752 am_Xst.z hr (am_Z.m (hZ) rfl) dX7_init_8 (by decide) ac_int rfl rfl ?_
  refine hb_putR 7 0 rl_35 dX7_init_10 (Or.inr ⟨fp_X7_13, rfl⟩) rfl (by decide) rfl (fun _ => rfl) (fun _ => rfl) rfl ?_
  refine am_aload_n dX7_init_13 rfl ?_
  refine am_iconst 3 (v := 3) dX7_init_14 (by decide) ?_
  refine am_sipush 800 (v := 800) dX7_init_15 (by decide) ?_
  refine hb_newg (N := 34) 3 800 am_Xst.z hr (am_Z.m (hZ) rfl) dX7_init_18 (by decide) cg_X7_17 ao_int ac_int rfl rfl ?_
  refine hb_putR 7 2 rl_36 dX7_init_22 (Or.inr ⟨fp_X7_19, rfl⟩) rfl (by decide) rfl (fun _ => rfl) (fun _ => rfl) rfl ?_
  exact am_vret dX7_init_25 rfl
def rl_37 : List (Nat × Nat × Nat) := (0, 6, 31) :: rl_36
def rl_38 : List (Nat × Nat × Nat) := (34, 0, 35) :: rl_37
def rl_39 : List (Nat × Nat × Nat) := (34, 1, 36) :: rl_38
def rl_40 : List (Nat × Nat × Nat) := (34, 2, 37) :: rl_39
theorem ct_X9_34 {d : Nat} {M  : Mem} (hZ : am_Z 35 M)  : am_Ev (d + 0) mX9_init [.inr (34, 0)] (HB 35 rl_37 M) (.inl (none, HB 38 rl_40 M)) := by
  have hr : am_rm 38 (.inl (none, HB 38 rl_40 M) : am_R) := am_rm.mk
  refine am_Ev.mk rfl rfl rfl (ncS.le (by decide)) (nsS.le (by decide)) ?_
  refine am_aload_n dX9_init_0 rfl ?_
  refine am_obj dX9_init_1 ol_X9_3 ob_i ob_c (fun _ => zq _ rfl) ?_
  refine am_aload_n dX9_init_4 rfl ?_
  refine am_sipush 150 (v := 150) dX9_init_5 (by decide) ?_
  refine hb_newi (N := 38) 150 am_Xst.z hr (am_Z.m (hZ) rfl) dX9_init_8 (by decide) ac_int rfl rfl ?_
  refine hb_putR 9 0 rl_38 dX9_init_10 (Or.inr ⟨fp_X9_9, rfl⟩) rfl (by decide) rfl (fun _ => rfl) (fun _ => rfl) rfl ?_
  refine am_aload_n dX9_init_13 rfl ?_
  refine am_sipush 150 (v := 150) dX9_init_14 (by decide) ?_
  refine hb_newi (N := 38) 150 am_Xst.z hr (am_Z.m (hZ) rfl) dX9_init_17 (by decide) ac_int rfl rfl ?_
  refine hb_putR 9 1 rl_39 dX9_init_19 (Or.inr ⟨fp_X9_15, rfl⟩) rfl (by decide) rfl (fun _ => rfl) (fun _ => rfl) rfl ?_
  refine am_aload_n dX9_init_22 rfl ?_
  refine am_sipush 150 (v := 150) dX9_init_23 (by decide) ?_
  refine hb_newi (N := 38) 150 am_Xst.z hr (am_Z.m (hZ) rfl) dX9_init_26 (by decide) ac_int rfl rfl ?_
  refine hb_putR 9 2 rl_40 dX9_init_28 (Or.inr ⟨fp_X9_18, rfl⟩) rfl (by decide) rfl (fun _ => rfl) (fun _ => rfl) rfl ?_
  exact am_vret dX9_init_31 rfl
def rl_41 : List (Nat × Nat × Nat) := (0, 7, 34) :: rl_40
def rl_42 : List (Nat × Nat × Nat) := (39, 0, 40) :: rl_41
theorem ct_X8_39 {d : Nat} {M  : Mem} (hZ : am_Z 40 M)  : am_Ev (d + 0) mX8_init [.inr (39, 0)] (HB 40 rl_41 M) (.inl (none, HB 41 rl_42 M)) := by
  have hr : am_rm 41 (.inl (none, HB 41 rl_42 M) : am_R) := am_rm.mk
  refine am_Ev.mk rfl rfl rfl (ncS.le (by decide)) (nsS.le (by decide)) ?_
  refine am_aload_n dX8_init_0 rfl ?_
  refine am_obj dX8_init_1 ol_X8_5 ob_i ob_c (fun _ => zq _ rfl) ?_
  refine am_aload_n dX8_init_4 rfl ?_
  refine am_bipush 47 (v := 47) dX8_init_5 (by decide) ?_
  refine hb_newi (N := 41) 47 am_Xst.z hr (am_Z.m (hZ) rfl) dX8_init_7 (by decide) ac_int rfl rfl ?_
  refine hb_putR 8 0 rl_42 dX8_init_9 (Or.inr ⟨fp_X8_11, rfl⟩) rfl (by decide) rfl (fun _ => rfl) (fun _ => rfl) rfl ?_
  exact am_vret dX8_init_12 rfl
def rl_43 : List (Nat × Nat × Nat) := (38, 3, 39) :: rl_42
def rl_44 : List (Nat × Nat × Nat) := (38, 4, 41) :: rl_43
def rl_45 : List (Nat × Nat × Nat) := (38, 6, 42) :: rl_44
def rl_46 : List (Nat × Nat × Nat) := (38, 0, 3) :: rl_45
def rl_47 : List (Nat × Nat × Nat) := (38, 1, 28) :: rl_46
def rl_48 : List (Nat × Nat × Nat) := (38, 2, 29) :: rl_47
theorem ct_X6_38 {d : Nat} {M  : Mem} (hZ : am_Z 39 M)  : am_Ev (d + 1) mX6_init [.inr (38, 0), .inr (3, 0), .inr (28, 0), .inr (29, 0)] (HB 39 rl_41 M) (.inl (none, HB 43 rl_48 M)) := by
  have hr : am_rm 43 (.inl (none, HB 43 rl_48 M) : am_R) := am_rm.mk
  refine am_Ev.mk rfl rfl rfl (ncS.le (by decide)) (nsS.le (by decide)) ?_
  refine am_aload_n dX6_init_0 rfl ?_
  refine am_obj dX6_init_1 ol_X6_3 ob_i ob_c (fun _ => zq _ rfl) ?_
  refine am_aload_n dX6_init_4 rfl ?_
  refine hb_new (N := 43) 8 1 am_Xst.z hr (am_Z.m (hZ) rfl) dX6_init_5 nd_X6_9 (by decide) rfl rfl ?_
  refine am_dup dX6_init_8 (fun _ => rfl) ?_
  refine hb_callIN (N := 43) [] am_Xst.z hr dX6_init_9 ml_X6_11 im_X8_init rfl rfl (fun _ => zq _ rfl) (by omega) rfl (ct_X8_39 (d := d + 0) (am_Z.m (hZ) rfl)) rfl ?_
  refine hb_putR 6 3 rl_43 dX6_init_12 (Or.inr ⟨fp_X6_12, rfl⟩) rfl (by decide) rfl (fun _ => rfl) (fun _ => rfl) rfl ?_
  refine am_aload_n dX6_init_15 rfl ?_
  refine am_sipush 241 (v := 241) dX6_init_16 (by decide) ?_
  refine hb_newi (N := 43) 241 am_Xst.z hr (am_Z.m (am_Z.m (hZ) (m := 40) rfl) rfl) dX6_init_19 (by decide) ac_int rfl rfl ?_
  refine hb_putR 6 4 rl_44 dX6_init_21 (Or.inr ⟨fp_X6_18, rfl⟩) rfl (by decide) rfl (fun _ => rfl) (fun _ => rfl) rfl ?_
  refine am_aload_n dX6_init_24 rfl ?_
  refine am_bipush 16 (v := 16) dX6_init_25 (by decide) ?_
  refine hb_newi (N := 43) 16 am_Xst.z hr (am_Z.m (am_Z.m (hZ) (m := 40) rfl) rfl) dX6_init_27 (by decide) ac_int rfl rfl ?_
  refine hb_putR 6 6 rl_45 dX6_init_29 (Or.inr ⟨fp_X6_22, rfl⟩) rfl (by decide) rfl (fun _ => rfl) (fun _ => rfl) rfl ?_
  refine am_aload_n dX6_init_32 rfl ?_
  refine am_aload_n dX6_init_33 rfl ?_
  refine hb_putR 6 0 rl_46 dX6_init_34 (Or.inr ⟨fp_X6_25, rfl⟩) rfl (by decide) rfl (fun _ => rfl) (fun _ => rfl) rfl ?_
  refine am_aload_n dX6_init_37 rfl ?_
  refine am_aload_n dX6_init_38 rfl ?_
  refine hb_putR 6 1 rl_47 dX6_init_39 (Or.inr ⟨fp_X6_29, rfl⟩) rfl (by decide) rfl (fun _ => rfl) (fun _ => rfl) rfl ?_
  refine am_aload_n dX6_init_42 rfl ?_
  refine am_aload_n dX6_init_43 rfl ?_
  refine hb_putR 6 2 rl_48 dX6_init_44 (Or.inr ⟨fp_X6_33, rfl⟩) rfl (by decide) rfl (fun _ => rfl) (fun _ => rfl) rfl ?_
  exact am_vret dX6_init_47 rfl
def rl_49 : List (Nat × Nat × Nat) := (0, 8, 38) :: rl_48
def rl_50 : List (Nat × Nat × Nat) := (43, 1, 44) :: rl_49
def rl_51 : List (Nat × Nat × Nat) := (43, 0, 3) :: rl_50
theorem ct_X2_43 {d : Nat} {M  : Mem} (hZ : am_Z 44 M)  : am_Ev (d + 0) mX2_init [.inr (43, 0), .inr (3, 0)] (HB 44 rl_49 M) (.inl (none, HB 45 rl_51 M)) := by
  have hr : am_rm 45 (.inl (none, HB 45 rl_51 M) : am_R) := am_rm.mk
  refine am_Ev.mk rfl rfl rfl (ncS.le (by decide)) (nsS.le (by decide)) ?_
  refine am_aload_n dX2_init_0 rfl ?_
  refine am_obj dX2_init_1 ol_X2_3 ob_i ob_c (fun _ => zq _ rfl) ?_
  refine am_aload_n dX2_init_4 rfl ?_
  refine am_bipush 8 (v := 8) dX2_init_5 (by decide) ?_
  refine hb_newi (N := 45) 8 am_Xst.z hr (am_Z.m (hZ) rfl) dX2_init_7 (by decide) ac_int rfl rfl ?_
  refine hb_putR 2 1 rl_50 dX2_init_9 (Or.inr ⟨fp_X2_9, rfl⟩) rfl (by decide) rfl (fun _ => rfl) (fun _ => rfl) rfl ?_
  refine am_aload_n dX2_init_12 rfl ?_
  refine am_aload_n dX2_init_13 rfl ?_
  refine hb_putR 2 0 rl_51 dX2_init_14 (Or.inr ⟨fp_X2_15, rfl⟩) rfl (by decide) rfl (fun _ => rfl) (fun _ => rfl) rfl ?_
  exact am_vret dX2_init_17 rfl
def rl_52 : List (Nat × Nat × Nat) := (0, 9, 43) :: rl_51
def rl_53 : List (Nat × Nat × Nat) := (45, 1, 46) :: rl_52
def rl_54 : List (Nat × Nat × Nat) := (45, 2, 47) :: rl_53
def rl_55 : List (Nat × Nat × Nat) := (45, 4, 48) :: rl_54
def rl_56 : List (Nat × Nat × Nat) := (45, 5, 49) :: rl_55
def rl_57 : List (Nat × Nat × Nat) := (45, 6, 50) :: rl_56
def rl_58 : List (Nat × Nat × Nat) := (45, 0, 3) :: rl_57
theorem ct_X5_45 {d : Nat} {M  : Mem} (hZ : am_Z 46 M)  : am_Ev (d + 2) mX5_init [.inr (45, 0), .inr (3, 0)] (HB 46 rl_52 M) (.inl (none, HB 51 rl_58 (f_X5_clearBook 46 47 M))) := by
  have hr : am_rm 51 (.inl (none, HB 51 rl_58 (f_X5_clearBook 46 47 M)) : am_R) := am_rm.mk
  refine am_Ev.mk rfl rfl rfl (ncS.le (by decide)) (nsS.le (by decide)) ?_
  refine am_aload_n dX5_init_0 rfl ?_
  refine am_obj dX5_init_1 ol_X5_3 ob_i ob_c (fun _ => zq _ rfl) ?_
  refine am_aload_n dX5_init_4 rfl ?_
  refine am_bipush 16 (v := 16) dX5_init_5 (by decide) ?_
  refine hb_newi (N := 51) 16 am_Xst.z hr (am_Z.m (hZ) rfl) dX5_init_7 (by decide) ac_int rfl rfl ?_
  refine hb_putR 5 1 rl_53 dX5_init_9 (Or.inl fp_X5_9) rfl (by decide) rfl (fun _ => rfl) (fun _ => rfl) rfl ?_
  refine am_aload_n dX5_init_12 rfl ?_
  refine am_bipush 16 (v := 16) dX5_init_13 (by decide) ?_
  refine hb_newi (N := 51) 16 am_Xst.z hr (am_Z.m (hZ) rfl) dX5_init_15 (by decide) ac_int rfl rfl ?_
  refine hb_putR 5 2 rl_54 dX5_init_17 (Or.inl fp_X5_15) rfl (by decide) rfl (fun _ => rfl) (fun _ => rfl) rfl ?_
  refine am_aload_n dX5_init_20 rfl ?_
  refine am_sipush 512 (v := 512) dX5_init_21 (by decide) ?_
  refine hb_newi (N := 51) 512 am_Xst.z hr (am_Z.m (hZ) rfl) dX5_init_24 (by decide) ac_int rfl rfl ?_
  refine hb_putR 5 4 rl_55 dX5_init_26 (Or.inr ⟨fp_X5_18, rfl⟩) rfl (by decide) rfl (fun _ => rfl) (fun _ => rfl) rfl ?_
  refine am_aload_n dX5_init_29 rfl ?_
  refine am_sipush 512 (v := 512) dX5_init_30 (by decide) ?_
  refine hb_newi (N := 51) 512 am_Xst.z hr (am_Z.m (hZ) rfl) dX5_init_33 (by decide) ac_int rfl rfl ?_
  refine hb_putR 5 5 rl_56 dX5_init_35 (Or.inr ⟨fp_X5_21, rfl⟩) rfl (by decide) rfl (fun _ => rfl) (fun _ => rfl) rfl ?_
  refine am_aload_n dX5_init_38 rfl ?_
  refine am_bipush 16 (v := 16) dX5_init_39 (by decide) ?_
  refine hb_newi (N := 51) 16 am_Xst.z hr (am_Z.m (hZ) rfl) dX5_init_41 (by decide) ac_int rfl rfl ?_
  refine hb_putR 5 6 rl_57 dX5_init_43 (Or.inr ⟨fp_X5_24, rfl⟩) rfl (by decide) rfl (fun _ => rfl) (fun _ => rfl) rfl ?_
  refine am_aload_n dX5_init_46 rfl ?_
  refine am_aload_n dX5_init_47 rfl ?_
  refine hb_putR 5 0 rl_58 dX5_init_48 (Or.inr ⟨fp_X5_27, rfl⟩) rfl (by decide) rfl (fun _ => rfl) (fun _ => rfl) rfl ?_
  refine am_aload_n dX5_init_51 rfl ?_
  refine hb_callV (M1 := f_X5_clearBook 46 47 M) (R1 := rl_58) [] dX5_init_52 ml_X5_31 vm_X5_clearBook rfl rfl (fun _ => zq _ rfl) (by omega) rfl (zf_clearBook (d := d + 0) (R := rl_58) ⟨rfl, rfl⟩ rfl) ?_
  exact am_vret dX5_init_55 rfl
def rl_59 : List (Nat × Nat × Nat) := (0, 10, 45) :: rl_58
def rl_60 : List (Nat × Nat × Nat) := (51, 1, 52) :: rl_59
def rl_61 : List (Nat × Nat × Nat) := (51, 2, 53) :: rl_60
def rl_62 : List (Nat × Nat × Nat) := (51, 0, 3) :: rl_61
theorem ct_X0_51 {d : Nat} {M  : Mem} (hZ : am_Z 52 M)  : am_Ev (d + 0) mX0_init [.inr (51, 0), .inr (3, 0)] (HB 52 rl_59 M) (.inl (none, HB 54 rl_62 M)) := by
  have hr : am_rm 54 (.inl (none, HB 54 rl_62 M) : am_R) := am_rm.mk
  refine am_Ev.mk rfl rfl rfl (ncS.le (by decide)) (nsS.le (by decide)) ?_
  refine am_aload_n dX0_init_0 rfl ?_
  refine am_obj dX0_init_1 ol_X0_3 ob_i ob_c (fun _ => zq _ rfl) ?_
  refine am_aload_n dX0_init_4 rfl ?_
  refine am_bipush 16 (v := 16) dX0_init_5 (by decide) ?_
  refine hb_newi (N := 54) 16 am_Xst.z hr (am_Z.m (hZ) rfl) dX0_init_7 (by decide) ac_int rfl rfl ?_
  refine hb_putR 0 1 rl_60 dX0_init_9 (Or.inr ⟨fp_X0_9, rfl⟩) rfl (by decide) rfl (fun _ => rfl) (fun _ => rfl) rfl ?_
  refine am_aload_n dX0_init_12 rfl ?_
  refine am_bipush 16 (v := 16) dX0_init_13 (by decide) ?_
  refine hb_newi (N := 54) 16 am_Xst.z hr (am_Z.m (hZ) rfl) dX0_init_15 (by decide) ac_int rfl rfl ?_
  refine hb_putR 0 2 rl_61 dX0_init_17 (Or.inr ⟨fp_X0_15, rfl⟩) rfl (by decide) rfl (fun _ => rfl) (fun _ => rfl) rfl ?_
  refine am_aload_n dX0_init_20 rfl ?_
  refine am_aload_n dX0_init_21 rfl ?_
  refine hb_putR 0 0 rl_62 dX0_init_22 (Or.inr ⟨fp_X0_18, rfl⟩) rfl (by decide) rfl (fun _ => rfl) (fun _ => rfl) rfl ?_
  exact am_vret dX0_init_25 rfl
def rl_63 : List (Nat × Nat × Nat) := (0, 11, 51) :: rl_62
theorem ct_X11_0 {d : Nat} {M MU : Mem} (hZ : am_Z 1 M) (hU : f_X3_beUntold 24 25 (am_u3 (am_u3 (am_u3 (am_u3 (am_u3 M 1 0 6 (-1 : Int32)) 3 0 12 (2 : Int32)) 3 0 13 (2 : Int32)) 13 0 12 (2 : Int32)) 13 0 13 (2 : Int32)) = some MU) (hZU : am_Z 28 MU) : am_Ev (d + 3) mX11_init [.inr (0, 0)] (HB 1 rl_0 M) (.inl (none, HB 54 rl_63 (f_X5_clearBook 46 47 MU))) := by
  have hr : am_rm 54 (.inl (none, HB 54 rl_63 (f_X5_clearBook 46 47 MU)) : am_R) := am_rm.mk
  refine am_Ev.mk rfl rfl rfl (ncS.le (by decide)) (nsS.le (by decide)) ?_
  refine am_aload_n dX11_init_0 rfl ?_
  refine am_obj dX11_init_1 ol_X11_1 ob_i ob_c (fun _ => zq _ rfl) ?_
  refine am_aload_n dX11_init_4 rfl ?_
  refine hb_new (N := 54) 10 7 am_Xst.z hr (am_Z.m (hZ) rfl) dX11_init_5 nd_X11_7 (by decide) rfl rfl ?_
  refine am_dup dX11_init_8 (fun _ => rfl) ?_
  refine hb_callIN (N := 54) [] am_Xst.z hr dX11_init_9 ml_X11_9 im_X10_init rfl rfl (fun _ => zq _ rfl) (by omega) rfl (ct_X10_1 (d := d + 2) (am_Z.m (hZ) rfl)) rfl ?_
  refine hb_putR 11 0 rl_2 dX11_init_12 (Or.inr ⟨fp_X11_10, rfl⟩) rfl (by decide) rfl (fun _ => rfl) (fun _ => rfl) rfl ?_
  refine am_aload_n dX11_init_15 rfl ?_
  refine hb_new (N := 54) 1 14 am_Xst.z hr (am_Z.m (am_Z.u (am_Z.m (am_Z.m (hZ) (m := 2) rfl) (m := 3) rfl) rfl) rfl) dX11_init_16 nd_X11_16 (by decide) rfl rfl ?_
  refine am_dup dX11_init_19 (fun _ => rfl) ?_
  refine hb_callIN (N := 54) [] am_Xst.z hr dX11_init_20 ml_X11_18 im_X1_init rfl rfl (fun _ => zq _ rfl) (by omega) rfl (ct_X1_3 (d := d + 2) (am_Z.m (am_Z.u (am_Z.m (am_Z.m (hZ) (m := 2) rfl) (m := 3) rfl) rfl) rfl)) rfl ?_
  refine hb_putR 11 1 rl_12 dX11_init_23 (Or.inr ⟨fp_X11_19, rfl⟩) rfl (by decide) rfl (fun _ => rfl) (fun _ => rfl) rfl ?_
  refine am_aload_n dX11_init_26 rfl ?_
  refine hb_new (N := 54) 1 14 am_Xst.z hr (am_Z.m (am_Z.u (am_Z.m (am_Z.u (am_Z.m (am_Z.m (am_Z.u (am_Z.m (am_Z.m (hZ) (m := 2) rfl) (m := 3) rfl) rfl) (m := 4) rfl) (m := 13) rfl) rfl) (m := 13) rfl) rfl) rfl) dX11_init_27 nd_X11_16 (by decide) rfl rfl ?_
  refine am_dup dX11_init_30 (fun _ => rfl) ?_
  refine hb_callIN (N := 54) [] am_Xst.z hr dX11_init_31 ml_X11_18 im_X1_init rfl rfl (fun _ => zq _ rfl) (by omega) rfl (ct_X1_13 (d := d + 2) (am_Z.m (am_Z.u (am_Z.m (am_Z.u (am_Z.m (am_Z.m (am_Z.u (am_Z.m (am_Z.m (hZ) (m := 2) rfl) (m := 3) rfl) rfl) (m := 4) rfl) (m := 13) rfl) rfl) (m := 13) rfl) rfl) rfl)) rfl ?_
  refine hb_putR 11 2 rl_22 dX11_init_34 (Or.inr ⟨fp_X11_23, rfl⟩) rfl (by decide) rfl (fun _ => rfl) (fun _ => rfl) rfl ?_
  refine am_aload_n dX11_init_37 rfl ?_
  refine hb_new (N := 54) 3 7 am_Xst.z hr (am_Z.m (am_Z.u (am_Z.m (am_Z.u (am_Z.m (am_Z.m (am_Z.u (am_Z.m (am_Z.u (am_Z.m (am_Z.m (am_Z.u (am_Z.m (am_Z.m (hZ) (m := 2) rfl) (m := 3) rfl) rfl) (m := 4) rfl) (m := 13) rfl) rfl) (m := 13) rfl) rfl) (m := 14) rfl) (m := 23) rfl) rfl) (m := 23) rfl) rfl) rfl) dX11_init_38 nd_X11_26 (by decide) rfl rfl ?_
  refine am_dup dX11_init_41 (fun _ => rfl) ?_
  refine hb_callI (N := 54) [] am_Xst.z hr dX11_init_42 ml_X11_28 im_X3_init rfl rfl (fun _ => zq _ rfl) (by omega) rfl (ct_X3_23 (d := d + 0) (am_Z.m (am_Z.u (am_Z.m (am_Z.u (am_Z.m (am_Z.m (am_Z.u (am_Z.m (am_Z.u (am_Z.m (am_Z.m (am_Z.u (am_Z.m (am_Z.m (hZ) (m := 2) rfl) (m := 3) rfl) rfl) (m := 4) rfl) (m := 13) rfl) rfl) (m := 13) rfl) rfl) (m := 14) rfl) (m := 23) rfl) rfl) (m := 23) rfl) rfl) rfl) hU hZU) rfl ?_
  refine hb_putR 11 3 rl_29 dX11_init_45 (Or.inr ⟨fp_X11_29, rfl⟩) rfl (by decide) rfl (fun _ => rfl) (fun _ => rfl) rfl ?_
  refine am_aload_n dX11_init_48 rfl ?_
  refine hb_new (N := 54) 4 2 am_Xst.z hr (am_Z.m (hZU) rfl) dX11_init_49 nd_X11_33 (by decide) rfl rfl ?_
  refine am_dup dX11_init_52 (fun _ => rfl) ?_
  refine am_aload_n dX11_init_53 rfl ?_
  refine hb_getR 11 1 3 dX11_init_54 fg_X11_19 rfl (by decide) rfl (by decide) ?_
  refine am_aload_n dX11_init_57 rfl ?_
  refine hb_getR 11 3 23 dX11_init_58 fg_X11_29 rfl (by decide) rfl (by decide) ?_
  refine hb_callI (N := 54) [_, _] am_Xst.z hr dX11_init_61 ml_X11_35 im_X4_init rfl rfl (fun _ => zq _ rfl) (by omega) rfl (ct_X4_28 (d := d + 2) (am_Z.m (hZU) rfl)) rfl ?_
  refine hb_putR 11 4 rl_32 dX11_init_64 (Or.inr ⟨fp_X11_38, rfl⟩) rfl (by decide) rfl (fun _ => rfl) (fun _ => rfl) rfl ?_
  refine am_aload_n dX11_init_67 rfl ?_
  refine hb_new (N := 54) 8 1 am_Xst.z hr (am_Z.m (am_Z.m (hZU) (m := 29) rfl) rfl) dX11_init_68 nd_X11_42 (by decide) rfl rfl ?_
  refine am_dup dX11_init_71 (fun _ => rfl) ?_
  refine hb_callIN (N := 54) [] am_Xst.z hr dX11_init_72 ml_X11_44 im_X8_init rfl rfl (fun _ => zq _ rfl) (by omega) rfl (ct_X8_29 (d := d + 2) (am_Z.m (am_Z.m (hZU) (m := 29) rfl) rfl)) rfl ?_
  refine hb_putR 11 5 rl_34 dX11_init_75 (Or.inr ⟨fp_X11_45, rfl⟩) rfl (by decide) rfl (fun _ => rfl) (fun _ => rfl) rfl ?_
  refine am_aload_n dX11_init_78 rfl ?_
  refine hb_new (N := 54) 7 4 am_Xst.z hr (am_Z.m (am_Z.m (am_Z.m (hZU) (m := 29) rfl) (m := 30) rfl) rfl) dX11_init_79 nd_X11_49 (by decide) rfl rfl ?_
  refine am_dup dX11_init_82 (fun _ => rfl) ?_
  refine hb_callIN (N := 54) [] am_Xst.z hr dX11_init_83 ml_X11_51 im_X7_init rfl rfl (fun _ => zq _ rfl) (by omega) rfl (ct_X7_31 (d := d + 2) (am_Z.m (am_Z.m (am_Z.m (hZU) (m := 29) rfl) (m := 30) rfl) rfl)) rfl ?_
  refine hb_putR 11 6 rl_37 dX11_init_86 (Or.inr ⟨fp_X11_52, rfl⟩) rfl (by decide) rfl (fun _ => rfl) (fun _ => rfl) rfl ?_
  refine am_aload_n dX11_init_89 rfl ?_
  refine hb_new (N := 54) 9 7 am_Xst.z hr (am_Z.m (am_Z.m (am_Z.m (am_Z.m (hZU) (m := 29) rfl) (m := 30) rfl) (m := 32) rfl) rfl) dX11_init_90 nd_X11_56 (by decide) rfl rfl ?_
  refine am_dup dX11_init_93 (fun _ => rfl) ?_
  refine hb_callIN (N := 54) [] am_Xst.z hr dX11_init_94 ml_X11_58 im_X9_init rfl rfl (fun _ => zq _ rfl) (by omega) rfl (ct_X9_34 (d := d + 2) (am_Z.m (am_Z.m (am_Z.m (am_Z.m (hZU) (m := 29) rfl) (m := 30) rfl) (m := 32) rfl) rfl)) rfl ?_
  refine hb_putR 11 7 rl_41 dX11_init_97 (Or.inr ⟨fp_X11_59, rfl⟩) rfl (by decide) rfl (fun _ => rfl) (fun _ => rfl) rfl ?_
  refine am_aload_n dX11_init_100 rfl ?_
  refine hb_new (N := 54) 6 11 am_Xst.z hr (am_Z.m (am_Z.m (am_Z.m (am_Z.m (am_Z.m (hZU) (m := 29) rfl) (m := 30) rfl) (m := 32) rfl) (m := 35) rfl) rfl) dX11_init_101 nd_X11_63 (by decide) rfl rfl ?_
  refine am_dup dX11_init_104 (fun _ => rfl) ?_
  refine am_aload_n dX11_init_105 rfl ?_
  refine hb_getR 11 1 3 dX11_init_106 fg_X11_19 rfl (by decide) rfl (by decide) ?_
  refine am_aload_n dX11_init_109 rfl ?_
  refine hb_getR 11 4 28 dX11_init_110 fg_X11_38 rfl (by decide) rfl (by decide) ?_
  refine am_aload_n dX11_init_113 rfl ?_
  refine hb_getR 11 5 29 dX11_init_114 fg_X11_45 rfl (by decide) rfl (by decide) ?_
  refine hb_callI (N := 54) [_, _, _] am_Xst.z hr dX11_init_117 ml_X11_65 im_X6_init rfl rfl (fun _ => zq _ rfl) (by omega) rfl (ct_X6_38 (d := d + 1) (am_Z.m (am_Z.m (am_Z.m (am_Z.m (am_Z.m (hZU) (m := 29) rfl) (m := 30) rfl) (m := 32) rfl) (m := 35) rfl) rfl)) rfl ?_
  refine hb_putR 11 8 rl_49 dX11_init_120 (Or.inr ⟨fp_X11_68, rfl⟩) rfl (by decide) rfl (fun _ => rfl) (fun _ => rfl) rfl ?_
  refine am_aload_n dX11_init_123 rfl ?_
  refine hb_new (N := 54) 2 3 am_Xst.z hr (am_Z.m (am_Z.m (am_Z.m (am_Z.m (am_Z.m (am_Z.m (am_Z.m (hZU) (m := 29) rfl) (m := 30) rfl) (m := 32) rfl) (m := 35) rfl) (m := 39) rfl) (m := 40) rfl) rfl) dX11_init_124 nd_X11_72 (by decide) rfl rfl ?_
  refine am_dup dX11_init_127 (fun _ => rfl) ?_
  refine am_aload_n dX11_init_128 rfl ?_
  refine hb_getR 11 1 3 dX11_init_129 fg_X11_19 rfl (by decide) rfl (by decide) ?_
  refine hb_callI (N := 54) [_] am_Xst.z hr dX11_init_132 ml_X11_74 im_X2_init rfl rfl (fun _ => zq _ rfl) (by omega) rfl (ct_X2_43 (d := d + 2) (am_Z.m (am_Z.m (am_Z.m (am_Z.m (am_Z.m (am_Z.m (am_Z.m (hZU) (m := 29) rfl) (m := 30) rfl) (m := 32) rfl) (m := 35) rfl) (m := 39) rfl) (m := 40) rfl) rfl)) rfl ?_
  refine hb_putR 11 9 rl_52 dX11_init_135 (Or.inr ⟨fp_X11_77, rfl⟩) rfl (by decide) rfl (fun _ => rfl) (fun _ => rfl) rfl ?_
  refine am_aload_n dX11_init_138 rfl ?_
  refine hb_new (N := 54) 5 8 am_Xst.z hr (am_Z.m (am_Z.m (am_Z.m (am_Z.m (am_Z.m (am_Z.m (am_Z.m (am_Z.m (hZU) (m := 29) rfl) (m := 30) rfl) (m := 32) rfl) (m := 35) rfl) (m := 39) rfl) (m := 40) rfl) (m := 44) rfl) rfl) dX11_init_139 nd_X11_81 (by decide) rfl rfl ?_
  refine am_dup dX11_init_142 (fun _ => rfl) ?_
  refine am_aload_n dX11_init_143 rfl ?_
  refine hb_getR 11 1 3 dX11_init_144 fg_X11_19 rfl (by decide) rfl (by decide) ?_
  refine hb_callI (N := 54) [_] am_Xst.z hr dX11_init_147 ml_X11_83 im_X5_init rfl rfl (fun _ => zq _ rfl) (by omega) rfl (ct_X5_45 (d := d + 0) (am_Z.m (am_Z.m (am_Z.m (am_Z.m (am_Z.m (am_Z.m (am_Z.m (am_Z.m (hZU) (m := 29) rfl) (m := 30) rfl) (m := 32) rfl) (m := 35) rfl) (m := 39) rfl) (m := 40) rfl) (m := 44) rfl) rfl)) rfl ?_
  refine hb_putR 11 10 rl_59 dX11_init_150 (Or.inr ⟨fp_X11_84, rfl⟩) rfl (by decide) rfl (fun _ => rfl) (fun _ => rfl) rfl ?_
  refine am_aload_n dX11_init_153 rfl ?_
  refine hb_new (N := 54) 0 4 am_Xst.z hr (am_Z.m (am_Z.cb (am_Z.m (am_Z.m (am_Z.m (am_Z.m (am_Z.m (am_Z.m (am_Z.m (am_Z.m (am_Z.m (hZU) (m := 29) rfl) (m := 30) rfl) (m := 32) rfl) (m := 35) rfl) (m := 39) rfl) (m := 40) rfl) (m := 44) rfl) (m := 46) rfl) (m := 51) rfl) rfl) rfl) dX11_init_154 nd_X11_88 (by decide) rfl rfl ?_
  refine am_dup dX11_init_157 (fun _ => rfl) ?_
  refine am_aload_n dX11_init_158 rfl ?_
  refine hb_getR 11 1 3 dX11_init_159 fg_X11_19 rfl (by decide) rfl (by decide) ?_
  refine hb_callI (N := 54) [_] am_Xst.z hr dX11_init_162 ml_X11_90 im_X0_init rfl rfl (fun _ => zq _ rfl) (by omega) rfl (ct_X0_51 (d := d + 2) (am_Z.m (am_Z.cb (am_Z.m (am_Z.m (am_Z.m (am_Z.m (am_Z.m (am_Z.m (am_Z.m (am_Z.m (am_Z.m (hZU) (m := 29) rfl) (m := 30) rfl) (m := 32) rfl) (m := 35) rfl) (m := 39) rfl) (m := 40) rfl) (m := 44) rfl) (m := 46) rfl) (m := 51) rfl) rfl) rfl)) rfl ?_
  refine hb_putR 11 11 rl_63 dX11_init_165 (Or.inr ⟨fp_X11_91, rfl⟩) rfl (by decide) rfl (fun _ => rfl) (fun _ => rfl) rfl ?_
  exact am_vret dX11_init_168 rfl
def rl_64 : List (Nat × Nat × Nat) := (54, 9, 55) :: rl_63
def rl_65 : List (Nat × Nat × Nat) := (54, 10, 56) :: rl_64
def rl_66 : List (Nat × Nat × Nat) := (54, 11, 57) :: rl_65
def rl_67 : List (Nat × Nat × Nat) := (54, 12, 58) :: rl_66
def rl_68 : List (Nat × Nat × Nat) := (54, 13, 59) :: rl_67
def rl_69 : List (Nat × Nat × Nat) := (54, 14, 60) :: rl_68
def rl_70 : List (Nat × Nat × Nat) := (54, 15, 61) :: rl_69
def rl_71 : List (Nat × Nat × Nat) := (54, 16, 62) :: rl_70
def rl_72 : List (Nat × Nat × Nat) := (54, 17, 63) :: rl_71
def rl_73 : List (Nat × Nat × Nat) := (54, 18, 64) :: rl_72
def rl_74 : List (Nat × Nat × Nat) := (54, 21, 65) :: rl_73
def rl_75 : List (Nat × Nat × Nat) := (54, 22, 66) :: rl_74
def rl_76 : List (Nat × Nat × Nat) := (54, 23, 67) :: rl_75
def rl_77 : List (Nat × Nat × Nat) := (54, 24, 68) :: rl_76
def rl_78 : List (Nat × Nat × Nat) := (54, 25, 69) :: rl_77
def rl_79 : List (Nat × Nat × Nat) := (54, 26, 70) :: rl_78
def rl_80 : List (Nat × Nat × Nat) := (54, 27, 71) :: rl_79
def rl_81 : List (Nat × Nat × Nat) := (54, 29, 72) :: rl_80
def rl_82 : List (Nat × Nat × Nat) := (54, 30, 73) :: rl_81
def rl_83 : List (Nat × Nat × Nat) := (54, 31, 74) :: rl_82
def rl_84 : List (Nat × Nat × Nat) := (54, 32, 75) :: rl_83
def rl_85 : List (Nat × Nat × Nat) := (54, 33, 76) :: rl_84
def rl_86 : List (Nat × Nat × Nat) := (54, 42, 77) :: rl_85
def rl_87 : List (Nat × Nat × Nat) := (54, 43, 78) :: rl_86
def rl_88 : List (Nat × Nat × Nat) := (54, 44, 79) :: rl_87
def rl_89 : List (Nat × Nat × Nat) := (54, 45, 80) :: rl_88
def rl_90 : List (Nat × Nat × Nat) := (54, 47, 81) :: rl_89
theorem zlay_90 : ∀ q ∈ am_RF, 54 ≤ q.1 → rfR rl_90 q.1 q.2.1 = some q.2.2 := by decide
theorem ct_X12_54 {d : Nat} {M MA MT : Mem} (hZ : am_Z 55 M) (hT : f_X12_tellsNothing (am_u3 M 54 0 3 (-1 : Int32)) = some MT) (hA : f_X12_beginsAnew MT = some MA) : am_Ev (d + 2) mX12_init [.inr (54, 0)] (HB 55 rl_63 M) (.inl (none, HB 82 rl_90 MA)) := by
  have hr : am_rm 82 (.inl (none, HB 82 rl_90 MA) : am_R) := am_rm.mk
  refine am_Ev.mk rfl rfl rfl (ncS.le (by decide)) (nsS.le (by decide)) ?_
  refine am_aload_n dX12_init_0 rfl ?_
  refine am_obj dX12_init_1 ol_X12_1 ob_i ob_c (fun _ => zq _ rfl) ?_
  refine am_aload_n dX12_init_4 rfl ?_
  refine am_iconst (-1) (v := (-1)) dX12_init_5 (by decide) ?_
  refine am_putI (h := HB 55 rl_63 M) 12 3 dX12_init_6 (Or.inl fp_X12_9) rfl (by decide) rfl rfl rfl ?_
  change am_At _ _ _ _ _ _ (HB 55 rl_63 (am_u3 M 54 0 3 (-1 : Int32))) _
  refine am_aload_n dX12_init_9 rfl ?_
  refine am_sipush 600 (v := 600) dX12_init_10 (by decide) ?_
  refine hb_newi (N := 82) 600 am_Xst.z hr (am_Z.m (am_Z.u (am_Z.m (hZ) (m := 55) rfl) rfl) rfl) dX12_init_13 (by decide) ac_int rfl rfl ?_
  refine hb_putR 12 9 rl_64 dX12_init_15 (Or.inr ⟨fp_X12_13, rfl⟩) rfl (by decide) rfl (fun _ => rfl) (fun _ => rfl) rfl ?_
  refine am_aload_n dX12_init_18 rfl ?_
  refine am_iconst 2 (v := 2) dX12_init_19 (by decide) ?_
  refine hb_newi (N := 82) 2 am_Xst.z hr (am_Z.m (am_Z.u (am_Z.m (hZ) (m := 55) rfl) rfl) rfl) dX12_init_20 (by decide) ac_int rfl rfl ?_
  refine hb_putR 12 10 rl_65 dX12_init_22 (Or.inr ⟨fp_X12_17, rfl⟩) rfl (by decide) rfl (fun _ => rfl) (fun _ => rfl) rfl ?_
  refine am_aload_n dX12_init_25 rfl ?_
  refine am_iconst 5 (v := 5) dX12_init_26 (by decide) ?_
  refine hb_newi (N := 82) 5 am_Xst.z hr (am_Z.m (am_Z.u (am_Z.m (hZ) (m := 55) rfl) rfl) rfl) dX12_init_27 (by decide) ac_int rfl rfl ?_
  refine hb_putR 12 11 rl_66 dX12_init_29 (Or.inr ⟨fp_X12_20, rfl⟩) rfl (by decide) rfl (fun _ => rfl) (fun _ => rfl) rfl ?_
  refine am_aload_n dX12_init_32 rfl ?_
  refine am_iconst 5 (v := 5) dX12_init_33 (by decide) ?_
  refine hb_newi (N := 82) 5 am_Xst.z hr (am_Z.m (am_Z.u (am_Z.m (hZ) (m := 55) rfl) rfl) rfl) dX12_init_34 (by decide) ac_int rfl rfl ?_
  refine hb_putR 12 12 rl_67 dX12_init_36 (Or.inr ⟨fp_X12_23, rfl⟩) rfl (by decide) rfl (fun _ => rfl) (fun _ => rfl) rfl ?_
  refine am_aload_n dX12_init_39 rfl ?_
  refine am_bipush 16 (v := 16) dX12_init_40 (by decide) ?_
  refine am_iconst 4 (v := 4) dX12_init_42 (by decide) ?_
  refine hb_newg (N := 82) 16 4 am_Xst.z hr (am_Z.m (am_Z.u (am_Z.m (hZ) (m := 55) rfl) rfl) rfl) dX12_init_43 (by decide) cg_X12_26 ao_int ac_int rfl rfl ?_
  refine hb_putR 12 13 rl_68 dX12_init_47 (Or.inr ⟨fp_X12_28, rfl⟩) rfl (by decide) rfl (fun _ => rfl) (fun _ => rfl) rfl ?_
  refine am_aload_n dX12_init_50 rfl ?_
  refine am_bipush 16 (v := 16) dX12_init_51 (by decide) ?_
  refine am_iconst 4 (v := 4) dX12_init_53 (by decide) ?_
  refine hb_newg (N := 82) 16 4 am_Xst.z hr (am_Z.m (am_Z.u (am_Z.m (hZ) (m := 55) rfl) rfl) rfl) dX12_init_54 (by decide) cg_X12_26 ao_int ac_int rfl rfl ?_
  refine hb_putR 12 14 rl_69 dX12_init_58 (Or.inr ⟨fp_X12_31, rfl⟩) rfl (by decide) rfl (fun _ => rfl) (fun _ => rfl) rfl ?_
  refine am_aload_n dX12_init_61 rfl ?_
  refine am_iconst 4 (v := 4) dX12_init_62 (by decide) ?_
  refine am_iconst 2 (v := 2) dX12_init_63 (by decide) ?_
  refine hb_newg (N := 82) 4 2 am_Xst.z hr (am_Z.m (am_Z.u (am_Z.m (hZ) (m := 55) rfl) rfl) rfl) dX12_init_64 (by decide) cg_X12_26 ao_int ac_int rfl rfl ?_
  refine hb_putR 12 15 rl_70 dX12_init_68 (Or.inr ⟨fp_X12_34, rfl⟩) rfl (by decide) rfl (fun _ => rfl) (fun _ => rfl) rfl ?_
  refine am_aload_n dX12_init_71 rfl ?_
  refine am_iconst 4 (v := 4) dX12_init_72 (by decide) ?_
  refine am_iconst 2 (v := 2) dX12_init_73 (by decide) ?_
  refine hb_newg (N := 82) 4 2 am_Xst.z hr (am_Z.m (am_Z.u (am_Z.m (hZ) (m := 55) rfl) rfl) rfl) dX12_init_74 (by decide) cg_X12_26 ao_int ac_int rfl rfl ?_
  refine hb_putR 12 16 rl_71 dX12_init_78 (Or.inr ⟨fp_X12_37, rfl⟩) rfl (by decide) rfl (fun _ => rfl) (fun _ => rfl) rfl ?_
  refine am_aload_n dX12_init_81 rfl ?_
  refine am_bipush 8 (v := 8) dX12_init_82 (by decide) ?_
  refine am_iconst 3 (v := 3) dX12_init_84 (by decide) ?_
  refine hb_newg (N := 82) 8 3 am_Xst.z hr (am_Z.m (am_Z.u (am_Z.m (hZ) (m := 55) rfl) rfl) rfl) dX12_init_85 (by decide) cg_X12_26 ao_int ac_int rfl rfl ?_
  refine hb_putR 12 17 rl_72 dX12_init_89 (Or.inr ⟨fp_X12_40, rfl⟩) rfl (by decide) rfl (fun _ => rfl) (fun _ => rfl) rfl ?_
  refine am_aload_n dX12_init_92 rfl ?_
  refine am_bipush 8 (v := 8) dX12_init_93 (by decide) ?_
  refine am_iconst 3 (v := 3) dX12_init_95 (by decide) ?_
  refine hb_newg (N := 82) 8 3 am_Xst.z hr (am_Z.m (am_Z.u (am_Z.m (hZ) (m := 55) rfl) rfl) rfl) dX12_init_96 (by decide) cg_X12_26 ao_int ac_int rfl rfl ?_
  refine hb_putR 12 18 rl_73 dX12_init_100 (Or.inr ⟨fp_X12_43, rfl⟩) rfl (by decide) rfl (fun _ => rfl) (fun _ => rfl) rfl ?_
  refine am_aload_n dX12_init_103 rfl ?_
  refine am_sipush 160 (v := 160) dX12_init_104 (by decide) ?_
  refine am_iconst 2 (v := 2) dX12_init_107 (by decide) ?_
  refine hb_newg (N := 82) 160 2 am_Xst.z hr (am_Z.m (am_Z.u (am_Z.m (hZ) (m := 55) rfl) rfl) rfl) dX12_init_108 (by decide) cg_X12_26 ao_int ac_int rfl rfl ?_
  refine hb_putR 12 21 rl_74 dX12_init_112 (Or.inr ⟨fp_X12_46, rfl⟩) rfl (by decide) rfl (fun _ => rfl) (fun _ => rfl) rfl ?_
  refine am_aload_n dX12_init_115 rfl ?_
  refine am_sipush 160 (v := 160) dX12_init_116 (by decide) ?_
  refine am_iconst 2 (v := 2) dX12_init_119 (by decide) ?_
  refine hb_newg (N := 82) 160 2 am_Xst.z hr (am_Z.m (am_Z.u (am_Z.m (hZ) (m := 55) rfl) rfl) rfl) dX12_init_120 (by decide) cg_X12_26 ao_int ac_int rfl rfl ?_
  refine hb_putR 12 22 rl_75 dX12_init_124 (Or.inr ⟨fp_X12_49, rfl⟩) rfl (by decide) rfl (fun _ => rfl) (fun _ => rfl) rfl ?_
  refine am_aload_n dX12_init_127 rfl ?_
  refine am_bipush 12 (v := 12) dX12_init_128 (by decide) ?_
  refine am_iconst 2 (v := 2) dX12_init_130 (by decide) ?_
  refine hb_newg (N := 82) 12 2 am_Xst.z hr (am_Z.m (am_Z.u (am_Z.m (hZ) (m := 55) rfl) rfl) rfl) dX12_init_131 (by decide) cg_X12_26 ao_int ac_int rfl rfl ?_
  refine hb_putR 12 23 rl_76 dX12_init_135 (Or.inr ⟨fp_X12_52, rfl⟩) rfl (by decide) rfl (fun _ => rfl) (fun _ => rfl) rfl ?_
  refine am_aload_n dX12_init_138 rfl ?_
  refine am_bipush 12 (v := 12) dX12_init_139 (by decide) ?_
  refine am_iconst 2 (v := 2) dX12_init_141 (by decide) ?_
  refine hb_newg (N := 82) 12 2 am_Xst.z hr (am_Z.m (am_Z.u (am_Z.m (hZ) (m := 55) rfl) rfl) rfl) dX12_init_142 (by decide) cg_X12_26 ao_int ac_int rfl rfl ?_
  refine hb_putR 12 24 rl_77 dX12_init_146 (Or.inr ⟨fp_X12_55, rfl⟩) rfl (by decide) rfl (fun _ => rfl) (fun _ => rfl) rfl ?_
  refine am_aload_n dX12_init_149 rfl ?_
  refine am_sipush 160 (v := 160) dX12_init_150 (by decide) ?_
  refine hb_newi (N := 82) 160 am_Xst.z hr (am_Z.m (am_Z.u (am_Z.m (hZ) (m := 55) rfl) rfl) rfl) dX12_init_153 (by decide) ac_int rfl rfl ?_
  refine hb_putR 12 25 rl_78 dX12_init_155 (Or.inr ⟨fp_X12_58, rfl⟩) rfl (by decide) rfl (fun _ => rfl) (fun _ => rfl) rfl ?_
  refine am_aload_n dX12_init_158 rfl ?_
  refine am_bipush 8 (v := 8) dX12_init_159 (by decide) ?_
  refine hb_newi (N := 82) 8 am_Xst.z hr (am_Z.m (am_Z.u (am_Z.m (hZ) (m := 55) rfl) rfl) rfl) dX12_init_161 (by decide) ac_int rfl rfl ?_
  refine hb_putR 12 26 rl_79 dX12_init_163 (Or.inr ⟨fp_X12_61, rfl⟩) rfl (by decide) rfl (fun _ => rfl) (fun _ => rfl) rfl ?_
  refine am_aload_n dX12_init_166 rfl ?_
  refine am_bipush 80 (v := 80) dX12_init_167 (by decide) ?_
  refine am_iconst 3 (v := 3) dX12_init_169 (by decide) ?_
  refine hb_newg (N := 82) 80 3 am_Xst.z hr (am_Z.m (am_Z.u (am_Z.m (hZ) (m := 55) rfl) rfl) rfl) dX12_init_170 (by decide) cg_X12_26 ao_int ac_int rfl rfl ?_
  refine hb_putR 12 27 rl_80 dX12_init_174 (Or.inr ⟨fp_X12_64, rfl⟩) rfl (by decide) rfl (fun _ => rfl) (fun _ => rfl) rfl ?_
  refine am_aload_n dX12_init_177 rfl ?_
  refine am_bipush 66 (v := 66) dX12_init_178 (by decide) ?_
  refine hb_newi (N := 82) 66 am_Xst.z hr (am_Z.m (am_Z.u (am_Z.m (hZ) (m := 55) rfl) rfl) rfl) dX12_init_180 (by decide) ac_int rfl rfl ?_
  refine hb_putR 12 29 rl_81 dX12_init_182 (Or.inr ⟨fp_X12_67, rfl⟩) rfl (by decide) rfl (fun _ => rfl) (fun _ => rfl) rfl ?_
  refine am_aload_n dX12_init_185 rfl ?_
  refine am_bipush 66 (v := 66) dX12_init_186 (by decide) ?_
  refine hb_newi (N := 82) 66 am_Xst.z hr (am_Z.m (am_Z.u (am_Z.m (hZ) (m := 55) rfl) rfl) rfl) dX12_init_188 (by decide) ac_int rfl rfl ?_
  refine hb_putR 12 30 rl_82 dX12_init_190 (Or.inr ⟨fp_X12_70, rfl⟩) rfl (by decide) rfl (fun _ => rfl) (fun _ => rfl) rfl ?_
  refine am_aload_n dX12_init_193 rfl ?_
  refine am_bipush 16 (v := 16) dX12_init_194 (by decide) ?_
  refine hb_newi (N := 82) 16 am_Xst.z hr (am_Z.m (am_Z.u (am_Z.m (hZ) (m := 55) rfl) rfl) rfl) dX12_init_196 (by decide) ac_int rfl rfl ?_
  refine hb_putR 12 31 rl_83 dX12_init_198 (Or.inr ⟨fp_X12_73, rfl⟩) rfl (by decide) rfl (fun _ => rfl) (fun _ => rfl) rfl ?_
  refine am_aload_n dX12_init_201 rfl ?_
  refine am_bipush 16 (v := 16) dX12_init_202 (by decide) ?_
  refine am_bipush 66 (v := 66) dX12_init_204 (by decide) ?_
  refine hb_newg (N := 82) 16 66 am_Xst.z hr (am_Z.m (am_Z.u (am_Z.m (hZ) (m := 55) rfl) rfl) rfl) dX12_init_206 (by decide) cg_X12_26 ao_int ac_int rfl rfl ?_
  refine hb_putR 12 32 rl_84 dX12_init_210 (Or.inr ⟨fp_X12_76, rfl⟩) rfl (by decide) rfl (fun _ => rfl) (fun _ => rfl) rfl ?_
  refine am_aload_n dX12_init_213 rfl ?_
  refine am_iconst 3 (v := 3) dX12_init_214 (by decide) ?_
  refine am_sipush 1123 (v := 1123) dX12_init_215 (by decide) ?_
  refine hb_newg (N := 82) 3 1123 am_Xst.z hr (am_Z.m (am_Z.u (am_Z.m (hZ) (m := 55) rfl) rfl) rfl) dX12_init_218 (by decide) cg_X12_26 ao_int ac_int rfl rfl ?_
  refine hb_putR 12 33 rl_85 dX12_init_222 (Or.inr ⟨fp_X12_79, rfl⟩) rfl (by decide) rfl (fun _ => rfl) (fun _ => rfl) rfl ?_
  refine am_aload_n dX12_init_225 rfl ?_
  refine am_bipush 16 (v := 16) dX12_init_226 (by decide) ?_
  refine hb_newi (N := 82) 16 am_Xst.z hr (am_Z.m (am_Z.u (am_Z.m (hZ) (m := 55) rfl) rfl) rfl) dX12_init_228 (by decide) ac_int rfl rfl ?_
  refine hb_putR 12 42 rl_86 dX12_init_230 (Or.inr ⟨fp_X12_82, rfl⟩) rfl (by decide) rfl (fun _ => rfl) (fun _ => rfl) rfl ?_
  refine am_aload_n dX12_init_233 rfl ?_
  refine am_bipush 16 (v := 16) dX12_init_234 (by decide) ?_
  refine am_bipush 16 (v := 16) dX12_init_236 (by decide) ?_
  refine hb_newg (N := 82) 16 16 am_Xst.z hr (am_Z.m (am_Z.u (am_Z.m (hZ) (m := 55) rfl) rfl) rfl) dX12_init_238 (by decide) cg_X12_26 ao_int ac_int rfl rfl ?_
  refine hb_putR 12 43 rl_87 dX12_init_242 (Or.inr ⟨fp_X12_85, rfl⟩) rfl (by decide) rfl (fun _ => rfl) (fun _ => rfl) rfl ?_
  refine am_aload_n dX12_init_245 rfl ?_
  refine am_bipush 16 (v := 16) dX12_init_246 (by decide) ?_
  refine hb_newi (N := 82) 16 am_Xst.z hr (am_Z.m (am_Z.u (am_Z.m (hZ) (m := 55) rfl) rfl) rfl) dX12_init_248 (by decide) ac_int rfl rfl ?_
  refine hb_putR 12 44 rl_88 dX12_init_250 (Or.inr ⟨fp_X12_88, rfl⟩) rfl (by decide) rfl (fun _ => rfl) (fun _ => rfl) rfl ?_
  refine am_aload_n dX12_init_253 rfl ?_
  refine am_bipush 16 (v := 16) dX12_init_254 (by decide) ?_
  refine hb_newi (N := 82) 16 am_Xst.z hr (am_Z.m (am_Z.u (am_Z.m (hZ) (m := 55) rfl) rfl) rfl) dX12_init_256 (by decide) ac_int rfl rfl ?_
  refine hb_putR 12 45 rl_89 dX12_init_258 (Or.inr ⟨fp_X12_91, rfl⟩) rfl (by decide) rfl (fun _ => rfl) (fun _ => rfl) rfl ?_
  refine am_aload_n dX12_init_261 rfl ?_
  refine am_bipush 16 (v := 16) dX12_init_262 (by decide) ?_
  refine hb_newi (N := 82) 16 am_Xst.z hr (am_Z.m (am_Z.u (am_Z.m (hZ) (m := 55) rfl) rfl) rfl) dX12_init_264 (by decide) ac_int rfl rfl ?_
  refine hb_putR 12 47 rl_90 dX12_init_266 (Or.inr ⟨fp_X12_94, rfl⟩) rfl (by decide) rfl (fun _ => rfl) (fun _ => rfl) rfl ?_
  refine am_aload_n dX12_init_269 rfl ?_
  refine hb_callV (M1 := MT) (R1 := rl_90) [] dX12_init_270 ml_X12_97 vm_X12_tellsNothing rfl rfl (fun _ => zq _ rfl) (by omega) rfl (zf_tellsNothing (d := d + 1) (R := rl_90) zlay_90 hT) ?_
  refine am_aload_n dX12_init_273 rfl ?_
  refine hb_callV (M1 := MA) (R1 := rl_90) [] dX12_init_274 ml_X12_100 vm_X12_beginsAnew rfl rfl (fun _ => zq _ rfl) (by omega) rfl (zf_beginsAnew (d := d + 0) (R := rl_90) zlay_90 hA) ?_
  exact am_vret dX12_init_277 rfl
