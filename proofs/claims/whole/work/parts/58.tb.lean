/-! tables for new things -/
theorem ac_int : Cond.arrayClass .int ∈ am_ws := am_in 1 148 (by decide +kernel) rfl
theorem ac_byte : Cond.arrayClass .byte ∈ am_ws := am_in 1 64 (by decide +kernel) rfl
theorem ac_long : Cond.arrayClass .long ∈ am_ws := am_in 9 78 (by decide +kernel) rfl
theorem ao_int : Cond.arrayOver (.array .int) ∈ am_nw := am_inN 1 221 (by decide +kernel) rfl
theorem ob_i : Cond.instanceMethod Lib.objectInit ∈ am_ws := am_in 1 33 (by decide +kernel) rfl
theorem ob_c : Cond.code Lib.objectInit ⟨#[0xb1]⟩ 1 none ∈ am_ws := am_in 1 34 (by decide +kernel) rfl
theorem ol_X0_3 : Cond.methodLink RX0 3 Lib.objectInit ∈ am_ws := am_in 2 133 (by decide +kernel) rfl
theorem dv_X0 : ∀ f, f < 4 → defaultValue (tyX0 f) = if am_rf 0 f = true then .null else .int 0 := fun f hf => by
  match f, hf with
  | 0, _ => rfl
  | 1, _ => rfl
  | 2, _ => rfl
  | 3, _ => rfl
  | f + 4, hf => exact absurd hf (by omega)
theorem ol_X1_3 : Cond.methodLink RX1 3 Lib.objectInit ∈ am_ws := am_in 1 70 (by decide +kernel) rfl
theorem dv_X1 : ∀ f, f < 14 → defaultValue (tyX1 f) = if am_rf 1 f = true then .null else .int 0 := fun f hf => by
  match f, hf with
  | 0, _ => rfl
  | 1, _ => rfl
  | 2, _ => rfl
  | 3, _ => rfl
  | 4, _ => rfl
  | 5, _ => rfl
  | 6, _ => rfl
  | 7, _ => rfl
  | 8, _ => rfl
  | 9, _ => rfl
  | 10, _ => rfl
  | 11, _ => rfl
  | 12, _ => rfl
  | 13, _ => rfl
  | f + 14, hf => exact absurd hf (by omega)
theorem ol_X2_3 : Cond.methodLink RX2 3 Lib.objectInit ∈ am_ws := am_in 2 77 (by decide +kernel) rfl
theorem dv_X2 : ∀ f, f < 3 → defaultValue (tyX2 f) = if am_rf 2 f = true then .null else .int 0 := fun f hf => by
  match f, hf with
  | 0, _ => rfl
  | 1, _ => rfl
  | 2, _ => rfl
  | f + 3, hf => exact absurd hf (by omega)
theorem ol_X3_3 : Cond.methodLink RX3 3 Lib.objectInit ∈ am_ws := am_in 1 154 (by decide +kernel) rfl
theorem dv_X3 : ∀ f, f < 7 → defaultValue (tyX3 f) = if am_rf 3 f = true then .null else .int 0 := fun f hf => by
  match f, hf with
  | 0, _ => rfl
  | 1, _ => rfl
  | 2, _ => rfl
  | 3, _ => rfl
  | 4, _ => rfl
  | 5, _ => rfl
  | 6, _ => rfl
  | f + 7, hf => exact absurd hf (by omega)
theorem ol_X4_3 : Cond.methodLink RX4 3 Lib.objectInit ∈ am_ws := am_in 1 194 (by decide +kernel) rfl
theorem dv_X4 : ∀ f, f < 2 → defaultValue (tyX4 f) = if am_rf 4 f = true then .null else .int 0 := fun f hf => by
  match f, hf with
  | 0, _ => rfl
  | 1, _ => rfl
  | f + 2, hf => exact absurd hf (by omega)
theorem ol_X5_3 : Cond.methodLink RX5 3 Lib.objectInit ∈ am_ws := am_in 2 93 (by decide +kernel) rfl
theorem dv_X5 : ∀ f, f < 8 → defaultValue (tyX5 f) = if am_rf 5 f = true then .null else .int 0 := fun f hf => by
  match f, hf with
  | 0, _ => rfl
  | 1, _ => rfl
  | 2, _ => rfl
  | 3, _ => rfl
  | 4, _ => rfl
  | 5, _ => rfl
  | 6, _ => rfl
  | 7, _ => rfl
  | f + 8, hf => exact absurd hf (by omega)
theorem ol_X6_3 : Cond.methodLink RX6 3 Lib.objectInit ∈ am_ws := am_in 2 31 (by decide +kernel) rfl
theorem dv_X6 : ∀ f, f < 11 → defaultValue (tyX6 f) = if am_rf 6 f = true then .null else .int 0 := fun f hf => by
  match f, hf with
  | 0, _ => rfl
  | 1, _ => rfl
  | 2, _ => rfl
  | 3, _ => rfl
  | 4, _ => rfl
  | 5, _ => rfl
  | 6, _ => rfl
  | 7, _ => rfl
  | 8, _ => rfl
  | 9, _ => rfl
  | 10, _ => rfl
  | f + 11, hf => exact absurd hf (by omega)
theorem ol_X7_7 : Cond.methodLink RX7 7 Lib.objectInit ∈ am_ws := am_in 1 219 (by decide +kernel) rfl
theorem dv_X7 : ∀ f, f < 4 → defaultValue (tyX7 f) = if am_rf 7 f = true then .null else .int 0 := fun f hf => by
  match f, hf with
  | 0, _ => rfl
  | 1, _ => rfl
  | 2, _ => rfl
  | 3, _ => rfl
  | f + 4, hf => exact absurd hf (by omega)
theorem ol_X8_5 : Cond.methodLink RX8 5 Lib.objectInit ∈ am_ws := am_in 1 208 (by decide +kernel) rfl
theorem dv_X8 : ∀ f, f < 1 → defaultValue (tyX8 f) = if am_rf 8 f = true then .null else .int 0 := fun f hf => by
  match f, hf with
  | 0, _ => rfl
  | f + 1, hf => exact absurd hf (by omega)
theorem ol_X9_3 : Cond.methodLink RX9 3 Lib.objectInit ∈ am_ws := am_in 2 2 (by decide +kernel) rfl
theorem dv_X9 : ∀ f, f < 7 → defaultValue (tyX9 f) = if am_rf 9 f = true then .null else .int 0 := fun f hf => by
  match f, hf with
  | 0, _ => rfl
  | 1, _ => rfl
  | 2, _ => rfl
  | 3, _ => rfl
  | 4, _ => rfl
  | 5, _ => rfl
  | 6, _ => rfl
  | f + 7, hf => exact absurd hf (by omega)
theorem ol_X10_3 : Cond.methodLink RX10 3 Lib.objectInit ∈ am_ws := am_in 1 40 (by decide +kernel) rfl
theorem dv_X10 : ∀ f, f < 7 → defaultValue (tyX10 f) = if am_rf 10 f = true then .null else .int 0 := fun f hf => by
  match f, hf with
  | 0, _ => rfl
  | 1, _ => rfl
  | 2, _ => rfl
  | 3, _ => rfl
  | 4, _ => rfl
  | 5, _ => rfl
  | 6, _ => rfl
  | f + 7, hf => exact absurd hf (by omega)
theorem ol_X11_1 : Cond.methodLink RX11 1 Lib.objectInit ∈ am_ws := am_in 1 32 (by decide +kernel) rfl
theorem dv_X11 : ∀ f, f < 15 → defaultValue (tyX11 f) = if am_rf 11 f = true then .null else .int 0 := fun f hf => by
  match f, hf with
  | 0, _ => rfl
  | 1, _ => rfl
  | 2, _ => rfl
  | 3, _ => rfl
  | 4, _ => rfl
  | 5, _ => rfl
  | 6, _ => rfl
  | 7, _ => rfl
  | 8, _ => rfl
  | 9, _ => rfl
  | 10, _ => rfl
  | 11, _ => rfl
  | 12, _ => rfl
  | 13, _ => rfl
  | 14, _ => rfl
  | f + 15, hf => exact absurd hf (by omega)
theorem ol_X12_1 : Cond.methodLink RX12 1 Lib.objectInit ∈ am_ws := am_in 6 225 (by decide +kernel) rfl
theorem dv_X12 : ∀ f, f < 50 → defaultValue (tyX12 f) = if am_rf 12 f = true then .null else .int 0 := fun f hf => by
  match f, hf with
  | 0, _ => rfl
  | 1, _ => rfl
  | 2, _ => rfl
  | 3, _ => rfl
  | 4, _ => rfl
  | 5, _ => rfl
  | 6, _ => rfl
  | 7, _ => rfl
  | 8, _ => rfl
  | 9, _ => rfl
  | 10, _ => rfl
  | 11, _ => rfl
  | 12, _ => rfl
  | 13, _ => rfl
  | 14, _ => rfl
  | 15, _ => rfl
  | 16, _ => rfl
  | 17, _ => rfl
  | 18, _ => rfl
  | 19, _ => rfl
  | 20, _ => rfl
  | 21, _ => rfl
  | 22, _ => rfl
  | 23, _ => rfl
  | 24, _ => rfl
  | 25, _ => rfl
  | 26, _ => rfl
  | 27, _ => rfl
  | 28, _ => rfl
  | 29, _ => rfl
  | 30, _ => rfl
  | 31, _ => rfl
  | 32, _ => rfl
  | 33, _ => rfl
  | 34, _ => rfl
  | 35, _ => rfl
  | 36, _ => rfl
  | 37, _ => rfl
  | 38, _ => rfl
  | 39, _ => rfl
  | 40, _ => rfl
  | 41, _ => rfl
  | 42, _ => rfl
  | 43, _ => rfl
  | 44, _ => rfl
  | 45, _ => rfl
  | 46, _ => rfl
  | 47, _ => rfl
  | 48, _ => rfl
  | 49, _ => rfl
  | f + 50, hf => exact absurd hf (by omega)
theorem nd_L_8 : am_nd RL 8 11 15 := ⟨(RX11, TX11, 15), tyX11, cl_11, rfl, am_in 1 27 (by decide +kernel) rfl, am_in 1 28 (by decide +kernel) rfl, am_in 1 1 (by decide +kernel) rfl, dv_X11⟩
theorem nd_X11_7 : am_nd RX11 7 10 7 := ⟨(RX10, TX10, 7), tyX10, cl_10, rfl, am_in 1 35 (by decide +kernel) rfl, am_in 1 36 (by decide +kernel) rfl, am_in 1 2 (by decide +kernel) rfl, dv_X10⟩
theorem nd_X11_16 : am_nd RX11 16 1 14 := ⟨(RX1, TX1, 14), tyX1, cl_1, rfl, am_in 1 65 (by decide +kernel) rfl, am_in 1 66 (by decide +kernel) rfl, am_in 1 3 (by decide +kernel) rfl, dv_X1⟩
theorem nd_X11_26 : am_nd RX11 26 3 7 := ⟨(RX3, TX3, 7), tyX3, cl_3, rfl, am_in 1 149 (by decide +kernel) rfl, am_in 1 150 (by decide +kernel) rfl, am_in 1 4 (by decide +kernel) rfl, dv_X3⟩
theorem nd_X11_33 : am_nd RX11 33 4 2 := ⟨(RX4, TX4, 2), tyX4, cl_4, rfl, am_in 1 189 (by decide +kernel) rfl, am_in 1 190 (by decide +kernel) rfl, am_in 1 5 (by decide +kernel) rfl, dv_X4⟩
theorem nd_X11_42 : am_nd RX11 42 8 1 := ⟨(RX8, TX8, 1), tyX8, cl_8, rfl, am_in 1 203 (by decide +kernel) rfl, am_in 1 204 (by decide +kernel) rfl, am_in 1 6 (by decide +kernel) rfl, dv_X8⟩
theorem nd_X11_49 : am_nd RX11 49 7 4 := ⟨(RX7, TX7, 4), tyX7, cl_7, rfl, am_in 1 214 (by decide +kernel) rfl, am_in 1 215 (by decide +kernel) rfl, am_in 1 7 (by decide +kernel) rfl, dv_X7⟩
theorem cg_X7_17 : Cond.classLink RX7 17 ("[" ++ (FieldType.array .int).toString) ∈ am_ws := am_in 1 220 (by decide +kernel) rfl
theorem nd_X11_56 : am_nd RX11 56 9 7 := ⟨(RX9, TX9, 7), tyX9, cl_9, rfl, am_in 1 237 (by decide +kernel) rfl, am_in 1 238 (by decide +kernel) rfl, am_in 1 8 (by decide +kernel) rfl, dv_X9⟩
theorem nd_X11_63 : am_nd RX11 63 6 11 := ⟨(RX6, TX6, 11), tyX6, cl_6, rfl, am_in 2 26 (by decide +kernel) rfl, am_in 2 27 (by decide +kernel) rfl, am_in 1 9 (by decide +kernel) rfl, dv_X6⟩
theorem nd_X6_9 : am_nd RX6 9 8 1 := ⟨(RX8, TX8, 1), tyX8, cl_8, rfl, am_in 2 32 (by decide +kernel) rfl, am_in 1 204 (by decide +kernel) rfl, am_in 1 6 (by decide +kernel) rfl, dv_X8⟩
theorem nd_X11_72 : am_nd RX11 72 2 3 := ⟨(RX2, TX2, 3), tyX2, cl_2, rfl, am_in 2 72 (by decide +kernel) rfl, am_in 2 73 (by decide +kernel) rfl, am_in 1 10 (by decide +kernel) rfl, dv_X2⟩
theorem nd_X11_81 : am_nd RX11 81 5 8 := ⟨(RX5, TX5, 8), tyX5, cl_5, rfl, am_in 2 88 (by decide +kernel) rfl, am_in 2 89 (by decide +kernel) rfl, am_in 1 11 (by decide +kernel) rfl, dv_X5⟩
theorem nd_X11_88 : am_nd RX11 88 0 4 := ⟨(RX0, TX0, 4), tyX0, cl_0, rfl, am_in 2 128 (by decide +kernel) rfl, am_in 2 129 (by decide +kernel) rfl, am_in 1 13 (by decide +kernel) rfl, dv_X0⟩
theorem nd_L_113 : am_nd RL 113 12 50 := ⟨(RX12, TX12, 50), tyX12, cl_12, rfl, am_in 6 220 (by decide +kernel) rfl, am_in 6 221 (by decide +kernel) rfl, am_in 1 14 (by decide +kernel) rfl, dv_X12⟩
theorem cg_X12_26 : Cond.classLink RX12 26 ("[" ++ (FieldType.array .int).toString) ∈ am_ws := am_in 6 226 (by decide +kernel) rfl
