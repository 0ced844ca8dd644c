def am_ch : Nat → List Cond := fun k => match k with
  | 1 => tables_1_1 | 2 => tables_1_2 | 3 => tables_1_3 | 4 => tables_1_4 | 5 => tables_1_5 | 6 => tables_1_6 | 7 => tables_1_7 | 8 => tables_1_8 | 9 => tables_1_9 | _ => []
theorem am_chm {w : Cond} : ∀ k, w ∈ am_ch k → w ∈ tables_1 := by
  intro k h
  show w ∈ tables_1_1 ++ (tables_1_2 ++ (tables_1_3 ++ (tables_1_4 ++ (tables_1_5 ++ (tables_1_6 ++ (tables_1_7 ++ (tables_1_8 ++ tables_1_9)))))))
  simp only [List.mem_append]
  match k, h with
  | 0, h => exact absurd h List.not_mem_nil
  | 1, h => exact Or.inl h
  | 2, h => exact Or.inr (Or.inl h)
  | 3, h => exact Or.inr (Or.inr (Or.inl h))
  | 4, h => exact Or.inr (Or.inr (Or.inr (Or.inl h)))
  | 5, h => exact Or.inr (Or.inr (Or.inr (Or.inr (Or.inl h))))
  | 6, h => exact Or.inr (Or.inr (Or.inr (Or.inr (Or.inr (Or.inl h)))))
  | 7, h => exact Or.inr (Or.inr (Or.inr (Or.inr (Or.inr (Or.inr (Or.inl h))))))
  | 8, h => exact Or.inr (Or.inr (Or.inr (Or.inr (Or.inr (Or.inr (Or.inr (Or.inl h)))))))
  | 9, h => exact Or.inr (Or.inr (Or.inr (Or.inr (Or.inr (Or.inr (Or.inr (Or.inr h)))))))
  | _ + 10, h => exact absurd h List.not_mem_nil
theorem am_in {w : Cond} (k i : Nat) (h : (am_ch k)[i]? = some w) (hg : goodWord w = true) : w ∈ am_ws := List.mem_filter.mpr ⟨List.mem_append_right _ (am_chm k (List.mem_of_getElem? h)), hg⟩
theorem am_inN {w : Cond} (k i : Nat) (h : (am_ch k)[i]? = some w) (hg : am_isn w = true) : w ∈ am_nw := List.mem_filter.mpr ⟨List.mem_append_right _ (am_chm k (List.mem_of_getElem? h)), hg⟩
theorem am_inP {w : Cond} (i : Nat) (h : (k2_sels lw_privs)[i]? = some w) (hg : goodWord w = true) : w ∈ am_ws := List.mem_filter.mpr ⟨List.mem_append_left _ (List.mem_of_getElem? h), hg⟩
/-- a constructor -/
def am_im (y : am_M) (n : Nat) : Prop := am_md y n ∧ Cond.instanceMethod y.1 ∈ am_ws ∧ y.1.name = "<init>"
theorem cl_a0 : ∀ f, f < 4 → u_lay RX0 TX0 f ∈ am_ws := lt_s (lt_s (lt_s (lt_s (lt_0) (am_in 2 140 (by decide +kernel) rfl)) (am_in 2 142 (by decide +kernel) rfl)) (am_in 2 144 (by decide +kernel) rfl)) (am_in 2 146 (by decide +kernel) rfl)
theorem cl_w0 : ∀ w ∈ u_ws RX0 TX0 4, w ∈ am_ws := fun w hw => by
  obtain ⟨f, hf, rfl⟩ := List.mem_map.mp hw
  exact cl_a0 f (List.mem_range.mp hf)
theorem cl_0 : am_cl 0 (RX0, TX0, 4) tyX0 := ⟨rfl, cl_w0, tyX0_ok, nmX0⟩
theorem cl_a1 : ∀ f, f < 14 → u_lay RX1 TX1 f ∈ am_ws := lt_s (lt_s (lt_s (lt_s (lt_s (lt_s (lt_s (lt_s (lt_s (lt_s (lt_s (lt_s (lt_s (lt_s (lt_0) (am_in 1 119 (by decide +kernel) rfl)) (am_in 1 121 (by decide +kernel) rfl)) (am_in 1 123 (by decide +kernel) rfl)) (am_in 1 125 (by decide +kernel) rfl)) (am_in 1 127 (by decide +kernel) rfl)) (am_in 1 129 (by decide +kernel) rfl)) (am_in 1 131 (by decide +kernel) rfl)) (am_in 1 133 (by decide +kernel) rfl)) (am_in 1 135 (by decide +kernel) rfl)) (am_in 1 137 (by decide +kernel) rfl)) (am_in 1 139 (by decide +kernel) rfl)) (am_in 1 141 (by decide +kernel) rfl)) (am_in 1 143 (by decide +kernel) rfl)) (am_in 1 145 (by decide +kernel) rfl)
theorem cl_w1 : ∀ w ∈ u_ws RX1 TX1 14, w ∈ am_ws := fun w hw => by
  obtain ⟨f, hf, rfl⟩ := List.mem_map.mp hw
  exact cl_a1 f (List.mem_range.mp hf)
theorem cl_1 : am_cl 1 (RX1, TX1, 14) tyX1 := ⟨rfl, cl_w1, tyX1_ok, nmX1⟩
theorem cl_a2 : ∀ f, f < 3 → u_lay RX2 TX2 f ∈ am_ws := lt_s (lt_s (lt_s (lt_0) (am_in 2 81 (by decide +kernel) rfl)) (am_in 2 83 (by decide +kernel) rfl)) (am_in 2 85 (by decide +kernel) rfl)
theorem cl_w2 : ∀ w ∈ u_ws RX2 TX2 3, w ∈ am_ws := fun w hw => by
  obtain ⟨f, hf, rfl⟩ := List.mem_map.mp hw
  exact cl_a2 f (List.mem_range.mp hf)
theorem cl_2 : am_cl 2 (RX2, TX2, 3) tyX2 := ⟨rfl, cl_w2, tyX2_ok, nmX2⟩
theorem cl_a3 : ∀ f, f < 7 → u_lay RX3 TX3 f ∈ am_ws := lt_s (lt_s (lt_s (lt_s (lt_s (lt_s (lt_s (lt_0) (am_in 1 174 (by decide +kernel) rfl)) (am_in 1 176 (by decide +kernel) rfl)) (am_in 1 178 (by decide +kernel) rfl)) (am_in 1 180 (by decide +kernel) rfl)) (am_in 1 182 (by decide +kernel) rfl)) (am_in 1 184 (by decide +kernel) rfl)) (am_in 1 186 (by decide +kernel) rfl)
theorem cl_w3 : ∀ w ∈ u_ws RX3 TX3 7, w ∈ am_ws := fun w hw => by
  obtain ⟨f, hf, rfl⟩ := List.mem_map.mp hw
  exact cl_a3 f (List.mem_range.mp hf)
theorem cl_3 : am_cl 3 (RX3, TX3, 7) tyX3 := ⟨rfl, cl_w3, tyX3_ok, nmX3⟩
theorem cl_a4 : ∀ f, f < 2 → u_lay RX4 TX4 f ∈ am_ws := lt_s (lt_s (lt_0) (am_in 1 198 (by decide +kernel) rfl)) (am_in 1 200 (by decide +kernel) rfl)
theorem cl_w4 : ∀ w ∈ u_ws RX4 TX4 2, w ∈ am_ws := fun w hw => by
  obtain ⟨f, hf, rfl⟩ := List.mem_map.mp hw
  exact cl_a4 f (List.mem_range.mp hf)
theorem cl_4 : am_cl 4 (RX4, TX4, 2) tyX4 := ⟨rfl, cl_w4, tyX4_ok, nmX4⟩
theorem cl_a5 : ∀ f, f < 8 → u_lay RX5 TX5 f ∈ am_ws := lt_s (lt_s (lt_s (lt_s (lt_s (lt_s (lt_s (lt_s (lt_0) (am_in 2 111 (by decide +kernel) rfl)) (am_in 2 113 (by decide +kernel) rfl)) (am_in 2 115 (by decide +kernel) rfl)) (am_in 2 117 (by decide +kernel) rfl)) (am_in 2 119 (by decide +kernel) rfl)) (am_in 2 121 (by decide +kernel) rfl)) (am_in 2 123 (by decide +kernel) rfl)) (am_in 2 125 (by decide +kernel) rfl)
theorem cl_w5 : ∀ w ∈ u_ws RX5 TX5 8, w ∈ am_ws := fun w hw => by
  obtain ⟨f, hf, rfl⟩ := List.mem_map.mp hw
  exact cl_a5 f (List.mem_range.mp hf)
theorem cl_5 : am_cl 5 (RX5, TX5, 8) tyX5 := ⟨rfl, cl_w5, tyX5_ok, nmX5⟩
theorem cl_a6 : ∀ f, f < 11 → u_lay RX6 TX6 f ∈ am_ws := lt_s (lt_s (lt_s (lt_s (lt_s (lt_s (lt_s (lt_s (lt_s (lt_s (lt_s (lt_0) (am_in 2 49 (by decide +kernel) rfl)) (am_in 2 51 (by decide +kernel) rfl)) (am_in 2 53 (by decide +kernel) rfl)) (am_in 2 55 (by decide +kernel) rfl)) (am_in 2 57 (by decide +kernel) rfl)) (am_in 2 59 (by decide +kernel) rfl)) (am_in 2 61 (by decide +kernel) rfl)) (am_in 2 63 (by decide +kernel) rfl)) (am_in 2 65 (by decide +kernel) rfl)) (am_in 2 67 (by decide +kernel) rfl)) (am_in 2 69 (by decide +kernel) rfl)
theorem cl_w6 : ∀ w ∈ u_ws RX6 TX6 11, w ∈ am_ws := fun w hw => by
  obtain ⟨f, hf, rfl⟩ := List.mem_map.mp hw
  exact cl_a6 f (List.mem_range.mp hf)
theorem cl_6 : am_cl 6 (RX6, TX6, 11) tyX6 := ⟨rfl, cl_w6, tyX6_ok, nmX6⟩
theorem cl_a7 : ∀ f, f < 4 → u_lay RX7 TX7 f ∈ am_ws := lt_s (lt_s (lt_s (lt_s (lt_0) (am_in 1 228 (by decide +kernel) rfl)) (am_in 1 230 (by decide +kernel) rfl)) (am_in 1 232 (by decide +kernel) rfl)) (am_in 1 234 (by decide +kernel) rfl)
theorem cl_w7 : ∀ w ∈ u_ws RX7 TX7 4, w ∈ am_ws := fun w hw => by
  obtain ⟨f, hf, rfl⟩ := List.mem_map.mp hw
  exact cl_a7 f (List.mem_range.mp hf)
theorem cl_7 : am_cl 7 (RX7, TX7, 4) tyX7 := ⟨rfl, cl_w7, tyX7_ok, nmX7⟩
theorem cl_a8 : ∀ f, f < 1 → u_lay RX8 TX8 f ∈ am_ws := lt_s (lt_0) (am_in 1 211 (by decide +kernel) rfl)
theorem cl_w8 : ∀ w ∈ u_ws RX8 TX8 1, w ∈ am_ws := fun w hw => by
  obtain ⟨f, hf, rfl⟩ := List.mem_map.mp hw
  exact cl_a8 f (List.mem_range.mp hf)
theorem cl_8 : am_cl 8 (RX8, TX8, 1) tyX8 := ⟨rfl, cl_w8, tyX8_ok, nmX8⟩
theorem cl_a9 : ∀ f, f < 7 → u_lay RX9 TX9 f ∈ am_ws := lt_s (lt_s (lt_s (lt_s (lt_s (lt_s (lt_s (lt_0) (am_in 2 11 (by decide +kernel) rfl)) (am_in 2 13 (by decide +kernel) rfl)) (am_in 2 15 (by decide +kernel) rfl)) (am_in 2 17 (by decide +kernel) rfl)) (am_in 2 19 (by decide +kernel) rfl)) (am_in 2 21 (by decide +kernel) rfl)) (am_in 2 23 (by decide +kernel) rfl)
theorem cl_w9 : ∀ w ∈ u_ws RX9 TX9 7, w ∈ am_ws := fun w hw => by
  obtain ⟨f, hf, rfl⟩ := List.mem_map.mp hw
  exact cl_a9 f (List.mem_range.mp hf)
theorem cl_9 : am_cl 9 (RX9, TX9, 7) tyX9 := ⟨rfl, cl_w9, tyX9_ok, nmX9⟩
theorem cl_a10 : ∀ f, f < 7 → u_lay RX10 TX10 f ∈ am_ws := lt_s (lt_s (lt_s (lt_s (lt_s (lt_s (lt_s (lt_0) (am_in 1 49 (by decide +kernel) rfl)) (am_in 1 51 (by decide +kernel) rfl)) (am_in 1 53 (by decide +kernel) rfl)) (am_in 1 55 (by decide +kernel) rfl)) (am_in 1 57 (by decide +kernel) rfl)) (am_in 1 59 (by decide +kernel) rfl)) (am_in 1 61 (by decide +kernel) rfl)
theorem cl_w10 : ∀ w ∈ u_ws RX10 TX10 7, w ∈ am_ws := fun w hw => by
  obtain ⟨f, hf, rfl⟩ := List.mem_map.mp hw
  exact cl_a10 f (List.mem_range.mp hf)
theorem cl_10 : am_cl 10 (RX10, TX10, 7) tyX10 := ⟨rfl, cl_w10, tyX10_ok, nmX10⟩
theorem cl_a11 : ∀ f, f < 15 → u_lay RX11 TX11 f ∈ am_ws := lt_s (lt_s (lt_s (lt_s (lt_s (lt_s (lt_s (lt_s (lt_s (lt_s (lt_s (lt_s (lt_s (lt_s (lt_s (lt_0) (am_in 2 164 (by decide +kernel) rfl)) (am_in 2 166 (by decide +kernel) rfl)) (am_in 2 168 (by decide +kernel) rfl)) (am_in 2 170 (by decide +kernel) rfl)) (am_in 2 172 (by decide +kernel) rfl)) (am_in 2 174 (by decide +kernel) rfl)) (am_in 2 176 (by decide +kernel) rfl)) (am_in 2 178 (by decide +kernel) rfl)) (am_in 2 180 (by decide +kernel) rfl)) (am_in 2 182 (by decide +kernel) rfl)) (am_in 2 184 (by decide +kernel) rfl)) (am_in 2 186 (by decide +kernel) rfl)) (am_in 2 188 (by decide +kernel) rfl)) (am_in 2 190 (by decide +kernel) rfl)) (am_in 2 192 (by decide +kernel) rfl)
theorem cl_w11 : ∀ w ∈ u_ws RX11 TX11 15, w ∈ am_ws := fun w hw => by
  obtain ⟨f, hf, rfl⟩ := List.mem_map.mp hw
  exact cl_a11 f (List.mem_range.mp hf)
theorem cl_11 : am_cl 11 (RX11, TX11, 15) tyX11 := ⟨rfl, cl_w11, tyX11_ok, nmX11⟩
theorem cl_a12 : ∀ f, f < 50 → u_lay RX12 TX12 f ∈ am_ws := lt_s (lt_s (lt_s (lt_s (lt_s (lt_s (lt_s (lt_s (lt_s (lt_s (lt_s (lt_s (lt_s (lt_s (lt_s (lt_s (lt_s (lt_s (lt_s (lt_s (lt_s (lt_s (lt_s (lt_s (lt_s (lt_s (lt_s (lt_s (lt_s (lt_s (lt_s (lt_s (lt_s (lt_s (lt_s (lt_s (lt_s (lt_s (lt_s (lt_s (lt_s (lt_s (lt_s (lt_s (lt_s (lt_s (lt_s (lt_s (lt_s (lt_s (lt_0) (am_in 7 51 (by decide +kernel) rfl)) (am_in 7 53 (by decide +kernel) rfl)) (am_in 7 55 (by decide +kernel) rfl)) (am_in 7 57 (by decide +kernel) rfl)) (am_in 7 59 (by decide +kernel) rfl)) (am_in 7 61 (by decide +kernel) rfl)) (am_in 7 63 (by decide +kernel) rfl)) (am_in 7 65 (by decide +kernel) rfl)) (am_in 7 67 (by decide +kernel) rfl)) (am_in 7 69 (by decide +kernel) rfl)) (am_in 7 71 (by decide +kernel) rfl)) (am_in 7 73 (by decide +kernel) rfl)) (am_in 7 75 (by decide +kernel) rfl)) (am_in 7 77 (by decide +kernel) rfl)) (am_in 7 79 (by decide +kernel) rfl)) (am_in 7 81 (by decide +kernel) rfl)) (am_in 7 83 (by decide +kernel) rfl)) (am_in 7 85 (by decide +kernel) rfl)) (am_in 7 87 (by decide +kernel) rfl)) (am_in 7 89 (by decide +kernel) rfl)) (am_in 7 91 (by decide +kernel) rfl)) (am_in 7 93 (by decide +kernel) rfl)) (am_in 7 95 (by decide +kernel) rfl)) (am_in 7 97 (by decide +kernel) rfl)) (am_in 7 99 (by decide +kernel) rfl)) (am_in 7 101 (by decide +kernel) rfl)) (am_in 7 103 (by decide +kernel) rfl)) (am_in 7 105 (by decide +kernel) rfl)) (am_in 7 107 (by decide +kernel) rfl)) (am_in 7 109 (by decide +kernel) rfl)) (am_in 7 111 (by decide +kernel) rfl)) (am_in 7 113 (by decide +kernel) rfl)) (am_in 7 115 (by decide +kernel) rfl)) (am_in 7 117 (by decide +kernel) rfl)) (am_in 7 119 (by decide +kernel) rfl)) (am_in 7 121 (by decide +kernel) rfl)) (am_in 7 123 (by decide +kernel) rfl)) (am_in 7 125 (by decide +kernel) rfl)) (am_in 7 127 (by decide +kernel) rfl)) (am_in 7 129 (by decide +kernel) rfl)) (am_in 7 131 (by decide +kernel) rfl)) (am_in 7 133 (by decide +kernel) rfl)) (am_in 7 135 (by decide +kernel) rfl)) (am_in 7 137 (by decide +kernel) rfl)) (am_in 7 139 (by decide +kernel) rfl)) (am_in 7 141 (by decide +kernel) rfl)) (am_in 7 143 (by decide +kernel) rfl)) (am_in 7 145 (by decide +kernel) rfl)) (am_in 7 147 (by decide +kernel) rfl)) (am_in 7 149 (by decide +kernel) rfl)
theorem cl_w12 : ∀ w ∈ u_ws RX12 TX12 50, w ∈ am_ws := fun w hw => by
  obtain ⟨f, hf, rfl⟩ := List.mem_map.mp hw
  exact cl_a12 f (List.mem_range.mp hf)
theorem cl_12 : am_cl 12 (RX12, TX12, 50) tyX12 := ⟨rfl, cl_w12, tyX12_ok, nmX12⟩
theorem fg_X10_9 : am_gd RX10 9 10 0 := ⟨(RX10, TX10, 7), tyX10, cl_10, by decide, Or.inl (am_in 1 41 (by decide +kernel) rfl)⟩
theorem fp_X10_9 : am_pd RX10 9 10 0 (.array .byte) true := ⟨(RX10, TX10, 7), tyX10, cl_10, by decide, Or.inl (am_in 1 41 (by decide +kernel) rfl), rfl, rfl, fun _ => ⟨rfl, am_in 1 41 (by decide +kernel) rfl⟩⟩
theorem fg_X10_19 : am_gd RX10 19 10 1 := ⟨(RX10, TX10, 7), tyX10, cl_10, by decide, Or.inl (am_in 1 42 (by decide +kernel) rfl)⟩
theorem fp_X10_19 : am_pd RX10 19 10 1 (.int) false := ⟨(RX10, TX10, 7), tyX10, cl_10, by decide, Or.inl (am_in 1 42 (by decide +kernel) rfl), rfl, rfl, fun z => by cases z⟩
theorem fg_X10_28 : am_gd RX10 28 10 2 := ⟨(RX10, TX10, 7), tyX10, cl_10, by decide, Or.inl (am_in 1 43 (by decide +kernel) rfl)⟩
theorem fp_X10_28 : am_pd RX10 28 10 2 (.int) false := ⟨(RX10, TX10, 7), tyX10, cl_10, by decide, Or.inl (am_in 1 43 (by decide +kernel) rfl), rfl, rfl, fun z => by cases z⟩
theorem fg_X10_31 : am_gd RX10 31 10 3 := ⟨(RX10, TX10, 7), tyX10, cl_10, by decide, Or.inl (am_in 1 44 (by decide +kernel) rfl)⟩
theorem fp_X10_31 : am_pd RX10 31 10 3 (.int) false := ⟨(RX10, TX10, 7), tyX10, cl_10, by decide, Or.inl (am_in 1 44 (by decide +kernel) rfl), rfl, rfl, fun z => by cases z⟩
theorem fg_X10_37 : am_gd RX10 37 10 4 := ⟨(RX10, TX10, 7), tyX10, cl_10, by decide, Or.inl (am_in 1 45 (by decide +kernel) rfl)⟩
theorem fp_X10_37 : am_pd RX10 37 10 4 (.int) false := ⟨(RX10, TX10, 7), tyX10, cl_10, by decide, Or.inl (am_in 1 45 (by decide +kernel) rfl), rfl, rfl, fun z => by cases z⟩
theorem fg_X10_34 : am_gd RX10 34 10 5 := ⟨(RX10, TX10, 7), tyX10, cl_10, by decide, Or.inl (am_in 1 46 (by decide +kernel) rfl)⟩
theorem fp_X10_34 : am_pd RX10 34 10 5 (.int) false := ⟨(RX10, TX10, 7), tyX10, cl_10, by decide, Or.inl (am_in 1 46 (by decide +kernel) rfl), rfl, rfl, fun z => by cases z⟩
theorem fg_X10_15 : am_gd RX10 15 10 6 := ⟨(RX10, TX10, 7), tyX10, cl_10, by decide, Or.inl (am_in 1 47 (by decide +kernel) rfl)⟩
theorem fp_X10_15 : am_pd RX10 15 10 6 (.int) false := ⟨(RX10, TX10, 7), tyX10, cl_10, by decide, Or.inl (am_in 1 47 (by decide +kernel) rfl), rfl, rfl, fun z => by cases z⟩
theorem fg_X11_169 : am_gd RX11 169 10 6 := ⟨(RX10, TX10, 7), tyX10, cl_10, by decide, Or.inr ⟨"LiddedRiver", am_inN 1 48 (by decide +kernel) rfl⟩⟩
theorem fg_X1_46 : am_gd RX1 46 1 0 := ⟨(RX1, TX1, 14), tyX1, cl_1, by decide, Or.inl (am_in 1 71 (by decide +kernel) rfl)⟩
theorem fp_X1_46 : am_pd RX1 46 1 0 (.int) false := ⟨(RX1, TX1, 14), tyX1, cl_1, by decide, Or.inl (am_in 1 71 (by decide +kernel) rfl), rfl, rfl, fun z => by cases z⟩
theorem fg_X2_32 : am_gd RX2 32 1 0 := ⟨(RX1, TX1, 14), tyX1, cl_1, by decide, Or.inr ⟨"LiddedRiver", am_inN 1 72 (by decide +kernel) rfl⟩⟩
theorem fg_X0_30 : am_gd RX0 30 1 0 := ⟨(RX1, TX1, 14), tyX1, cl_1, by decide, Or.inr ⟨"LiddedRiver", am_inN 1 73 (by decide +kernel) rfl⟩⟩
theorem fg_X4_25 : am_gd RX4 25 1 0 := ⟨(RX1, TX1, 14), tyX1, cl_1, by decide, Or.inr ⟨"LiddedRiver", am_inN 1 74 (by decide +kernel) rfl⟩⟩
theorem fg_X11_142 : am_gd RX11 142 1 0 := ⟨(RX1, TX1, 14), tyX1, cl_1, by decide, Or.inr ⟨"LiddedRiver", am_inN 1 75 (by decide +kernel) rfl⟩⟩
theorem fg_X5_57 : am_gd RX5 57 1 0 := ⟨(RX1, TX1, 14), tyX1, cl_1, by decide, Or.inr ⟨"LiddedRiver", am_inN 1 76 (by decide +kernel) rfl⟩⟩
theorem fg_X6_80 : am_gd RX6 80 1 0 := ⟨(RX1, TX1, 14), tyX1, cl_1, by decide, Or.inr ⟨"LiddedRiver", am_inN 1 77 (by decide +kernel) rfl⟩⟩
theorem fg_X1_9 : am_gd RX1 9 1 1 := ⟨(RX1, TX1, 14), tyX1, cl_1, by decide, Or.inl (am_in 1 78 (by decide +kernel) rfl)⟩
theorem fp_X1_9 : am_pd RX1 9 1 1 (.array .int) true := ⟨(RX1, TX1, 14), tyX1, cl_1, by decide, Or.inl (am_in 1 78 (by decide +kernel) rfl), rfl, rfl, fun _ => ⟨rfl, am_in 1 78 (by decide +kernel) rfl⟩⟩
theorem fg_X4_44 : am_gd RX4 44 1 1 := ⟨(RX1, TX1, 14), tyX1, cl_1, by decide, Or.inr ⟨"LiddedRiver", am_inN 1 79 (by decide +kernel) rfl⟩⟩
theorem fg_X11_212 : am_gd RX11 212 1 1 := ⟨(RX1, TX1, 14), tyX1, cl_1, by decide, Or.inr ⟨"LiddedRiver", am_inN 1 80 (by decide +kernel) rfl⟩⟩
theorem fg_X3_105 : am_gd RX3 105 1 1 := ⟨(RX1, TX1, 14), tyX1, cl_1, by decide, Or.inr ⟨"LiddedRiver", am_inN 1 81 (by decide +kernel) rfl⟩⟩
theorem fg_X1_15 : am_gd RX1 15 1 2 := ⟨(RX1, TX1, 14), tyX1, cl_1, by decide, Or.inl (am_in 1 82 (by decide +kernel) rfl)⟩
theorem fp_X1_15 : am_pd RX1 15 1 2 (.array .int) true := ⟨(RX1, TX1, 14), tyX1, cl_1, by decide, Or.inl (am_in 1 82 (by decide +kernel) rfl), rfl, rfl, fun _ => ⟨rfl, am_in 1 82 (by decide +kernel) rfl⟩⟩
theorem fg_X11_215 : am_gd RX11 215 1 2 := ⟨(RX1, TX1, 14), tyX1, cl_1, by decide, Or.inr ⟨"LiddedRiver", am_inN 1 83 (by decide +kernel) rfl⟩⟩
theorem fg_X3_110 : am_gd RX3 110 1 2 := ⟨(RX1, TX1, 14), tyX1, cl_1, by decide, Or.inr ⟨"LiddedRiver", am_inN 1 84 (by decide +kernel) rfl⟩⟩
theorem fg_X1_18 : am_gd RX1 18 1 3 := ⟨(RX1, TX1, 14), tyX1, cl_1, by decide, Or.inl (am_in 1 85 (by decide +kernel) rfl)⟩
theorem fp_X1_18 : am_pd RX1 18 1 3 (.array .int) true := ⟨(RX1, TX1, 14), tyX1, cl_1, by decide, Or.inl (am_in 1 85 (by decide +kernel) rfl), rfl, rfl, fun _ => ⟨rfl, am_in 1 85 (by decide +kernel) rfl⟩⟩
theorem fg_X2_44 : am_gd RX2 44 1 3 := ⟨(RX1, TX1, 14), tyX1, cl_1, by decide, Or.inr ⟨"LiddedRiver", am_inN 1 86 (by decide +kernel) rfl⟩⟩
theorem fg_X11_218 : am_gd RX11 218 1 3 := ⟨(RX1, TX1, 14), tyX1, cl_1, by decide, Or.inr ⟨"LiddedRiver", am_inN 1 87 (by decide +kernel) rfl⟩⟩
theorem fg_X3_113 : am_gd RX3 113 1 3 := ⟨(RX1, TX1, 14), tyX1, cl_1, by decide, Or.inr ⟨"LiddedRiver", am_inN 1 88 (by decide +kernel) rfl⟩⟩
theorem fg_X1_21 : am_gd RX1 21 1 4 := ⟨(RX1, TX1, 14), tyX1, cl_1, by decide, Or.inl (am_in 1 89 (by decide +kernel) rfl)⟩
theorem fp_X1_21 : am_pd RX1 21 1 4 (.array .int) true := ⟨(RX1, TX1, 14), tyX1, cl_1, by decide, Or.inl (am_in 1 89 (by decide +kernel) rfl), rfl, rfl, fun _ => ⟨rfl, am_in 1 89 (by decide +kernel) rfl⟩⟩
theorem fg_X0_42 : am_gd RX0 42 1 4 := ⟨(RX1, TX1, 14), tyX1, cl_1, by decide, Or.inr ⟨"LiddedRiver", am_inN 1 90 (by decide +kernel) rfl⟩⟩
theorem fg_X11_221 : am_gd RX11 221 1 4 := ⟨(RX1, TX1, 14), tyX1, cl_1, by decide, Or.inr ⟨"LiddedRiver", am_inN 1 91 (by decide +kernel) rfl⟩⟩
theorem fg_X3_116 : am_gd RX3 116 1 4 := ⟨(RX1, TX1, 14), tyX1, cl_1, by decide, Or.inr ⟨"LiddedRiver", am_inN 1 92 (by decide +kernel) rfl⟩⟩
theorem fg_X1_49 : am_gd RX1 49 1 5 := ⟨(RX1, TX1, 14), tyX1, cl_1, by decide, Or.inl (am_in 1 93 (by decide +kernel) rfl)⟩
theorem fp_X1_49 : am_pd RX1 49 1 5 (.int) false := ⟨(RX1, TX1, 14), tyX1, cl_1, by decide, Or.inl (am_in 1 93 (by decide +kernel) rfl), rfl, rfl, fun z => by cases z⟩
theorem fg_X4_73 : am_gd RX4 73 1 5 := ⟨(RX1, TX1, 14), tyX1, cl_1, by decide, Or.inr ⟨"LiddedRiver", am_inN 1 94 (by decide +kernel) rfl⟩⟩
theorem fg_X11_182 : am_gd RX11 182 1 5 := ⟨(RX1, TX1, 14), tyX1, cl_1, by decide, Or.inr ⟨"LiddedRiver", am_inN 1 95 (by decide +kernel) rfl⟩⟩
theorem fg_X1_24 : am_gd RX1 24 1 6 := ⟨(RX1, TX1, 14), tyX1, cl_1, by decide, Or.inl (am_in 1 96 (by decide +kernel) rfl)⟩
theorem fp_X1_24 : am_pd RX1 24 1 6 (.array .int) true := ⟨(RX1, TX1, 14), tyX1, cl_1, by decide, Or.inl (am_in 1 96 (by decide +kernel) rfl), rfl, rfl, fun _ => ⟨rfl, am_in 1 96 (by decide +kernel) rfl⟩⟩
theorem fg_X4_91 : am_gd RX4 91 1 6 := ⟨(RX1, TX1, 14), tyX1, cl_1, by decide, Or.inr ⟨"LiddedRiver", am_inN 1 97 (by decide +kernel) rfl⟩⟩
theorem fg_X11_236 : am_gd RX11 236 1 6 := ⟨(RX1, TX1, 14), tyX1, cl_1, by decide, Or.inr ⟨"LiddedRiver", am_inN 1 98 (by decide +kernel) rfl⟩⟩
theorem fg_X1_27 : am_gd RX1 27 1 7 := ⟨(RX1, TX1, 14), tyX1, cl_1, by decide, Or.inl (am_in 1 99 (by decide +kernel) rfl)⟩
theorem fp_X1_27 : am_pd RX1 27 1 7 (.array .int) true := ⟨(RX1, TX1, 14), tyX1, cl_1, by decide, Or.inl (am_in 1 99 (by decide +kernel) rfl), rfl, rfl, fun _ => ⟨rfl, am_in 1 99 (by decide +kernel) rfl⟩⟩
theorem fg_X4_79 : am_gd RX4 79 1 7 := ⟨(RX1, TX1, 14), tyX1, cl_1, by decide, Or.inr ⟨"LiddedRiver", am_inN 1 100 (by decide +kernel) rfl⟩⟩
theorem fg_X11_239 : am_gd RX11 239 1 7 := ⟨(RX1, TX1, 14), tyX1, cl_1, by decide, Or.inr ⟨"LiddedRiver", am_inN 1 101 (by decide +kernel) rfl⟩⟩
theorem fg_X2_19 : am_gd RX2 19 1 8 := ⟨(RX1, TX1, 14), tyX1, cl_1, by decide, Or.inr ⟨"LiddedRiver", am_inN 1 102 (by decide +kernel) rfl⟩⟩
theorem fg_X1_52 : am_gd RX1 52 1 8 := ⟨(RX1, TX1, 14), tyX1, cl_1, by decide, Or.inl (am_in 1 103 (by decide +kernel) rfl)⟩
theorem fp_X1_52 : am_pd RX1 52 1 8 (.int) false := ⟨(RX1, TX1, 14), tyX1, cl_1, by decide, Or.inl (am_in 1 103 (by decide +kernel) rfl), rfl, rfl, fun z => by cases z⟩
theorem fg_X11_185 : am_gd RX11 185 1 8 := ⟨(RX1, TX1, 14), tyX1, cl_1, by decide, Or.inr ⟨"LiddedRiver", am_inN 1 104 (by decide +kernel) rfl⟩⟩
theorem fg_X1_30 : am_gd RX1 30 1 9 := ⟨(RX1, TX1, 14), tyX1, cl_1, by decide, Or.inl (am_in 1 105 (by decide +kernel) rfl)⟩
theorem fp_X1_30 : am_pd RX1 30 1 9 (.array .int) true := ⟨(RX1, TX1, 14), tyX1, cl_1, by decide, Or.inl (am_in 1 105 (by decide +kernel) rfl), rfl, rfl, fun _ => ⟨rfl, am_in 1 105 (by decide +kernel) rfl⟩⟩
theorem fg_X2_51 : am_gd RX2 51 1 9 := ⟨(RX1, TX1, 14), tyX1, cl_1, by decide, Or.inr ⟨"LiddedRiver", am_inN 1 106 (by decide +kernel) rfl⟩⟩
theorem fg_X11_251 : am_gd RX11 251 1 9 := ⟨(RX1, TX1, 14), tyX1, cl_1, by decide, Or.inr ⟨"LiddedRiver", am_inN 1 107 (by decide +kernel) rfl⟩⟩
theorem fg_X1_33 : am_gd RX1 33 1 10 := ⟨(RX1, TX1, 14), tyX1, cl_1, by decide, Or.inl (am_in 1 108 (by decide +kernel) rfl)⟩
theorem fp_X1_33 : am_pd RX1 33 1 10 (.array .int) true := ⟨(RX1, TX1, 14), tyX1, cl_1, by decide, Or.inl (am_in 1 108 (by decide +kernel) rfl), rfl, rfl, fun _ => ⟨rfl, am_in 1 108 (by decide +kernel) rfl⟩⟩
theorem fg_X2_54 : am_gd RX2 54 1 10 := ⟨(RX1, TX1, 14), tyX1, cl_1, by decide, Or.inr ⟨"LiddedRiver", am_inN 1 109 (by decide +kernel) rfl⟩⟩
theorem fg_X11_254 : am_gd RX11 254 1 10 := ⟨(RX1, TX1, 14), tyX1, cl_1, by decide, Or.inr ⟨"LiddedRiver", am_inN 1 110 (by decide +kernel) rfl⟩⟩
theorem fg_X1_36 : am_gd RX1 36 1 11 := ⟨(RX1, TX1, 14), tyX1, cl_1, by decide, Or.inl (am_in 1 111 (by decide +kernel) rfl)⟩
theorem fp_X1_36 : am_pd RX1 36 1 11 (.array .int) true := ⟨(RX1, TX1, 14), tyX1, cl_1, by decide, Or.inl (am_in 1 111 (by decide +kernel) rfl), rfl, rfl, fun _ => ⟨rfl, am_in 1 111 (by decide +kernel) rfl⟩⟩
theorem fg_X2_29 : am_gd RX2 29 1 11 := ⟨(RX1, TX1, 14), tyX1, cl_1, by decide, Or.inr ⟨"LiddedRiver", am_inN 1 112 (by decide +kernel) rfl⟩⟩
theorem fg_X11_257 : am_gd RX11 257 1 11 := ⟨(RX1, TX1, 14), tyX1, cl_1, by decide, Or.inr ⟨"LiddedRiver", am_inN 1 113 (by decide +kernel) rfl⟩⟩
theorem fg_X1_39 : am_gd RX1 39 1 12 := ⟨(RX1, TX1, 14), tyX1, cl_1, by decide, Or.inl (am_in 1 114 (by decide +kernel) rfl)⟩
theorem fp_X1_39 : am_pd RX1 39 1 12 (.int) false := ⟨(RX1, TX1, 14), tyX1, cl_1, by decide, Or.inl (am_in 1 114 (by decide +kernel) rfl), rfl, rfl, fun z => by cases z⟩
theorem fg_X4_52 : am_gd RX4 52 1 12 := ⟨(RX1, TX1, 14), tyX1, cl_1, by decide, Or.inr ⟨"LiddedRiver", am_inN 1 115 (by decide +kernel) rfl⟩⟩
theorem fg_X11_302 : am_gd RX11 302 1 12 := ⟨(RX1, TX1, 14), tyX1, cl_1, by decide, Or.inr ⟨"LiddedRiver", am_inN 1 116 (by decide +kernel) rfl⟩⟩
theorem fg_X1_43 : am_gd RX1 43 1 13 := ⟨(RX1, TX1, 14), tyX1, cl_1, by decide, Or.inl (am_in 1 117 (by decide +kernel) rfl)⟩
theorem fp_X1_43 : am_pd RX1 43 1 13 (.int) false := ⟨(RX1, TX1, 14), tyX1, cl_1, by decide, Or.inl (am_in 1 117 (by decide +kernel) rfl), rfl, rfl, fun z => by cases z⟩
theorem fg_X5_74 : am_gd RX5 74 1 13 := ⟨(RX1, TX1, 14), tyX1, cl_1, by decide, Or.inr ⟨"LiddedRiver", am_inN 1 118 (by decide +kernel) rfl⟩⟩
theorem fg_X3_9 : am_gd RX3 9 3 0 := ⟨(RX3, TX3, 7), tyX3, cl_3, by decide, Or.inl (am_in 1 167 (by decide +kernel) rfl)⟩
theorem fp_X3_9 : am_pd RX3 9 3 0 (.array .int) false := ⟨(RX3, TX3, 7), tyX3, cl_3, by decide, Or.inl (am_in 1 167 (by decide +kernel) rfl), rfl, rfl, fun z => by cases z⟩
theorem fg_X3_55 : am_gd RX3 55 3 1 := ⟨(RX3, TX3, 7), tyX3, cl_3, by decide, Or.inl (am_in 1 168 (by decide +kernel) rfl)⟩
theorem fp_X3_55 : am_pd RX3 55 3 1 (.int) false := ⟨(RX3, TX3, 7), tyX3, cl_3, by decide, Or.inl (am_in 1 168 (by decide +kernel) rfl), rfl, rfl, fun z => by cases z⟩
theorem fg_X3_15 : am_gd RX3 15 3 2 := ⟨(RX3, TX3, 7), tyX3, cl_3, by decide, Or.inl (am_in 1 169 (by decide +kernel) rfl)⟩
theorem fp_X3_15 : am_pd RX3 15 3 2 (.array .int) false := ⟨(RX3, TX3, 7), tyX3, cl_3, by decide, Or.inl (am_in 1 169 (by decide +kernel) rfl), rfl, rfl, fun z => by cases z⟩
theorem fg_X3_27 : am_gd RX3 27 3 3 := ⟨(RX3, TX3, 7), tyX3, cl_3, by decide, Or.inl (am_in 1 170 (by decide +kernel) rfl)⟩
theorem fp_X3_27 : am_pd RX3 27 3 3 (.int) false := ⟨(RX3, TX3, 7), tyX3, cl_3, by decide, Or.inl (am_in 1 170 (by decide +kernel) rfl), rfl, rfl, fun z => by cases z⟩
theorem fg_X3_51 : am_gd RX3 51 3 4 := ⟨(RX3, TX3, 7), tyX3, cl_3, by decide, Or.inl (am_in 1 171 (by decide +kernel) rfl)⟩
theorem fp_X3_51 : am_pd RX3 51 3 4 (.boolean) false := ⟨(RX3, TX3, 7), tyX3, cl_3, by decide, Or.inl (am_in 1 171 (by decide +kernel) rfl), rfl, rfl, fun z => by cases z⟩
theorem fg_X3_18 : am_gd RX3 18 3 5 := ⟨(RX3, TX3, 7), tyX3, cl_3, by decide, Or.inl (am_in 1 172 (by decide +kernel) rfl)⟩
theorem fp_X3_18 : am_pd RX3 18 3 5 (.array .int) true := ⟨(RX3, TX3, 7), tyX3, cl_3, by decide, Or.inl (am_in 1 172 (by decide +kernel) rfl), rfl, rfl, fun _ => ⟨rfl, am_in 1 172 (by decide +kernel) rfl⟩⟩
theorem fg_X3_21 : am_gd RX3 21 3 6 := ⟨(RX3, TX3, 7), tyX3, cl_3, by decide, Or.inl (am_in 1 173 (by decide +kernel) rfl)⟩
theorem fp_X3_21 : am_pd RX3 21 3 6 (.array .int) true := ⟨(RX3, TX3, 7), tyX3, cl_3, by decide, Or.inl (am_in 1 173 (by decide +kernel) rfl), rfl, rfl, fun _ => ⟨rfl, am_in 1 173 (by decide +kernel) rfl⟩⟩
theorem fg_X4_9 : am_gd RX4 9 4 0 := ⟨(RX4, TX4, 2), tyX4, cl_4, by decide, Or.inl (am_in 1 195 (by decide +kernel) rfl)⟩
theorem fp_X4_9 : am_pd RX4 9 4 0 (.object "LiddedRiver$Bed") true := ⟨(RX4, TX4, 2), tyX4, cl_4, by decide, Or.inl (am_in 1 195 (by decide +kernel) rfl), rfl, rfl, fun _ => ⟨rfl, am_in 1 195 (by decide +kernel) rfl⟩⟩
theorem fg_X4_15 : am_gd RX4 15 4 1 := ⟨(RX4, TX4, 2), tyX4, cl_4, by decide, Or.inl (am_in 1 196 (by decide +kernel) rfl)⟩
theorem fp_X4_15 : am_pd RX4 15 4 1 (.object "LiddedRiver$Law") true := ⟨(RX4, TX4, 2), tyX4, cl_4, by decide, Or.inl (am_in 1 196 (by decide +kernel) rfl), rfl, rfl, fun _ => ⟨rfl, am_in 1 196 (by decide +kernel) rfl⟩⟩
theorem fg_X6_117 : am_gd RX6 117 4 1 := ⟨(RX4, TX4, 2), tyX4, cl_4, by decide, Or.inr ⟨"LiddedRiver", am_inN 1 197 (by decide +kernel) rfl⟩⟩
theorem fg_X8_11 : am_gd RX8 11 8 0 := ⟨(RX8, TX8, 1), tyX8, cl_8, by decide, Or.inl (am_in 1 209 (by decide +kernel) rfl)⟩
theorem fp_X8_11 : am_pd RX8 11 8 0 (.array .int) true := ⟨(RX8, TX8, 1), tyX8, cl_8, by decide, Or.inl (am_in 1 209 (by decide +kernel) rfl), rfl, rfl, fun _ => ⟨rfl, am_in 1 209 (by decide +kernel) rfl⟩⟩
theorem fg_X6_89 : am_gd RX6 89 8 0 := ⟨(RX8, TX8, 1), tyX8, cl_8, by decide, Or.inr ⟨"LiddedRiver", am_inN 1 210 (by decide +kernel) rfl⟩⟩
theorem fg_X7_13 : am_gd RX7 13 7 0 := ⟨(RX7, TX7, 4), tyX7, cl_7, by decide, Or.inl (am_in 1 222 (by decide +kernel) rfl)⟩
theorem fp_X7_13 : am_pd RX7 13 7 0 (.array .int) true := ⟨(RX7, TX7, 4), tyX7, cl_7, by decide, Or.inl (am_in 1 222 (by decide +kernel) rfl), rfl, rfl, fun _ => ⟨rfl, am_in 1 222 (by decide +kernel) rfl⟩⟩
theorem fg_X7_22 : am_gd RX7 22 7 1 := ⟨(RX7, TX7, 4), tyX7, cl_7, by decide, Or.inl (am_in 1 223 (by decide +kernel) rfl)⟩
theorem fp_X7_22 : am_pd RX7 22 7 1 (.int) false := ⟨(RX7, TX7, 4), tyX7, cl_7, by decide, Or.inl (am_in 1 223 (by decide +kernel) rfl), rfl, rfl, fun z => by cases z⟩
theorem fg_X11_172 : am_gd RX11 172 7 1 := ⟨(RX7, TX7, 4), tyX7, cl_7, by decide, Or.inr ⟨"LiddedRiver", am_inN 1 224 (by decide +kernel) rfl⟩⟩
theorem fg_X7_19 : am_gd RX7 19 7 2 := ⟨(RX7, TX7, 4), tyX7, cl_7, by decide, Or.inl (am_in 1 225 (by decide +kernel) rfl)⟩
theorem fp_X7_19 : am_pd RX7 19 7 2 (.array (.array .int)) true := ⟨(RX7, TX7, 4), tyX7, cl_7, by decide, Or.inl (am_in 1 225 (by decide +kernel) rfl), rfl, rfl, fun _ => ⟨rfl, am_in 1 225 (by decide +kernel) rfl⟩⟩
theorem fg_X7_26 : am_gd RX7 26 7 3 := ⟨(RX7, TX7, 4), tyX7, cl_7, by decide, Or.inl (am_in 1 226 (by decide +kernel) rfl)⟩
theorem fp_X7_26 : am_pd RX7 26 7 3 (.int) false := ⟨(RX7, TX7, 4), tyX7, cl_7, by decide, Or.inl (am_in 1 226 (by decide +kernel) rfl), rfl, rfl, fun z => by cases z⟩
theorem fg_X11_387 : am_gd RX11 387 7 3 := ⟨(RX7, TX7, 4), tyX7, cl_7, by decide, Or.inr ⟨"LiddedRiver", am_inN 1 227 (by decide +kernel) rfl⟩⟩
theorem fg_X9_9 : am_gd RX9 9 9 0 := ⟨(RX9, TX9, 7), tyX9, cl_9, by decide, Or.inl (am_in 2 3 (by decide +kernel) rfl)⟩
theorem fp_X9_9 : am_pd RX9 9 9 0 (.array .int) true := ⟨(RX9, TX9, 7), tyX9, cl_9, by decide, Or.inl (am_in 2 3 (by decide +kernel) rfl), rfl, rfl, fun _ => ⟨rfl, am_in 2 3 (by decide +kernel) rfl⟩⟩
theorem fg_X9_15 : am_gd RX9 15 9 1 := ⟨(RX9, TX9, 7), tyX9, cl_9, by decide, Or.inl (am_in 2 4 (by decide +kernel) rfl)⟩
theorem fp_X9_15 : am_pd RX9 15 9 1 (.array .int) true := ⟨(RX9, TX9, 7), tyX9, cl_9, by decide, Or.inl (am_in 2 4 (by decide +kernel) rfl), rfl, rfl, fun _ => ⟨rfl, am_in 2 4 (by decide +kernel) rfl⟩⟩
theorem fg_X9_18 : am_gd RX9 18 9 2 := ⟨(RX9, TX9, 7), tyX9, cl_9, by decide, Or.inl (am_in 2 5 (by decide +kernel) rfl)⟩
theorem fp_X9_18 : am_pd RX9 18 9 2 (.array .int) true := ⟨(RX9, TX9, 7), tyX9, cl_9, by decide, Or.inl (am_in 2 5 (by decide +kernel) rfl), rfl, rfl, fun _ => ⟨rfl, am_in 2 5 (by decide +kernel) rfl⟩⟩
theorem fg_X9_21 : am_gd RX9 21 9 3 := ⟨(RX9, TX9, 7), tyX9, cl_9, by decide, Or.inl (am_in 2 6 (by decide +kernel) rfl)⟩
theorem fp_X9_21 : am_pd RX9 21 9 3 (.int) false := ⟨(RX9, TX9, 7), tyX9, cl_9, by decide, Or.inl (am_in 2 6 (by decide +kernel) rfl), rfl, rfl, fun z => by cases z⟩
theorem fg_X9_66 : am_gd RX9 66 9 4 := ⟨(RX9, TX9, 7), tyX9, cl_9, by decide, Or.inl (am_in 2 7 (by decide +kernel) rfl)⟩
theorem fp_X9_66 : am_pd RX9 66 9 4 (.int) false := ⟨(RX9, TX9, 7), tyX9, cl_9, by decide, Or.inl (am_in 2 7 (by decide +kernel) rfl), rfl, rfl, fun z => by cases z⟩
theorem fg_X9_69 : am_gd RX9 69 9 5 := ⟨(RX9, TX9, 7), tyX9, cl_9, by decide, Or.inl (am_in 2 8 (by decide +kernel) rfl)⟩
theorem fp_X9_69 : am_pd RX9 69 9 5 (.int) false := ⟨(RX9, TX9, 7), tyX9, cl_9, by decide, Or.inl (am_in 2 8 (by decide +kernel) rfl), rfl, rfl, fun z => by cases z⟩
theorem fg_X9_72 : am_gd RX9 72 9 6 := ⟨(RX9, TX9, 7), tyX9, cl_9, by decide, Or.inl (am_in 2 9 (by decide +kernel) rfl)⟩
theorem fp_X9_72 : am_pd RX9 72 9 6 (.int) false := ⟨(RX9, TX9, 7), tyX9, cl_9, by decide, Or.inl (am_in 2 9 (by decide +kernel) rfl), rfl, rfl, fun z => by cases z⟩
theorem fg_X11_160 : am_gd RX11 160 9 6 := ⟨(RX9, TX9, 7), tyX9, cl_9, by decide, Or.inr ⟨"LiddedRiver", am_inN 2 10 (by decide +kernel) rfl⟩⟩
theorem fg_X6_25 : am_gd RX6 25 6 0 := ⟨(RX6, TX6, 11), tyX6, cl_6, by decide, Or.inl (am_in 2 34 (by decide +kernel) rfl)⟩
theorem fp_X6_25 : am_pd RX6 25 6 0 (.object "LiddedRiver$Bed") true := ⟨(RX6, TX6, 11), tyX6, cl_6, by decide, Or.inl (am_in 2 34 (by decide +kernel) rfl), rfl, rfl, fun _ => ⟨rfl, am_in 2 34 (by decide +kernel) rfl⟩⟩
theorem fg_X6_29 : am_gd RX6 29 6 1 := ⟨(RX6, TX6, 11), tyX6, cl_6, by decide, Or.inl (am_in 2 35 (by decide +kernel) rfl)⟩
theorem fp_X6_29 : am_pd RX6 29 6 1 (.object "LiddedRiver$Lid") true := ⟨(RX6, TX6, 11), tyX6, cl_6, by decide, Or.inl (am_in 2 35 (by decide +kernel) rfl), rfl, rfl, fun _ => ⟨rfl, am_in 2 35 (by decide +kernel) rfl⟩⟩
theorem fg_X6_33 : am_gd RX6 33 6 2 := ⟨(RX6, TX6, 11), tyX6, cl_6, by decide, Or.inl (am_in 2 36 (by decide +kernel) rfl)⟩
theorem fp_X6_33 : am_pd RX6 33 6 2 (.object "LiddedRiver$State") true := ⟨(RX6, TX6, 11), tyX6, cl_6, by decide, Or.inl (am_in 2 36 (by decide +kernel) rfl), rfl, rfl, fun _ => ⟨rfl, am_in 2 36 (by decide +kernel) rfl⟩⟩
theorem fg_X6_12 : am_gd RX6 12 6 3 := ⟨(RX6, TX6, 11), tyX6, cl_6, by decide, Or.inl (am_in 2 37 (by decide +kernel) rfl)⟩
theorem fp_X6_12 : am_pd RX6 12 6 3 (.object "LiddedRiver$State") true := ⟨(RX6, TX6, 11), tyX6, cl_6, by decide, Or.inl (am_in 2 37 (by decide +kernel) rfl), rfl, rfl, fun _ => ⟨rfl, am_in 2 37 (by decide +kernel) rfl⟩⟩
theorem fg_X11_308 : am_gd RX11 308 6 3 := ⟨(RX6, TX6, 11), tyX6, cl_6, by decide, Or.inr ⟨"LiddedRiver", am_inN 2 38 (by decide +kernel) rfl⟩⟩
theorem fg_X6_18 : am_gd RX6 18 6 4 := ⟨(RX6, TX6, 11), tyX6, cl_6, by decide, Or.inl (am_in 2 39 (by decide +kernel) rfl)⟩
theorem fp_X6_18 : am_pd RX6 18 6 4 (.array .int) true := ⟨(RX6, TX6, 11), tyX6, cl_6, by decide, Or.inl (am_in 2 39 (by decide +kernel) rfl), rfl, rfl, fun _ => ⟨rfl, am_in 2 39 (by decide +kernel) rfl⟩⟩
theorem fg_X6_36 : am_gd RX6 36 6 5 := ⟨(RX6, TX6, 11), tyX6, cl_6, by decide, Or.inl (am_in 2 40 (by decide +kernel) rfl)⟩
theorem fp_X6_36 : am_pd RX6 36 6 5 (.int) false := ⟨(RX6, TX6, 11), tyX6, cl_6, by decide, Or.inl (am_in 2 40 (by decide +kernel) rfl), rfl, rfl, fun z => by cases z⟩
theorem fg_X6_22 : am_gd RX6 22 6 6 := ⟨(RX6, TX6, 11), tyX6, cl_6, by decide, Or.inl (am_in 2 41 (by decide +kernel) rfl)⟩
theorem fp_X6_22 : am_pd RX6 22 6 6 (.array .int) true := ⟨(RX6, TX6, 11), tyX6, cl_6, by decide, Or.inl (am_in 2 41 (by decide +kernel) rfl), rfl, rfl, fun _ => ⟨rfl, am_in 2 41 (by decide +kernel) rfl⟩⟩
theorem fg_X6_57 : am_gd RX6 57 6 7 := ⟨(RX6, TX6, 11), tyX6, cl_6, by decide, Or.inl (am_in 2 42 (by decide +kernel) rfl)⟩
theorem fp_X6_57 : am_pd RX6 57 6 7 (.int) false := ⟨(RX6, TX6, 11), tyX6, cl_6, by decide, Or.inl (am_in 2 42 (by decide +kernel) rfl), rfl, rfl, fun z => by cases z⟩
theorem fg_X11_287 : am_gd RX11 287 6 7 := ⟨(RX6, TX6, 11), tyX6, cl_6, by decide, Or.inr ⟨"LiddedRiver", am_inN 2 43 (by decide +kernel) rfl⟩⟩
theorem fg_X6_60 : am_gd RX6 60 6 8 := ⟨(RX6, TX6, 11), tyX6, cl_6, by decide, Or.inl (am_in 2 44 (by decide +kernel) rfl)⟩
theorem fp_X6_60 : am_pd RX6 60 6 8 (.int) false := ⟨(RX6, TX6, 11), tyX6, cl_6, by decide, Or.inl (am_in 2 44 (by decide +kernel) rfl), rfl, rfl, fun z => by cases z⟩
theorem fg_X11_290 : am_gd RX11 290 6 8 := ⟨(RX6, TX6, 11), tyX6, cl_6, by decide, Or.inr ⟨"LiddedRiver", am_inN 2 45 (by decide +kernel) rfl⟩⟩
theorem fg_X6_95 : am_gd RX6 95 6 9 := ⟨(RX6, TX6, 11), tyX6, cl_6, by decide, Or.inl (am_in 2 46 (by decide +kernel) rfl)⟩
theorem fp_X6_95 : am_pd RX6 95 6 9 (.int) false := ⟨(RX6, TX6, 11), tyX6, cl_6, by decide, Or.inl (am_in 2 46 (by decide +kernel) rfl), rfl, rfl, fun z => by cases z⟩
theorem fg_X6_98 : am_gd RX6 98 6 10 := ⟨(RX6, TX6, 11), tyX6, cl_6, by decide, Or.inl (am_in 2 47 (by decide +kernel) rfl)⟩
theorem fp_X6_98 : am_pd RX6 98 6 10 (.int) false := ⟨(RX6, TX6, 11), tyX6, cl_6, by decide, Or.inl (am_in 2 47 (by decide +kernel) rfl), rfl, rfl, fun z => by cases z⟩
theorem fg_X11_320 : am_gd RX11 320 6 10 := ⟨(RX6, TX6, 11), tyX6, cl_6, by decide, Or.inr ⟨"LiddedRiver", am_inN 2 48 (by decide +kernel) rfl⟩⟩
theorem fg_X2_15 : am_gd RX2 15 2 0 := ⟨(RX2, TX2, 3), tyX2, cl_2, by decide, Or.inl (am_in 2 78 (by decide +kernel) rfl)⟩
theorem fp_X2_15 : am_pd RX2 15 2 0 (.object "LiddedRiver$Bed") true := ⟨(RX2, TX2, 3), tyX2, cl_2, by decide, Or.inl (am_in 2 78 (by decide +kernel) rfl), rfl, rfl, fun _ => ⟨rfl, am_in 2 78 (by decide +kernel) rfl⟩⟩
theorem fg_X2_9 : am_gd RX2 9 2 1 := ⟨(RX2, TX2, 3), tyX2, cl_2, by decide, Or.inl (am_in 2 79 (by decide +kernel) rfl)⟩
theorem fp_X2_9 : am_pd RX2 9 2 1 (.array .int) true := ⟨(RX2, TX2, 3), tyX2, cl_2, by decide, Or.inl (am_in 2 79 (by decide +kernel) rfl), rfl, rfl, fun _ => ⟨rfl, am_in 2 79 (by decide +kernel) rfl⟩⟩
theorem fg_X2_35 : am_gd RX2 35 2 2 := ⟨(RX2, TX2, 3), tyX2, cl_2, by decide, Or.inl (am_in 2 80 (by decide +kernel) rfl)⟩
theorem fp_X2_35 : am_pd RX2 35 2 2 (.int) false := ⟨(RX2, TX2, 3), tyX2, cl_2, by decide, Or.inl (am_in 2 80 (by decide +kernel) rfl), rfl, rfl, fun z => by cases z⟩
theorem fg_X5_27 : am_gd RX5 27 5 0 := ⟨(RX5, TX5, 8), tyX5, cl_5, by decide, Or.inl (am_in 2 101 (by decide +kernel) rfl)⟩
theorem fp_X5_27 : am_pd RX5 27 5 0 (.object "LiddedRiver$Bed") true := ⟨(RX5, TX5, 8), tyX5, cl_5, by decide, Or.inl (am_in 2 101 (by decide +kernel) rfl), rfl, rfl, fun _ => ⟨rfl, am_in 2 101 (by decide +kernel) rfl⟩⟩
theorem fg_X5_9 : am_gd RX5 9 5 1 := ⟨(RX5, TX5, 8), tyX5, cl_5, by decide, Or.inl (am_in 2 102 (by decide +kernel) rfl)⟩
theorem fp_X5_9 : am_pd RX5 9 5 1 (.array .int) false := ⟨(RX5, TX5, 8), tyX5, cl_5, by decide, Or.inl (am_in 2 102 (by decide +kernel) rfl), rfl, rfl, fun z => by cases z⟩
theorem fg_X5_15 : am_gd RX5 15 5 2 := ⟨(RX5, TX5, 8), tyX5, cl_5, by decide, Or.inl (am_in 2 103 (by decide +kernel) rfl)⟩
theorem fp_X5_15 : am_pd RX5 15 5 2 (.array .int) false := ⟨(RX5, TX5, 8), tyX5, cl_5, by decide, Or.inl (am_in 2 103 (by decide +kernel) rfl), rfl, rfl, fun z => by cases z⟩
theorem fg_X5_40 : am_gd RX5 40 5 3 := ⟨(RX5, TX5, 8), tyX5, cl_5, by decide, Or.inl (am_in 2 104 (by decide +kernel) rfl)⟩
theorem fp_X5_40 : am_pd RX5 40 5 3 (.int) false := ⟨(RX5, TX5, 8), tyX5, cl_5, by decide, Or.inl (am_in 2 104 (by decide +kernel) rfl), rfl, rfl, fun z => by cases z⟩
theorem fg_X11_166 : am_gd RX11 166 5 3 := ⟨(RX5, TX5, 8), tyX5, cl_5, by decide, Or.inr ⟨"LiddedRiver", am_inN 2 105 (by decide +kernel) rfl⟩⟩
theorem fg_X5_18 : am_gd RX5 18 5 4 := ⟨(RX5, TX5, 8), tyX5, cl_5, by decide, Or.inl (am_in 2 106 (by decide +kernel) rfl)⟩
theorem fp_X5_18 : am_pd RX5 18 5 4 (.array .int) true := ⟨(RX5, TX5, 8), tyX5, cl_5, by decide, Or.inl (am_in 2 106 (by decide +kernel) rfl), rfl, rfl, fun _ => ⟨rfl, am_in 2 106 (by decide +kernel) rfl⟩⟩
theorem fg_X5_21 : am_gd RX5 21 5 5 := ⟨(RX5, TX5, 8), tyX5, cl_5, by decide, Or.inl (am_in 2 107 (by decide +kernel) rfl)⟩
theorem fp_X5_21 : am_pd RX5 21 5 5 (.array .int) true := ⟨(RX5, TX5, 8), tyX5, cl_5, by decide, Or.inl (am_in 2 107 (by decide +kernel) rfl), rfl, rfl, fun _ => ⟨rfl, am_in 2 107 (by decide +kernel) rfl⟩⟩
theorem fg_X5_24 : am_gd RX5 24 5 6 := ⟨(RX5, TX5, 8), tyX5, cl_5, by decide, Or.inl (am_in 2 108 (by decide +kernel) rfl)⟩
theorem fp_X5_24 : am_pd RX5 24 5 6 (.array .int) true := ⟨(RX5, TX5, 8), tyX5, cl_5, by decide, Or.inl (am_in 2 108 (by decide +kernel) rfl), rfl, rfl, fun _ => ⟨rfl, am_in 2 108 (by decide +kernel) rfl⟩⟩
theorem fg_X5_96 : am_gd RX5 96 5 7 := ⟨(RX5, TX5, 8), tyX5, cl_5, by decide, Or.inl (am_in 2 109 (by decide +kernel) rfl)⟩
theorem fp_X5_96 : am_pd RX5 96 5 7 (.int) false := ⟨(RX5, TX5, 8), tyX5, cl_5, by decide, Or.inl (am_in 2 109 (by decide +kernel) rfl), rfl, rfl, fun z => by cases z⟩
theorem fg_X11_347 : am_gd RX11 347 5 7 := ⟨(RX5, TX5, 8), tyX5, cl_5, by decide, Or.inr ⟨"LiddedRiver", am_inN 2 110 (by decide +kernel) rfl⟩⟩
theorem fg_X0_18 : am_gd RX0 18 0 0 := ⟨(RX0, TX0, 4), tyX0, cl_0, by decide, Or.inl (am_in 2 134 (by decide +kernel) rfl)⟩
theorem fp_X0_18 : am_pd RX0 18 0 0 (.object "LiddedRiver$Bed") true := ⟨(RX0, TX0, 4), tyX0, cl_0, by decide, Or.inl (am_in 2 134 (by decide +kernel) rfl), rfl, rfl, fun _ => ⟨rfl, am_in 2 134 (by decide +kernel) rfl⟩⟩
theorem fg_X0_9 : am_gd RX0 9 0 1 := ⟨(RX0, TX0, 4), tyX0, cl_0, by decide, Or.inl (am_in 2 135 (by decide +kernel) rfl)⟩
theorem fp_X0_9 : am_pd RX0 9 0 1 (.array .int) true := ⟨(RX0, TX0, 4), tyX0, cl_0, by decide, Or.inl (am_in 2 135 (by decide +kernel) rfl), rfl, rfl, fun _ => ⟨rfl, am_in 2 135 (by decide +kernel) rfl⟩⟩
theorem fg_X0_15 : am_gd RX0 15 0 2 := ⟨(RX0, TX0, 4), tyX0, cl_0, by decide, Or.inl (am_in 2 136 (by decide +kernel) rfl)⟩
theorem fp_X0_15 : am_pd RX0 15 0 2 (.array .int) true := ⟨(RX0, TX0, 4), tyX0, cl_0, by decide, Or.inl (am_in 2 136 (by decide +kernel) rfl), rfl, rfl, fun _ => ⟨rfl, am_in 2 136 (by decide +kernel) rfl⟩⟩
theorem fg_X11_374 : am_gd RX11 374 0 2 := ⟨(RX0, TX0, 4), tyX0, cl_0, by decide, Or.inr ⟨"LiddedRiver", am_inN 2 137 (by decide +kernel) rfl⟩⟩
theorem fg_X0_22 : am_gd RX0 22 0 3 := ⟨(RX0, TX0, 4), tyX0, cl_0, by decide, Or.inl (am_in 2 138 (by decide +kernel) rfl)⟩
theorem fp_X0_22 : am_pd RX0 22 0 3 (.int) false := ⟨(RX0, TX0, 4), tyX0, cl_0, by decide, Or.inl (am_in 2 138 (by decide +kernel) rfl), rfl, rfl, fun z => by cases z⟩
theorem fg_X11_368 : am_gd RX11 368 0 3 := ⟨(RX0, TX0, 4), tyX0, cl_0, by decide, Or.inr ⟨"LiddedRiver", am_inN 2 139 (by decide +kernel) rfl⟩⟩
theorem fg_X11_10 : am_gd RX11 10 11 0 := ⟨(RX11, TX11, 15), tyX11, cl_11, by decide, Or.inl (am_in 2 149 (by decide +kernel) rfl)⟩
theorem fp_X11_10 : am_pd RX11 10 11 0 (.object "LiddedRiver$Tape") true := ⟨(RX11, TX11, 15), tyX11, cl_11, by decide, Or.inl (am_in 2 149 (by decide +kernel) rfl), rfl, rfl, fun _ => ⟨rfl, am_in 2 149 (by decide +kernel) rfl⟩⟩
theorem fg_X11_19 : am_gd RX11 19 11 1 := ⟨(RX11, TX11, 15), tyX11, cl_11, by decide, Or.inl (am_in 2 150 (by decide +kernel) rfl)⟩
theorem fp_X11_19 : am_pd RX11 19 11 1 (.object "LiddedRiver$Bed") true := ⟨(RX11, TX11, 15), tyX11, cl_11, by decide, Or.inl (am_in 2 150 (by decide +kernel) rfl), rfl, rfl, fun _ => ⟨rfl, am_in 2 150 (by decide +kernel) rfl⟩⟩
theorem fg_X11_23 : am_gd RX11 23 11 2 := ⟨(RX11, TX11, 15), tyX11, cl_11, by decide, Or.inl (am_in 2 151 (by decide +kernel) rfl)⟩
theorem fp_X11_23 : am_pd RX11 23 11 2 (.object "LiddedRiver$Bed") true := ⟨(RX11, TX11, 15), tyX11, cl_11, by decide, Or.inl (am_in 2 151 (by decide +kernel) rfl), rfl, rfl, fun _ => ⟨rfl, am_in 2 151 (by decide +kernel) rfl⟩⟩
theorem fg_X11_29 : am_gd RX11 29 11 3 := ⟨(RX11, TX11, 15), tyX11, cl_11, by decide, Or.inl (am_in 2 152 (by decide +kernel) rfl)⟩
theorem fp_X11_29 : am_pd RX11 29 11 3 (.object "LiddedRiver$Law") true := ⟨(RX11, TX11, 15), tyX11, cl_11, by decide, Or.inl (am_in 2 152 (by decide +kernel) rfl), rfl, rfl, fun _ => ⟨rfl, am_in 2 152 (by decide +kernel) rfl⟩⟩
theorem fg_X11_38 : am_gd RX11 38 11 4 := ⟨(RX11, TX11, 15), tyX11, cl_11, by decide, Or.inl (am_in 2 153 (by decide +kernel) rfl)⟩
theorem fp_X11_38 : am_pd RX11 38 11 4 (.object "LiddedRiver$Lid") true := ⟨(RX11, TX11, 15), tyX11, cl_11, by decide, Or.inl (am_in 2 153 (by decide +kernel) rfl), rfl, rfl, fun _ => ⟨rfl, am_in 2 153 (by decide +kernel) rfl⟩⟩
theorem fg_X11_45 : am_gd RX11 45 11 5 := ⟨(RX11, TX11, 15), tyX11, cl_11, by decide, Or.inl (am_in 2 154 (by decide +kernel) rfl)⟩
theorem fp_X11_45 : am_pd RX11 45 11 5 (.object "LiddedRiver$State") true := ⟨(RX11, TX11, 15), tyX11, cl_11, by decide, Or.inl (am_in 2 154 (by decide +kernel) rfl), rfl, rfl, fun _ => ⟨rfl, am_in 2 154 (by decide +kernel) rfl⟩⟩
theorem fg_X11_52 : am_gd RX11 52 11 6 := ⟨(RX11, TX11, 15), tyX11, cl_11, by decide, Or.inl (am_in 2 155 (by decide +kernel) rfl)⟩
theorem fp_X11_52 : am_pd RX11 52 11 6 (.object "LiddedRiver$Past") true := ⟨(RX11, TX11, 15), tyX11, cl_11, by decide, Or.inl (am_in 2 155 (by decide +kernel) rfl), rfl, rfl, fun _ => ⟨rfl, am_in 2 155 (by decide +kernel) rfl⟩⟩
theorem fg_X11_59 : am_gd RX11 59 11 7 := ⟨(RX11, TX11, 15), tyX11, cl_11, by decide, Or.inl (am_in 2 156 (by decide +kernel) rfl)⟩
theorem fp_X11_59 : am_pd RX11 59 11 7 (.object "LiddedRiver$Steps") true := ⟨(RX11, TX11, 15), tyX11, cl_11, by decide, Or.inl (am_in 2 156 (by decide +kernel) rfl), rfl, rfl, fun _ => ⟨rfl, am_in 2 156 (by decide +kernel) rfl⟩⟩
theorem fg_X11_68 : am_gd RX11 68 11 8 := ⟨(RX11, TX11, 15), tyX11, cl_11, by decide, Or.inl (am_in 2 157 (by decide +kernel) rfl)⟩
theorem fp_X11_68 : am_pd RX11 68 11 8 (.object "LiddedRiver$Outlook") true := ⟨(RX11, TX11, 15), tyX11, cl_11, by decide, Or.inl (am_in 2 157 (by decide +kernel) rfl), rfl, rfl, fun _ => ⟨rfl, am_in 2 157 (by decide +kernel) rfl⟩⟩
theorem fg_X11_77 : am_gd RX11 77 11 9 := ⟨(RX11, TX11, 15), tyX11, cl_11, by decide, Or.inl (am_in 2 158 (by decide +kernel) rfl)⟩
theorem fp_X11_77 : am_pd RX11 77 11 9 (.object "LiddedRiver$Flood") true := ⟨(RX11, TX11, 15), tyX11, cl_11, by decide, Or.inl (am_in 2 158 (by decide +kernel) rfl), rfl, rfl, fun _ => ⟨rfl, am_in 2 158 (by decide +kernel) rfl⟩⟩
theorem fg_X11_84 : am_gd RX11 84 11 10 := ⟨(RX11, TX11, 15), tyX11, cl_11, by decide, Or.inl (am_in 2 159 (by decide +kernel) rfl)⟩
theorem fp_X11_84 : am_pd RX11 84 11 10 (.object "LiddedRiver$Night") true := ⟨(RX11, TX11, 15), tyX11, cl_11, by decide, Or.inl (am_in 2 159 (by decide +kernel) rfl), rfl, rfl, fun _ => ⟨rfl, am_in 2 159 (by decide +kernel) rfl⟩⟩
theorem fg_X11_91 : am_gd RX11 91 11 11 := ⟨(RX11, TX11, 15), tyX11, cl_11, by decide, Or.inl (am_in 2 160 (by decide +kernel) rfl)⟩
theorem fp_X11_91 : am_pd RX11 91 11 11 (.object "LiddedRiver$Anglers") true := ⟨(RX11, TX11, 15), tyX11, cl_11, by decide, Or.inl (am_in 2 160 (by decide +kernel) rfl), rfl, rfl, fun _ => ⟨rfl, am_in 2 160 (by decide +kernel) rfl⟩⟩
theorem fg_X11_135 : am_gd RX11 135 11 12 := ⟨(RX11, TX11, 15), tyX11, cl_11, by decide, Or.inl (am_in 2 161 (by decide +kernel) rfl)⟩
theorem fp_X11_135 : am_pd RX11 135 11 12 (.int) false := ⟨(RX11, TX11, 15), tyX11, cl_11, by decide, Or.inl (am_in 2 161 (by decide +kernel) rfl), rfl, rfl, fun z => by cases z⟩
theorem fg_X11_393 : am_gd RX11 393 11 13 := ⟨(RX11, TX11, 15), tyX11, cl_11, by decide, Or.inl (am_in 2 162 (by decide +kernel) rfl)⟩
theorem fp_X11_393 : am_pd RX11 393 11 13 (.int) false := ⟨(RX11, TX11, 15), tyX11, cl_11, by decide, Or.inl (am_in 2 162 (by decide +kernel) rfl), rfl, rfl, fun z => by cases z⟩
theorem fg_X11_396 : am_gd RX11 396 11 14 := ⟨(RX11, TX11, 15), tyX11, cl_11, by decide, Or.inl (am_in 2 163 (by decide +kernel) rfl)⟩
theorem fp_X11_396 : am_pd RX11 396 11 14 (.int) false := ⟨(RX11, TX11, 15), tyX11, cl_11, by decide, Or.inl (am_in 2 163 (by decide +kernel) rfl), rfl, rfl, fun z => by cases z⟩
theorem fg_X12_103 : am_gd RX12 103 12 0 := ⟨(RX12, TX12, 50), tyX12, cl_12, by decide, Or.inl (am_in 7 1 (by decide +kernel) rfl)⟩
theorem fp_X12_103 : am_pd RX12 103 12 0 (.int) false := ⟨(RX12, TX12, 50), tyX12, cl_12, by decide, Or.inl (am_in 7 1 (by decide +kernel) rfl), rfl, rfl, fun z => by cases z⟩
theorem fg_X12_106 : am_gd RX12 106 12 1 := ⟨(RX12, TX12, 50), tyX12, cl_12, by decide, Or.inl (am_in 7 2 (by decide +kernel) rfl)⟩
theorem fp_X12_106 : am_pd RX12 106 12 1 (.int) false := ⟨(RX12, TX12, 50), tyX12, cl_12, by decide, Or.inl (am_in 7 2 (by decide +kernel) rfl), rfl, rfl, fun z => by cases z⟩
theorem fg_X12_109 : am_gd RX12 109 12 2 := ⟨(RX12, TX12, 50), tyX12, cl_12, by decide, Or.inl (am_in 7 3 (by decide +kernel) rfl)⟩
theorem fp_X12_109 : am_pd RX12 109 12 2 (.int) false := ⟨(RX12, TX12, 50), tyX12, cl_12, by decide, Or.inl (am_in 7 3 (by decide +kernel) rfl), rfl, rfl, fun z => by cases z⟩
theorem fg_X12_9 : am_gd RX12 9 12 3 := ⟨(RX12, TX12, 50), tyX12, cl_12, by decide, Or.inl (am_in 7 4 (by decide +kernel) rfl)⟩
theorem fp_X12_9 : am_pd RX12 9 12 3 (.int) false := ⟨(RX12, TX12, 50), tyX12, cl_12, by decide, Or.inl (am_in 7 4 (by decide +kernel) rfl), rfl, rfl, fun z => by cases z⟩
theorem fg_X12_112 : am_gd RX12 112 12 4 := ⟨(RX12, TX12, 50), tyX12, cl_12, by decide, Or.inl (am_in 7 5 (by decide +kernel) rfl)⟩
theorem fp_X12_112 : am_pd RX12 112 12 4 (.int) false := ⟨(RX12, TX12, 50), tyX12, cl_12, by decide, Or.inl (am_in 7 5 (by decide +kernel) rfl), rfl, rfl, fun z => by cases z⟩
theorem fg_X12_119 : am_gd RX12 119 12 5 := ⟨(RX12, TX12, 50), tyX12, cl_12, by decide, Or.inl (am_in 7 6 (by decide +kernel) rfl)⟩
theorem fp_X12_119 : am_pd RX12 119 12 5 (.int) false := ⟨(RX12, TX12, 50), tyX12, cl_12, by decide, Or.inl (am_in 7 6 (by decide +kernel) rfl), rfl, rfl, fun z => by cases z⟩
theorem fg_X12_122 : am_gd RX12 122 12 6 := ⟨(RX12, TX12, 50), tyX12, cl_12, by decide, Or.inl (am_in 7 7 (by decide +kernel) rfl)⟩
theorem fp_X12_122 : am_pd RX12 122 12 6 (.int) false := ⟨(RX12, TX12, 50), tyX12, cl_12, by decide, Or.inl (am_in 7 7 (by decide +kernel) rfl), rfl, rfl, fun z => by cases z⟩
theorem fg_X12_159 : am_gd RX12 159 12 7 := ⟨(RX12, TX12, 50), tyX12, cl_12, by decide, Or.inl (am_in 7 8 (by decide +kernel) rfl)⟩
theorem fp_X12_159 : am_pd RX12 159 12 7 (.int) false := ⟨(RX12, TX12, 50), tyX12, cl_12, by decide, Or.inl (am_in 7 8 (by decide +kernel) rfl), rfl, rfl, fun z => by cases z⟩
theorem fg_X12_162 : am_gd RX12 162 12 8 := ⟨(RX12, TX12, 50), tyX12, cl_12, by decide, Or.inl (am_in 7 9 (by decide +kernel) rfl)⟩
theorem fp_X12_162 : am_pd RX12 162 12 8 (.int) false := ⟨(RX12, TX12, 50), tyX12, cl_12, by decide, Or.inl (am_in 7 9 (by decide +kernel) rfl), rfl, rfl, fun z => by cases z⟩
theorem fg_X12_13 : am_gd RX12 13 12 9 := ⟨(RX12, TX12, 50), tyX12, cl_12, by decide, Or.inl (am_in 7 10 (by decide +kernel) rfl)⟩
theorem fp_X12_13 : am_pd RX12 13 12 9 (.array .int) true := ⟨(RX12, TX12, 50), tyX12, cl_12, by decide, Or.inl (am_in 7 10 (by decide +kernel) rfl), rfl, rfl, fun _ => ⟨rfl, am_in 7 10 (by decide +kernel) rfl⟩⟩
theorem fg_X12_17 : am_gd RX12 17 12 10 := ⟨(RX12, TX12, 50), tyX12, cl_12, by decide, Or.inl (am_in 7 11 (by decide +kernel) rfl)⟩
theorem fp_X12_17 : am_pd RX12 17 12 10 (.array .int) true := ⟨(RX12, TX12, 50), tyX12, cl_12, by decide, Or.inl (am_in 7 11 (by decide +kernel) rfl), rfl, rfl, fun _ => ⟨rfl, am_in 7 11 (by decide +kernel) rfl⟩⟩
theorem fg_X12_20 : am_gd RX12 20 12 11 := ⟨(RX12, TX12, 50), tyX12, cl_12, by decide, Or.inl (am_in 7 12 (by decide +kernel) rfl)⟩
theorem fp_X12_20 : am_pd RX12 20 12 11 (.array .int) true := ⟨(RX12, TX12, 50), tyX12, cl_12, by decide, Or.inl (am_in 7 12 (by decide +kernel) rfl), rfl, rfl, fun _ => ⟨rfl, am_in 7 12 (by decide +kernel) rfl⟩⟩
theorem fg_X12_23 : am_gd RX12 23 12 12 := ⟨(RX12, TX12, 50), tyX12, cl_12, by decide, Or.inl (am_in 7 13 (by decide +kernel) rfl)⟩
theorem fp_X12_23 : am_pd RX12 23 12 12 (.array .int) true := ⟨(RX12, TX12, 50), tyX12, cl_12, by decide, Or.inl (am_in 7 13 (by decide +kernel) rfl), rfl, rfl, fun _ => ⟨rfl, am_in 7 13 (by decide +kernel) rfl⟩⟩
theorem fg_X12_28 : am_gd RX12 28 12 13 := ⟨(RX12, TX12, 50), tyX12, cl_12, by decide, Or.inl (am_in 7 14 (by decide +kernel) rfl)⟩
theorem fp_X12_28 : am_pd RX12 28 12 13 (.array (.array .int)) true := ⟨(RX12, TX12, 50), tyX12, cl_12, by decide, Or.inl (am_in 7 14 (by decide +kernel) rfl), rfl, rfl, fun _ => ⟨rfl, am_in 7 14 (by decide +kernel) rfl⟩⟩
theorem fg_X12_31 : am_gd RX12 31 12 14 := ⟨(RX12, TX12, 50), tyX12, cl_12, by decide, Or.inl (am_in 7 15 (by decide +kernel) rfl)⟩
theorem fp_X12_31 : am_pd RX12 31 12 14 (.array (.array .int)) true := ⟨(RX12, TX12, 50), tyX12, cl_12, by decide, Or.inl (am_in 7 15 (by decide +kernel) rfl), rfl, rfl, fun _ => ⟨rfl, am_in 7 15 (by decide +kernel) rfl⟩⟩
theorem fg_X12_34 : am_gd RX12 34 12 15 := ⟨(RX12, TX12, 50), tyX12, cl_12, by decide, Or.inl (am_in 7 16 (by decide +kernel) rfl)⟩
theorem fp_X12_34 : am_pd RX12 34 12 15 (.array (.array .int)) true := ⟨(RX12, TX12, 50), tyX12, cl_12, by decide, Or.inl (am_in 7 16 (by decide +kernel) rfl), rfl, rfl, fun _ => ⟨rfl, am_in 7 16 (by decide +kernel) rfl⟩⟩
theorem fg_X12_37 : am_gd RX12 37 12 16 := ⟨(RX12, TX12, 50), tyX12, cl_12, by decide, Or.inl (am_in 7 17 (by decide +kernel) rfl)⟩
theorem fp_X12_37 : am_pd RX12 37 12 16 (.array (.array .int)) true := ⟨(RX12, TX12, 50), tyX12, cl_12, by decide, Or.inl (am_in 7 17 (by decide +kernel) rfl), rfl, rfl, fun _ => ⟨rfl, am_in 7 17 (by decide +kernel) rfl⟩⟩
theorem fg_X12_40 : am_gd RX12 40 12 17 := ⟨(RX12, TX12, 50), tyX12, cl_12, by decide, Or.inl (am_in 7 18 (by decide +kernel) rfl)⟩
theorem fp_X12_40 : am_pd RX12 40 12 17 (.array (.array .int)) true := ⟨(RX12, TX12, 50), tyX12, cl_12, by decide, Or.inl (am_in 7 18 (by decide +kernel) rfl), rfl, rfl, fun _ => ⟨rfl, am_in 7 18 (by decide +kernel) rfl⟩⟩
theorem fg_X12_43 : am_gd RX12 43 12 18 := ⟨(RX12, TX12, 50), tyX12, cl_12, by decide, Or.inl (am_in 7 19 (by decide +kernel) rfl)⟩
theorem fp_X12_43 : am_pd RX12 43 12 18 (.array (.array .int)) true := ⟨(RX12, TX12, 50), tyX12, cl_12, by decide, Or.inl (am_in 7 19 (by decide +kernel) rfl), rfl, rfl, fun _ => ⟨rfl, am_in 7 19 (by decide +kernel) rfl⟩⟩
theorem fg_X12_196 : am_gd RX12 196 12 19 := ⟨(RX12, TX12, 50), tyX12, cl_12, by decide, Or.inl (am_in 7 20 (by decide +kernel) rfl)⟩
theorem fp_X12_196 : am_pd RX12 196 12 19 (.int) false := ⟨(RX12, TX12, 50), tyX12, cl_12, by decide, Or.inl (am_in 7 20 (by decide +kernel) rfl), rfl, rfl, fun z => by cases z⟩
theorem fg_X12_211 : am_gd RX12 211 12 20 := ⟨(RX12, TX12, 50), tyX12, cl_12, by decide, Or.inl (am_in 7 21 (by decide +kernel) rfl)⟩
theorem fp_X12_211 : am_pd RX12 211 12 20 (.int) false := ⟨(RX12, TX12, 50), tyX12, cl_12, by decide, Or.inl (am_in 7 21 (by decide +kernel) rfl), rfl, rfl, fun z => by cases z⟩
theorem fg_X12_46 : am_gd RX12 46 12 21 := ⟨(RX12, TX12, 50), tyX12, cl_12, by decide, Or.inl (am_in 7 22 (by decide +kernel) rfl)⟩
theorem fp_X12_46 : am_pd RX12 46 12 21 (.array (.array .int)) true := ⟨(RX12, TX12, 50), tyX12, cl_12, by decide, Or.inl (am_in 7 22 (by decide +kernel) rfl), rfl, rfl, fun _ => ⟨rfl, am_in 7 22 (by decide +kernel) rfl⟩⟩
theorem fg_X12_49 : am_gd RX12 49 12 22 := ⟨(RX12, TX12, 50), tyX12, cl_12, by decide, Or.inl (am_in 7 23 (by decide +kernel) rfl)⟩
theorem fp_X12_49 : am_pd RX12 49 12 22 (.array (.array .int)) true := ⟨(RX12, TX12, 50), tyX12, cl_12, by decide, Or.inl (am_in 7 23 (by decide +kernel) rfl), rfl, rfl, fun _ => ⟨rfl, am_in 7 23 (by decide +kernel) rfl⟩⟩
theorem fg_X12_52 : am_gd RX12 52 12 23 := ⟨(RX12, TX12, 50), tyX12, cl_12, by decide, Or.inl (am_in 7 24 (by decide +kernel) rfl)⟩
theorem fp_X12_52 : am_pd RX12 52 12 23 (.array (.array .int)) true := ⟨(RX12, TX12, 50), tyX12, cl_12, by decide, Or.inl (am_in 7 24 (by decide +kernel) rfl), rfl, rfl, fun _ => ⟨rfl, am_in 7 24 (by decide +kernel) rfl⟩⟩
theorem fg_X12_55 : am_gd RX12 55 12 24 := ⟨(RX12, TX12, 50), tyX12, cl_12, by decide, Or.inl (am_in 7 25 (by decide +kernel) rfl)⟩
theorem fp_X12_55 : am_pd RX12 55 12 24 (.array (.array .int)) true := ⟨(RX12, TX12, 50), tyX12, cl_12, by decide, Or.inl (am_in 7 25 (by decide +kernel) rfl), rfl, rfl, fun _ => ⟨rfl, am_in 7 25 (by decide +kernel) rfl⟩⟩
theorem fg_X12_58 : am_gd RX12 58 12 25 := ⟨(RX12, TX12, 50), tyX12, cl_12, by decide, Or.inl (am_in 7 26 (by decide +kernel) rfl)⟩
theorem fp_X12_58 : am_pd RX12 58 12 25 (.array .int) true := ⟨(RX12, TX12, 50), tyX12, cl_12, by decide, Or.inl (am_in 7 26 (by decide +kernel) rfl), rfl, rfl, fun _ => ⟨rfl, am_in 7 26 (by decide +kernel) rfl⟩⟩
theorem fg_X12_61 : am_gd RX12 61 12 26 := ⟨(RX12, TX12, 50), tyX12, cl_12, by decide, Or.inl (am_in 7 27 (by decide +kernel) rfl)⟩
theorem fp_X12_61 : am_pd RX12 61 12 26 (.array .int) true := ⟨(RX12, TX12, 50), tyX12, cl_12, by decide, Or.inl (am_in 7 27 (by decide +kernel) rfl), rfl, rfl, fun _ => ⟨rfl, am_in 7 27 (by decide +kernel) rfl⟩⟩
theorem fg_X12_64 : am_gd RX12 64 12 27 := ⟨(RX12, TX12, 50), tyX12, cl_12, by decide, Or.inl (am_in 7 28 (by decide +kernel) rfl)⟩
theorem fp_X12_64 : am_pd RX12 64 12 27 (.array (.array .int)) true := ⟨(RX12, TX12, 50), tyX12, cl_12, by decide, Or.inl (am_in 7 28 (by decide +kernel) rfl), rfl, rfl, fun _ => ⟨rfl, am_in 7 28 (by decide +kernel) rfl⟩⟩
theorem fg_X12_252 : am_gd RX12 252 12 28 := ⟨(RX12, TX12, 50), tyX12, cl_12, by decide, Or.inl (am_in 7 29 (by decide +kernel) rfl)⟩
theorem fp_X12_252 : am_pd RX12 252 12 28 (.int) false := ⟨(RX12, TX12, 50), tyX12, cl_12, by decide, Or.inl (am_in 7 29 (by decide +kernel) rfl), rfl, rfl, fun z => by cases z⟩
theorem fg_X12_67 : am_gd RX12 67 12 29 := ⟨(RX12, TX12, 50), tyX12, cl_12, by decide, Or.inl (am_in 7 30 (by decide +kernel) rfl)⟩
theorem fp_X12_67 : am_pd RX12 67 12 29 (.array .int) true := ⟨(RX12, TX12, 50), tyX12, cl_12, by decide, Or.inl (am_in 7 30 (by decide +kernel) rfl), rfl, rfl, fun _ => ⟨rfl, am_in 7 30 (by decide +kernel) rfl⟩⟩
theorem fg_X12_70 : am_gd RX12 70 12 30 := ⟨(RX12, TX12, 50), tyX12, cl_12, by decide, Or.inl (am_in 7 31 (by decide +kernel) rfl)⟩
theorem fp_X12_70 : am_pd RX12 70 12 30 (.array .int) true := ⟨(RX12, TX12, 50), tyX12, cl_12, by decide, Or.inl (am_in 7 31 (by decide +kernel) rfl), rfl, rfl, fun _ => ⟨rfl, am_in 7 31 (by decide +kernel) rfl⟩⟩
theorem fg_X12_73 : am_gd RX12 73 12 31 := ⟨(RX12, TX12, 50), tyX12, cl_12, by decide, Or.inl (am_in 7 32 (by decide +kernel) rfl)⟩
theorem fp_X12_73 : am_pd RX12 73 12 31 (.array .int) true := ⟨(RX12, TX12, 50), tyX12, cl_12, by decide, Or.inl (am_in 7 32 (by decide +kernel) rfl), rfl, rfl, fun _ => ⟨rfl, am_in 7 32 (by decide +kernel) rfl⟩⟩
theorem fg_X12_76 : am_gd RX12 76 12 32 := ⟨(RX12, TX12, 50), tyX12, cl_12, by decide, Or.inl (am_in 7 33 (by decide +kernel) rfl)⟩
theorem fp_X12_76 : am_pd RX12 76 12 32 (.array (.array .int)) true := ⟨(RX12, TX12, 50), tyX12, cl_12, by decide, Or.inl (am_in 7 33 (by decide +kernel) rfl), rfl, rfl, fun _ => ⟨rfl, am_in 7 33 (by decide +kernel) rfl⟩⟩
theorem fg_X12_79 : am_gd RX12 79 12 33 := ⟨(RX12, TX12, 50), tyX12, cl_12, by decide, Or.inl (am_in 7 34 (by decide +kernel) rfl)⟩
theorem fp_X12_79 : am_pd RX12 79 12 33 (.array (.array .int)) true := ⟨(RX12, TX12, 50), tyX12, cl_12, by decide, Or.inl (am_in 7 34 (by decide +kernel) rfl), rfl, rfl, fun _ => ⟨rfl, am_in 7 34 (by decide +kernel) rfl⟩⟩
theorem fg_X12_199 : am_gd RX12 199 12 34 := ⟨(RX12, TX12, 50), tyX12, cl_12, by decide, Or.inl (am_in 7 35 (by decide +kernel) rfl)⟩
theorem fp_X12_199 : am_pd RX12 199 12 34 (.int) false := ⟨(RX12, TX12, 50), tyX12, cl_12, by decide, Or.inl (am_in 7 35 (by decide +kernel) rfl), rfl, rfl, fun z => by cases z⟩
theorem fg_X12_202 : am_gd RX12 202 12 35 := ⟨(RX12, TX12, 50), tyX12, cl_12, by decide, Or.inl (am_in 7 36 (by decide +kernel) rfl)⟩
theorem fp_X12_202 : am_pd RX12 202 12 35 (.int) false := ⟨(RX12, TX12, 50), tyX12, cl_12, by decide, Or.inl (am_in 7 36 (by decide +kernel) rfl), rfl, rfl, fun z => by cases z⟩
theorem fg_X12_205 : am_gd RX12 205 12 36 := ⟨(RX12, TX12, 50), tyX12, cl_12, by decide, Or.inl (am_in 7 37 (by decide +kernel) rfl)⟩
theorem fp_X12_205 : am_pd RX12 205 12 36 (.int) false := ⟨(RX12, TX12, 50), tyX12, cl_12, by decide, Or.inl (am_in 7 37 (by decide +kernel) rfl), rfl, rfl, fun z => by cases z⟩
theorem fg_X12_208 : am_gd RX12 208 12 37 := ⟨(RX12, TX12, 50), tyX12, cl_12, by decide, Or.inl (am_in 7 38 (by decide +kernel) rfl)⟩
theorem fp_X12_208 : am_pd RX12 208 12 37 (.int) false := ⟨(RX12, TX12, 50), tyX12, cl_12, by decide, Or.inl (am_in 7 38 (by decide +kernel) rfl), rfl, rfl, fun z => by cases z⟩
theorem fg_X12_383 : am_gd RX12 383 12 38 := ⟨(RX12, TX12, 50), tyX12, cl_12, by decide, Or.inl (am_in 7 39 (by decide +kernel) rfl)⟩
theorem fp_X12_383 : am_pd RX12 383 12 38 (.int) false := ⟨(RX12, TX12, 50), tyX12, cl_12, by decide, Or.inl (am_in 7 39 (by decide +kernel) rfl), rfl, rfl, fun z => by cases z⟩
theorem fg_X12_280 : am_gd RX12 280 12 39 := ⟨(RX12, TX12, 50), tyX12, cl_12, by decide, Or.inl (am_in 7 40 (by decide +kernel) rfl)⟩
theorem fp_X12_280 : am_pd RX12 280 12 39 (.int) false := ⟨(RX12, TX12, 50), tyX12, cl_12, by decide, Or.inl (am_in 7 40 (by decide +kernel) rfl), rfl, rfl, fun z => by cases z⟩
theorem fg_X12_301 : am_gd RX12 301 12 40 := ⟨(RX12, TX12, 50), tyX12, cl_12, by decide, Or.inl (am_in 7 41 (by decide +kernel) rfl)⟩
theorem fp_X12_301 : am_pd RX12 301 12 40 (.int) false := ⟨(RX12, TX12, 50), tyX12, cl_12, by decide, Or.inl (am_in 7 41 (by decide +kernel) rfl), rfl, rfl, fun z => by cases z⟩
theorem fg_X12_311 : am_gd RX12 311 12 41 := ⟨(RX12, TX12, 50), tyX12, cl_12, by decide, Or.inl (am_in 7 42 (by decide +kernel) rfl)⟩
theorem fp_X12_311 : am_pd RX12 311 12 41 (.int) false := ⟨(RX12, TX12, 50), tyX12, cl_12, by decide, Or.inl (am_in 7 42 (by decide +kernel) rfl), rfl, rfl, fun z => by cases z⟩
theorem fg_X12_82 : am_gd RX12 82 12 42 := ⟨(RX12, TX12, 50), tyX12, cl_12, by decide, Or.inl (am_in 7 43 (by decide +kernel) rfl)⟩
theorem fp_X12_82 : am_pd RX12 82 12 42 (.array .int) true := ⟨(RX12, TX12, 50), tyX12, cl_12, by decide, Or.inl (am_in 7 43 (by decide +kernel) rfl), rfl, rfl, fun _ => ⟨rfl, am_in 7 43 (by decide +kernel) rfl⟩⟩
theorem fg_X12_85 : am_gd RX12 85 12 43 := ⟨(RX12, TX12, 50), tyX12, cl_12, by decide, Or.inl (am_in 7 44 (by decide +kernel) rfl)⟩
theorem fp_X12_85 : am_pd RX12 85 12 43 (.array (.array .int)) true := ⟨(RX12, TX12, 50), tyX12, cl_12, by decide, Or.inl (am_in 7 44 (by decide +kernel) rfl), rfl, rfl, fun _ => ⟨rfl, am_in 7 44 (by decide +kernel) rfl⟩⟩
theorem fg_X12_88 : am_gd RX12 88 12 44 := ⟨(RX12, TX12, 50), tyX12, cl_12, by decide, Or.inl (am_in 7 45 (by decide +kernel) rfl)⟩
theorem fp_X12_88 : am_pd RX12 88 12 44 (.array .int) true := ⟨(RX12, TX12, 50), tyX12, cl_12, by decide, Or.inl (am_in 7 45 (by decide +kernel) rfl), rfl, rfl, fun _ => ⟨rfl, am_in 7 45 (by decide +kernel) rfl⟩⟩
theorem fg_X12_91 : am_gd RX12 91 12 45 := ⟨(RX12, TX12, 50), tyX12, cl_12, by decide, Or.inl (am_in 7 46 (by decide +kernel) rfl)⟩
theorem fp_X12_91 : am_pd RX12 91 12 45 (.array .int) true := ⟨(RX12, TX12, 50), tyX12, cl_12, by decide, Or.inl (am_in 7 46 (by decide +kernel) rfl), rfl, rfl, fun _ => ⟨rfl, am_in 7 46 (by decide +kernel) rfl⟩⟩
theorem fg_X12_354 : am_gd RX12 354 12 46 := ⟨(RX12, TX12, 50), tyX12, cl_12, by decide, Or.inl (am_in 7 47 (by decide +kernel) rfl)⟩
theorem fp_X12_354 : am_pd RX12 354 12 46 (.int) false := ⟨(RX12, TX12, 50), tyX12, cl_12, by decide, Or.inl (am_in 7 47 (by decide +kernel) rfl), rfl, rfl, fun z => by cases z⟩
theorem fg_X12_94 : am_gd RX12 94 12 47 := ⟨(RX12, TX12, 50), tyX12, cl_12, by decide, Or.inl (am_in 7 48 (by decide +kernel) rfl)⟩
theorem fp_X12_94 : am_pd RX12 94 12 47 (.array .int) true := ⟨(RX12, TX12, 50), tyX12, cl_12, by decide, Or.inl (am_in 7 48 (by decide +kernel) rfl), rfl, rfl, fun _ => ⟨rfl, am_in 7 48 (by decide +kernel) rfl⟩⟩
theorem fg_X12_369 : am_gd RX12 369 12 48 := ⟨(RX12, TX12, 50), tyX12, cl_12, by decide, Or.inl (am_in 7 49 (by decide +kernel) rfl)⟩
theorem fp_X12_369 : am_pd RX12 369 12 48 (.int) false := ⟨(RX12, TX12, 50), tyX12, cl_12, by decide, Or.inl (am_in 7 49 (by decide +kernel) rfl), rfl, rfl, fun z => by cases z⟩
theorem fg_X12_372 : am_gd RX12 372 12 49 := ⟨(RX12, TX12, 50), tyX12, cl_12, by decide, Or.inl (am_in 7 50 (by decide +kernel) rfl)⟩
theorem fp_X12_372 : am_pd RX12 372 12 49 (.int) false := ⟨(RX12, TX12, 50), tyX12, cl_12, by decide, Or.inl (am_in 7 50 (by decide +kernel) rfl), rfl, rfl, fun z => by cases z⟩
abbrev mX0_init : am_M := (yX0_init, cX0_init, 2, none)
theorem im_X0_init : am_im mX0_init 1 := ⟨⟨am_in 2 132 (by decide +kernel) rfl, am_in 1 13 (by decide +kernel) rfl, ⟨by decide +kernel, by decide +kernel, by decide +kernel⟩, by decide⟩, am_in 2 131 (by decide +kernel) rfl, rfl⟩
abbrev mX0_settle : am_M := (yX0_settle, cX0_settle, 2, none)
theorem vm_X0_settle : am_vm mX0_settle 0 1 := ⟨⟨am_in 6 84 (by decide +kernel) rfl, am_in 1 13 (by decide +kernel) rfl, ⟨by decide +kernel, by decide +kernel, by decide +kernel⟩, by decide⟩, am_in 6 82 (by decide +kernel) rfl, am_in 6 83 (by decide +kernel) rfl, (RX0, TX0, 4), rfl, rfl⟩
abbrev mX0_place : am_M := (yX0_place, cX0_place, 4, none)
theorem vm_X0_place : am_vm mX0_place 0 2 := ⟨⟨am_in 6 88 (by decide +kernel) rfl, am_in 1 13 (by decide +kernel) rfl, ⟨by decide +kernel, by decide +kernel, by decide +kernel⟩, by decide⟩, am_in 6 87 (by decide +kernel) rfl, am_inP 40 (by decide +kernel) rfl, (RX0, TX0, 4), rfl, rfl⟩
abbrev mX0_isRest : am_M := (yX0_isRest, cX0_isRest, 5, (some .boolean))
theorem vm_X0_isRest : am_vm mX0_isRest 0 0 := ⟨⟨am_in 6 92 (by decide +kernel) rfl, am_in 1 13 (by decide +kernel) rfl, ⟨by decide +kernel, by decide +kernel, by decide +kernel⟩, by decide⟩, am_in 6 91 (by decide +kernel) rfl, am_inP 41 (by decide +kernel) rfl, (RX0, TX0, 4), rfl, rfl⟩
abbrev mX0_keepFirst : am_M := (yX0_keepFirst, cX0_keepFirst, 1, none)
theorem vm_X0_keepFirst : am_vm mX0_keepFirst 0 0 := ⟨⟨am_in 6 98 (by decide +kernel) rfl, am_in 1 13 (by decide +kernel) rfl, ⟨by decide +kernel, by decide +kernel, by decide +kernel⟩, by decide⟩, am_in 6 97 (by decide +kernel) rfl, am_inP 42 (by decide +kernel) rfl, (RX0, TX0, 4), rfl, rfl⟩
abbrev mX0_firstCatch : am_M := (yX0_firstCatch, cX0_firstCatch, 4, (some .int))
theorem vm_X0_firstCatch : am_vm mX0_firstCatch 0 0 := ⟨⟨am_in 6 103 (by decide +kernel) rfl, am_in 1 13 (by decide +kernel) rfl, ⟨by decide +kernel, by decide +kernel, by decide +kernel⟩, by decide⟩, am_in 6 101 (by decide +kernel) rfl, am_in 6 102 (by decide +kernel) rfl, (RX0, TX0, 4), rfl, rfl⟩
abbrev mX1_init : am_M := (yX1_init, cX1_init, 1, none)
theorem im_X1_init : am_im mX1_init 0 := ⟨⟨am_in 1 69 (by decide +kernel) rfl, am_in 1 3 (by decide +kernel) rfl, ⟨by decide +kernel, by decide +kernel, by decide +kernel⟩, by decide⟩, am_in 1 68 (by decide +kernel) rfl, rfl⟩
abbrev mX1_copyFrom : am_M := (yX1_copyFrom, cX1_copyFrom, 2, none)
theorem vm_X1_copyFrom : am_vm mX1_copyFrom 1 1 := ⟨⟨am_in 4 26 (by decide +kernel) rfl, am_in 1 3 (by decide +kernel) rfl, ⟨by decide +kernel, by decide +kernel, by decide +kernel⟩, by decide⟩, am_in 4 24 (by decide +kernel) rfl, am_in 4 25 (by decide +kernel) rfl, (RX1, TX1, 14), rfl, rfl⟩
abbrev mX1_read : am_M := (yX1_read, cX1_read, 4, none)
theorem vm_X1_read : am_vm mX1_read 1 1 := ⟨⟨am_in 3 149 (by decide +kernel) rfl, am_in 1 3 (by decide +kernel) rfl, ⟨by decide +kernel, by decide +kernel, by decide +kernel⟩, by decide⟩, am_in 3 147 (by decide +kernel) rfl, am_in 3 148 (by decide +kernel) rfl, (RX1, TX1, 14), rfl, rfl⟩
abbrev mX1_readClause : am_M := (yX1_readClause, cX1_readClause, 3, none)
theorem vm_X1_readClause : am_vm mX1_readClause 1 2 := ⟨⟨am_in 3 232 (by decide +kernel) rfl, am_in 1 3 (by decide +kernel) rfl, ⟨by decide +kernel, by decide +kernel, by decide +kernel⟩, by decide⟩, am_in 3 231 (by decide +kernel) rfl, am_inP 8 (by decide +kernel) rfl, (RX1, TX1, 14), rfl, rfl⟩
abbrev mX1_readBoard : am_M := (yX1_readBoard, cX1_readBoard, 5, none)
theorem vm_X1_readBoard : am_vm mX1_readBoard 1 1 := ⟨⟨am_in 3 236 (by decide +kernel) rfl, am_in 1 3 (by decide +kernel) rfl, ⟨by decide +kernel, by decide +kernel, by decide +kernel⟩, by decide⟩, am_in 3 235 (by decide +kernel) rfl, am_inP 9 (by decide +kernel) rfl, (RX1, TX1, 14), rfl, rfl⟩
abbrev mX1_readBarge : am_M := (yX1_readBarge, cX1_readBarge, 4, none)
theorem vm_X1_readBarge : am_vm mX1_readBarge 1 1 := ⟨⟨am_in 4 5 (by decide +kernel) rfl, am_in 1 3 (by decide +kernel) rfl, ⟨by decide +kernel, by decide +kernel, by decide +kernel⟩, by decide⟩, am_in 4 4 (by decide +kernel) rfl, am_inP 10 (by decide +kernel) rfl, (RX1, TX1, 14), rfl, rfl⟩
abbrev mX1_readStreet : am_M := (yX1_readStreet, cX1_readStreet, 5, none)
theorem vm_X1_readStreet : am_vm mX1_readStreet 1 1 := ⟨⟨am_in 4 9 (by decide +kernel) rfl, am_in 1 3 (by decide +kernel) rfl, ⟨by decide +kernel, by decide +kernel, by decide +kernel⟩, by decide⟩, am_in 4 8 (by decide +kernel) rfl, am_inP 11 (by decide +kernel) rfl, (RX1, TX1, 14), rfl, rfl⟩
abbrev mX1_readFish : am_M := (yX1_readFish, cX1_readFish, 4, none)
theorem vm_X1_readFish : am_vm mX1_readFish 1 1 := ⟨⟨am_in 4 13 (by decide +kernel) rfl, am_in 1 3 (by decide +kernel) rfl, ⟨by decide +kernel, by decide +kernel, by decide +kernel⟩, by decide⟩, am_in 4 12 (by decide +kernel) rfl, am_inP 12 (by decide +kernel) rfl, (RX1, TX1, 14), rfl, rfl⟩
abbrev mX1_isDrained : am_M := (yX1_isDrained, cX1_isDrained, 5, (some .boolean))
theorem vm_X1_isDrained : am_vm mX1_isDrained 1 2 := ⟨⟨am_in 5 98 (by decide +kernel) rfl, am_in 1 3 (by decide +kernel) rfl, ⟨by decide +kernel, by decide +kernel, by decide +kernel⟩, by decide⟩, am_in 5 96 (by decide +kernel) rfl, am_in 5 97 (by decide +kernel) rfl, (RX1, TX1, 14), rfl, rfl⟩
abbrev mX1_lowerThan : am_M := (yX1_lowerThan, cX1_lowerThan, 4, (some .int))
theorem vm_X1_lowerThan : am_vm mX1_lowerThan 1 1 := ⟨⟨am_in 6 149 (by decide +kernel) rfl, am_in 1 3 (by decide +kernel) rfl, ⟨by decide +kernel, by decide +kernel, by decide +kernel⟩, by decide⟩, am_in 6 147 (by decide +kernel) rfl, am_in 6 148 (by decide +kernel) rfl, (RX1, TX1, 14), rfl, rfl⟩
abbrev mX1_bearing : am_M := (yX1_bearing, cX1_bearing, 4, (some .int))
theorem vm_X1_bearing : am_vm mX1_bearing 1 1 := ⟨⟨am_in 6 121 (by decide +kernel) rfl, am_in 1 3 (by decide +kernel) rfl, ⟨by decide +kernel, by decide +kernel, by decide +kernel⟩, by decide⟩, am_in 6 119 (by decide +kernel) rfl, am_in 6 120 (by decide +kernel) rfl, (RX1, TX1, 14), rfl, rfl⟩
abbrev mX1_hoursTo : am_M := (yX1_hoursTo, cX1_hoursTo, 2, (some .int))
theorem vm_X1_hoursTo : am_vm mX1_hoursTo 1 1 := ⟨⟨am_in 5 166 (by decide +kernel) rfl, am_in 1 3 (by decide +kernel) rfl, ⟨by decide +kernel, by decide +kernel, by decide +kernel⟩, by decide⟩, am_in 5 164 (by decide +kernel) rfl, am_in 5 165 (by decide +kernel) rfl, (RX1, TX1, 14), rfl, rfl⟩
abbrev mX2_init : am_M := (yX2_init, cX2_init, 2, none)
theorem im_X2_init : am_im mX2_init 1 := ⟨⟨am_in 2 76 (by decide +kernel) rfl, am_in 1 10 (by decide +kernel) rfl, ⟨by decide +kernel, by decide +kernel, by decide +kernel⟩, by decide⟩, am_in 2 75 (by decide +kernel) rfl, rfl⟩
abbrev mX2_fewest : am_M := (yX2_fewest, cX2_fewest, 3, (some .int))
theorem vm_X2_fewest : am_vm mX2_fewest 2 1 := ⟨⟨am_in 5 199 (by decide +kernel) rfl, am_in 1 10 (by decide +kernel) rfl, ⟨by decide +kernel, by decide +kernel, by decide +kernel⟩, by decide⟩, am_in 5 197 (by decide +kernel) rfl, am_in 5 198 (by decide +kernel) rfl, (RX2, TX2, 3), rfl, rfl⟩
abbrev mX2_choose : am_M := (yX2_choose, cX2_choose, 3, (some .boolean))
theorem vm_X2_choose : am_vm mX2_choose 2 2 := ⟨⟨am_in 5 204 (by decide +kernel) rfl, am_in 1 10 (by decide +kernel) rfl, ⟨by decide +kernel, by decide +kernel, by decide +kernel⟩, by decide⟩, am_in 5 203 (by decide +kernel) rfl, am_inP 28 (by decide +kernel) rfl, (RX2, TX2, 3), rfl, rfl⟩
abbrev mX2_drain : am_M := (yX2_drain, cX2_drain, 4, none)
theorem vm_X2_drain : am_vm mX2_drain 2 2 := ⟨⟨am_in 5 216 (by decide +kernel) rfl, am_in 1 10 (by decide +kernel) rfl, ⟨by decide +kernel, by decide +kernel, by decide +kernel⟩, by decide⟩, am_in 5 215 (by decide +kernel) rfl, am_inP 30 (by decide +kernel) rfl, (RX2, TX2, 3), rfl, rfl⟩
abbrev mX2_couldHold : am_M := (yX2_couldHold, cX2_couldHold, 8, (some .boolean))
theorem vm_X2_couldHold : am_vm mX2_couldHold 2 2 := ⟨⟨am_in 5 208 (by decide +kernel) rfl, am_in 1 10 (by decide +kernel) rfl, ⟨by decide +kernel, by decide +kernel, by decide +kernel⟩, by decide⟩, am_in 5 207 (by decide +kernel) rfl, am_inP 29 (by decide +kernel) rfl, (RX2, TX2, 3), rfl, rfl⟩
abbrev mX3_init : am_M := (yX3_init, cX3_init, 1, none)
theorem im_X3_init : am_im mX3_init 0 := ⟨⟨am_in 1 153 (by decide +kernel) rfl, am_in 1 4 (by decide +kernel) rfl, ⟨by decide +kernel, by decide +kernel, by decide +kernel⟩, by decide⟩, am_in 1 152 (by decide +kernel) rfl, rfl⟩
abbrev mX3_beUntold : am_M := (yX3_beUntold, cX3_beUntold, 1, none)
theorem vm_X3_beUntold : am_vm mX3_beUntold 3 0 := ⟨⟨am_in 1 158 (by decide +kernel) rfl, am_in 1 4 (by decide +kernel) rfl, ⟨by decide +kernel, by decide +kernel, by decide +kernel⟩, by decide⟩, am_in 1 156 (by decide +kernel) rfl, am_in 1 157 (by decide +kernel) rfl, (RX3, TX3, 7), rfl, rfl⟩
abbrev mX3_read : am_M := (yX3_read, cX3_read, 2, none)
theorem vm_X3_read : am_vm mX3_read 3 1 := ⟨⟨am_in 4 49 (by decide +kernel) rfl, am_in 1 4 (by decide +kernel) rfl, ⟨by decide +kernel, by decide +kernel, by decide +kernel⟩, by decide⟩, am_in 4 47 (by decide +kernel) rfl, am_in 4 48 (by decide +kernel) rfl, (RX3, TX3, 7), rfl, rfl⟩
abbrev mX3_mindsFines : am_M := (yX3_mindsFines, cX3_mindsFines, 1, (some .boolean))
theorem vm_X3_mindsFines : am_vm mX3_mindsFines 3 0 := ⟨⟨am_in 6 185 (by decide +kernel) rfl, am_in 1 4 (by decide +kernel) rfl, ⟨by decide +kernel, by decide +kernel, by decide +kernel⟩, by decide⟩, am_in 6 183 (by decide +kernel) rfl, am_in 6 184 (by decide +kernel) rfl, (RX3, TX3, 7), rfl, rfl⟩
abbrev mX3_adoptDraft : am_M := (yX3_adoptDraft, cX3_adoptDraft, 3, none)
theorem vm_X3_adoptDraft : am_vm mX3_adoptDraft 3 0 := ⟨⟨am_in 1 166 (by decide +kernel) rfl, am_in 1 4 (by decide +kernel) rfl, ⟨by decide +kernel, by decide +kernel, by decide +kernel⟩, by decide⟩, am_in 1 165 (by decide +kernel) rfl, am_inP 1 (by decide +kernel) rfl, (RX3, TX3, 7), rfl, rfl⟩
abbrev mX3_add : am_M := (yX3_add, cX3_add, 2, none)
theorem vm_X3_add : am_vm mX3_add 3 1 := ⟨⟨am_in 1 162 (by decide +kernel) rfl, am_in 1 4 (by decide +kernel) rfl, ⟨by decide +kernel, by decide +kernel, by decide +kernel⟩, by decide⟩, am_in 1 161 (by decide +kernel) rfl, am_inP 0 (by decide +kernel) rfl, (RX3, TX3, 7), rfl, rfl⟩
abbrev mX3_readSum : am_M := (yX3_readSum, cX3_readSum, 5, none)
theorem vm_X3_readSum : am_vm mX3_readSum 3 2 := ⟨⟨am_in 4 53 (by decide +kernel) rfl, am_in 1 4 (by decide +kernel) rfl, ⟨by decide +kernel, by decide +kernel, by decide +kernel⟩, by decide⟩, am_in 4 52 (by decide +kernel) rfl, am_inP 13 (by decide +kernel) rfl, (RX3, TX3, 7), rfl, rfl⟩
abbrev mX3_readProduct : am_M := (yX3_readProduct, cX3_readProduct, 5, none)
theorem vm_X3_readProduct : am_vm mX3_readProduct 3 2 := ⟨⟨am_in 4 57 (by decide +kernel) rfl, am_in 1 4 (by decide +kernel) rfl, ⟨by decide +kernel, by decide +kernel, by decide +kernel⟩, by decide⟩, am_in 4 56 (by decide +kernel) rfl, am_inP 14 (by decide +kernel) rfl, (RX3, TX3, 7), rfl, rfl⟩
abbrev mX3_readUnit : am_M := (yX3_readUnit, cX3_readUnit, 4, none)
theorem vm_X3_readUnit : am_vm mX3_readUnit 3 2 := ⟨⟨am_in 4 61 (by decide +kernel) rfl, am_in 1 4 (by decide +kernel) rfl, ⟨by decide +kernel, by decide +kernel, by decide +kernel⟩, by decide⟩, am_in 4 60 (by decide +kernel) rfl, am_inP 15 (by decide +kernel) rfl, (RX3, TX3, 7), rfl, rfl⟩
abbrev mX3_isNestedDeeper : am_M := (yX3_isNestedDeeper, cX3_isNestedDeeper, 2, (some .boolean))
theorem sm_X3_isNestedDeeper : am_sm mX3_isNestedDeeper 2 := ⟨⟨am_in 4 74 (by decide +kernel) rfl, am_in 1 4 (by decide +kernel) rfl, ⟨by decide +kernel, by decide +kernel, by decide +kernel⟩, by decide⟩, am_in 4 73 (by decide +kernel) rfl⟩
abbrev mX3_value : am_M := (yX3_value, cX3_value, 9, (some .int))
theorem vm_X3_value : am_vm mX3_value 3 4 := ⟨⟨am_in 3 13 (by decide +kernel) rfl, am_in 1 4 (by decide +kernel) rfl, ⟨by decide +kernel, by decide +kernel, by decide +kernel⟩, by decide⟩, am_in 3 11 (by decide +kernel) rfl, am_in 3 12 (by decide +kernel) rfl, (RX3, TX3, 7), rfl, rfl⟩
abbrev mX3_findFacts : am_M := (yX3_findFacts, cX3_findFacts, 5, none)
theorem vm_X3_findFacts : am_vm mX3_findFacts 3 4 := ⟨⟨am_in 3 17 (by decide +kernel) rfl, am_in 1 4 (by decide +kernel) rfl, ⟨by decide +kernel, by decide +kernel, by decide +kernel⟩, by decide⟩, am_in 3 16 (by decide +kernel) rfl, am_inP 2 (by decide +kernel) rfl, (RX3, TX3, 7), rfl, rfl⟩
abbrev mX3_join : am_M := (yX3_join, cX3_join, 3, (some .int))
theorem sm_X3_join : am_sm mX3_join 3 := ⟨⟨am_in 3 20 (by decide +kernel) rfl, am_in 1 4 (by decide +kernel) rfl, ⟨by decide +kernel, by decide +kernel, by decide +kernel⟩, by decide⟩, am_in 3 19 (by decide +kernel) rfl⟩
abbrev mX4_init : am_M := (yX4_init, cX4_init, 3, none)
theorem im_X4_init : am_im mX4_init 2 := ⟨⟨am_in 1 193 (by decide +kernel) rfl, am_in 1 5 (by decide +kernel) rfl, ⟨by decide +kernel, by decide +kernel, by decide +kernel⟩, by decide⟩, am_in 1 192 (by decide +kernel) rfl, rfl⟩
abbrev mX4_isDue : am_M := (yX4_isDue, cX4_isDue, 4, (some .boolean))
theorem vm_X4_isDue : am_vm mX4_isDue 4 3 := ⟨⟨am_in 5 110 (by decide +kernel) rfl, am_in 1 5 (by decide +kernel) rfl, ⟨by decide +kernel, by decide +kernel, by decide +kernel⟩, by decide⟩, am_in 5 108 (by decide +kernel) rfl, am_in 5 109 (by decide +kernel) rfl, (RX4, TX4, 2), rfl, rfl⟩
abbrev mX4_dueBits : am_M := (yX4_dueBits, cX4_dueBits, 5, (some .int))
theorem vm_X4_dueBits : am_vm mX4_dueBits 4 2 := ⟨⟨am_in 3 5 (by decide +kernel) rfl, am_in 1 5 (by decide +kernel) rfl, ⟨by decide +kernel, by decide +kernel, by decide +kernel⟩, by decide⟩, am_in 3 3 (by decide +kernel) rfl, am_in 3 4 (by decide +kernel) rfl, (RX4, TX4, 2), rfl, rfl⟩
abbrev mX4_openBits : am_M := (yX4_openBits, cX4_openBits, 3, (some .int))
theorem vm_X4_openBits : am_vm mX4_openBits 4 2 := ⟨⟨am_in 4 145 (by decide +kernel) rfl, am_in 1 5 (by decide +kernel) rfl, ⟨by decide +kernel, by decide +kernel, by decide +kernel⟩, by decide⟩, am_in 4 143 (by decide +kernel) rfl, am_in 4 144 (by decide +kernel) rfl, (RX4, TX4, 2), rfl, rfl⟩
abbrev mX4_lets : am_M := (yX4_lets, cX4_lets, 4, (some .boolean))
theorem vm_X4_lets : am_vm mX4_lets 4 3 := ⟨⟨am_in 4 179 (by decide +kernel) rfl, am_in 1 5 (by decide +kernel) rfl, ⟨by decide +kernel, by decide +kernel, by decide +kernel⟩, by decide⟩, am_in 4 177 (by decide +kernel) rfl, am_in 4 178 (by decide +kernel) rfl, (RX4, TX4, 2), rfl, rfl⟩
abbrev mX4_passedOn : am_M := (yX4_passedOn, cX4_passedOn, 6, (some .int))
theorem vm_X4_passedOn : am_vm mX4_passedOn 4 3 := ⟨⟨am_in 4 174 (by decide +kernel) rfl, am_in 1 5 (by decide +kernel) rfl, ⟨by decide +kernel, by decide +kernel, by decide +kernel⟩, by decide⟩, am_in 4 172 (by decide +kernel) rfl, am_in 4 173 (by decide +kernel) rfl, (RX4, TX4, 2), rfl, rfl⟩
abbrev mX4_hasKnocked : am_M := (yX4_hasKnocked, cX4_hasKnocked, 3, (some .boolean))
theorem vm_X4_hasKnocked : am_vm mX4_hasKnocked 4 2 := ⟨⟨am_in 4 190 (by decide +kernel) rfl, am_in 1 5 (by decide +kernel) rfl, ⟨by decide +kernel, by decide +kernel, by decide +kernel⟩, by decide⟩, am_in 4 188 (by decide +kernel) rfl, am_in 4 189 (by decide +kernel) rfl, (RX4, TX4, 2), rfl, rfl⟩
abbrev mX4_passHour : am_M := (yX4_passHour, cX4_passHour, 8, none)
theorem vm_X4_passHour : am_vm mX4_passHour 4 3 := ⟨⟨am_in 4 141 (by decide +kernel) rfl, am_in 1 5 (by decide +kernel) rfl, ⟨by decide +kernel, by decide +kernel, by decide +kernel⟩, by decide⟩, am_in 4 139 (by decide +kernel) rfl, am_in 4 140 (by decide +kernel) rfl, (RX4, TX4, 2), rfl, rfl⟩
abbrev mX5_init : am_M := (yX5_init, cX5_init, 2, none)
theorem im_X5_init : am_im mX5_init 1 := ⟨⟨am_in 2 92 (by decide +kernel) rfl, am_in 1 11 (by decide +kernel) rfl, ⟨by decide +kernel, by decide +kernel, by decide +kernel⟩, by decide⟩, am_in 2 91 (by decide +kernel) rfl, rfl⟩
abbrev mX5_clearBook : am_M := (yX5_clearBook, cX5_clearBook, 1, none)
theorem vm_X5_clearBook : am_vm mX5_clearBook 5 0 := ⟨⟨am_in 2 97 (by decide +kernel) rfl, am_in 1 11 (by decide +kernel) rfl, ⟨by decide +kernel, by decide +kernel, by decide +kernel⟩, by decide⟩, am_in 2 95 (by decide +kernel) rfl, am_in 2 96 (by decide +kernel) rfl, (RX5, TX5, 8), rfl, rfl⟩
abbrev mX5_readBook : am_M := (yX5_readBook, cX5_readBook, 4, none)
theorem vm_X5_readBook : am_vm mX5_readBook 5 1 := ⟨⟨am_in 4 228 (by decide +kernel) rfl, am_in 1 11 (by decide +kernel) rfl, ⟨by decide +kernel, by decide +kernel, by decide +kernel⟩, by decide⟩, am_in 4 226 (by decide +kernel) rfl, am_in 4 227 (by decide +kernel) rfl, (RX5, TX5, 8), rfl, rfl⟩
abbrev mX5_readLine : am_M := (yX5_readLine, cX5_readLine, 5, none)
theorem vm_X5_readLine : am_vm mX5_readLine 5 2 := ⟨⟨am_in 4 234 (by decide +kernel) rfl, am_in 1 11 (by decide +kernel) rfl, ⟨by decide +kernel, by decide +kernel, by decide +kernel⟩, by decide⟩, am_in 4 233 (by decide +kernel) rfl, am_inP 20 (by decide +kernel) rfl, (RX5, TX5, 8), rfl, rfl⟩
abbrev mX5_isInBook : am_M := (yX5_isInBook, cX5_isInBook, 2, (some .boolean))
theorem vm_X5_isInBook : am_vm mX5_isInBook 5 1 := ⟨⟨am_in 6 68 (by decide +kernel) rfl, am_in 1 11 (by decide +kernel) rfl, ⟨by decide +kernel, by decide +kernel, by decide +kernel⟩, by decide⟩, am_in 6 66 (by decide +kernel) rfl, am_in 6 67 (by decide +kernel) rfl, (RX5, TX5, 8), rfl, rfl⟩
abbrev mX5_smellAt : am_M := (yX5_smellAt, cX5_smellAt, 4, (some .int))
theorem vm_X5_smellAt : am_vm mX5_smellAt 5 2 := ⟨⟨am_in 5 234 (by decide +kernel) rfl, am_in 1 11 (by decide +kernel) rfl, ⟨by decide +kernel, by decide +kernel, by decide +kernel⟩, by decide⟩, am_in 5 232 (by decide +kernel) rfl, am_in 5 233 (by decide +kernel) rfl, (RX5, TX5, 8), rfl, rfl⟩
abbrev mX5_windows : am_M := (yX5_windows, cX5_windows, 1, (some .int))
theorem vm_X5_windows : am_vm mX5_windows 5 0 := ⟨⟨am_in 5 238 (by decide +kernel) rfl, am_in 1 11 (by decide +kernel) rfl, ⟨by decide +kernel, by decide +kernel, by decide +kernel⟩, by decide⟩, am_in 5 237 (by decide +kernel) rfl, am_inP 31 (by decide +kernel) rfl, (RX5, TX5, 8), rfl, rfl⟩
abbrev mX5_scentOf : am_M := (yX5_scentOf, cX5_scentOf, 3, (some .int))
theorem sm_X5_scentOf : am_sm mX5_scentOf 1 := ⟨⟨am_in 6 1 (by decide +kernel) rfl, am_in 1 11 (by decide +kernel) rfl, ⟨by decide +kernel, by decide +kernel, by decide +kernel⟩, by decide⟩, am_in 6 0 (by decide +kernel) rfl⟩
abbrev mX5_isRight : am_M := (yX5_isRight, cX5_isRight, 3, (some .boolean))
theorem vm_X5_isRight : am_vm mX5_isRight 5 2 := ⟨⟨am_in 6 25 (by decide +kernel) rfl, am_in 1 11 (by decide +kernel) rfl, ⟨by decide +kernel, by decide +kernel, by decide +kernel⟩, by decide⟩, am_in 6 24 (by decide +kernel) rfl, am_inP 34 (by decide +kernel) rfl, (RX5, TX5, 8), rfl, rfl⟩
abbrev mX5_windowBehind : am_M := (yX5_windowBehind, cX5_windowBehind, 3, (some .int))
theorem vm_X5_windowBehind : am_vm mX5_windowBehind 5 2 := ⟨⟨am_in 6 21 (by decide +kernel) rfl, am_in 1 11 (by decide +kernel) rfl, ⟨by decide +kernel, by decide +kernel, by decide +kernel⟩, by decide⟩, am_in 6 20 (by decide +kernel) rfl, am_inP 33 (by decide +kernel) rfl, (RX5, TX5, 8), rfl, rfl⟩
abbrev mX5_waysBy : am_M := (yX5_waysBy, cX5_waysBy, 3, (some .int))
theorem vm_X5_waysBy : am_vm mX5_waysBy 5 2 := ⟨⟨am_in 6 33 (by decide +kernel) rfl, am_in 1 11 (by decide +kernel) rfl, ⟨by decide +kernel, by decide +kernel, by decide +kernel⟩, by decide⟩, am_in 6 32 (by decide +kernel) rfl, am_inP 36 (by decide +kernel) rfl, (RX5, TX5, 8), rfl, rfl⟩
abbrev mX5_weigh : am_M := (yX5_weigh, cX5_weigh, 3, none)
theorem vm_X5_weigh : am_vm mX5_weigh 5 0 := ⟨⟨am_in 6 13 (by decide +kernel) rfl, am_in 1 11 (by decide +kernel) rfl, ⟨by decide +kernel, by decide +kernel, by decide +kernel⟩, by decide⟩, am_in 6 11 (by decide +kernel) rfl, am_in 6 12 (by decide +kernel) rfl, (RX5, TX5, 8), rfl, rfl⟩
abbrev mX5_weighTo : am_M := (yX5_weighTo, cX5_weighTo, 6, none)
theorem vm_X5_weighTo : am_vm mX5_weighTo 5 2 := ⟨⟨am_in 6 17 (by decide +kernel) rfl, am_in 1 11 (by decide +kernel) rfl, ⟨by decide +kernel, by decide +kernel, by decide +kernel⟩, by decide⟩, am_in 6 16 (by decide +kernel) rfl, am_inP 32 (by decide +kernel) rfl, (RX5, TX5, 8), rfl, rfl⟩
abbrev mX5_weighOn : am_M := (yX5_weighOn, cX5_weighOn, 6, none)
theorem vm_X5_weighOn : am_vm mX5_weighOn 5 2 := ⟨⟨am_in 6 29 (by decide +kernel) rfl, am_in 1 11 (by decide +kernel) rfl, ⟨by decide +kernel, by decide +kernel, by decide +kernel⟩, by decide⟩, am_in 6 28 (by decide +kernel) rfl, am_inP 35 (by decide +kernel) rfl, (RX5, TX5, 8), rfl, rfl⟩
abbrev mX5_firstSet : am_M := (yX5_firstSet, cX5_firstSet, 4, (some .int))
theorem vm_X5_firstSet : am_vm mX5_firstSet 5 0 := ⟨⟨am_in 6 37 (by decide +kernel) rfl, am_in 1 11 (by decide +kernel) rfl, ⟨by decide +kernel, by decide +kernel, by decide +kernel⟩, by decide⟩, am_in 6 35 (by decide +kernel) rfl, am_in 6 36 (by decide +kernel) rfl, (RX5, TX5, 8), rfl, rfl⟩
abbrev mX5_leastWindow : am_M := (yX5_leastWindow, cX5_leastWindow, 2, (some .int))
theorem vm_X5_leastWindow : am_vm mX5_leastWindow 5 0 := ⟨⟨am_in 6 41 (by decide +kernel) rfl, am_in 1 11 (by decide +kernel) rfl, ⟨by decide +kernel, by decide +kernel, by decide +kernel⟩, by decide⟩, am_in 6 40 (by decide +kernel) rfl, am_inP 37 (by decide +kernel) rfl, (RX5, TX5, 8), rfl, rfl⟩
abbrev mX5_setsWith : am_M := (yX5_setsWith, cX5_setsWith, 4, (some .int))
theorem vm_X5_setsWith : am_vm mX5_setsWith 5 1 := ⟨⟨am_in 6 53 (by decide +kernel) rfl, am_in 1 11 (by decide +kernel) rfl, ⟨by decide +kernel, by decide +kernel, by decide +kernel⟩, by decide⟩, am_in 6 52 (by decide +kernel) rfl, am_inP 39 (by decide +kernel) rfl, (RX5, TX5, 8), rfl, rfl⟩
abbrev mX5_boardsInAll : am_M := (yX5_boardsInAll, cX5_boardsInAll, 1, (some .int))
theorem vm_X5_boardsInAll : am_vm mX5_boardsInAll 5 0 := ⟨⟨am_in 6 45 (by decide +kernel) rfl, am_in 1 11 (by decide +kernel) rfl, ⟨by decide +kernel, by decide +kernel, by decide +kernel⟩, by decide⟩, am_in 6 43 (by decide +kernel) rfl, am_in 6 44 (by decide +kernel) rfl, (RX5, TX5, 8), rfl, rfl⟩
abbrev mX5_boardsInNone : am_M := (yX5_boardsInNone, cX5_boardsInNone, 1, (some .int))
theorem vm_X5_boardsInNone : am_vm mX5_boardsInNone 5 0 := ⟨⟨am_in 6 57 (by decide +kernel) rfl, am_in 1 11 (by decide +kernel) rfl, ⟨by decide +kernel, by decide +kernel, by decide +kernel⟩, by decide⟩, am_in 6 55 (by decide +kernel) rfl, am_in 6 56 (by decide +kernel) rfl, (RX5, TX5, 8), rfl, rfl⟩
abbrev mX5_boardsIn : am_M := (yX5_boardsIn, cX5_boardsIn, 4, (some .int))
theorem vm_X5_boardsIn : am_vm mX5_boardsIn 5 1 := ⟨⟨am_in 6 49 (by decide +kernel) rfl, am_in 1 11 (by decide +kernel) rfl, ⟨by decide +kernel, by decide +kernel, by decide +kernel⟩, by decide⟩, am_in 6 48 (by decide +kernel) rfl, am_inP 38 (by decide +kernel) rfl, (RX5, TX5, 8), rfl, rfl⟩
abbrev mX5_mostLeftBy : am_M := (yX5_mostLeftBy, cX5_mostLeftBy, 5, (some .int))
theorem vm_X5_mostLeftBy : am_vm mX5_mostLeftBy 5 1 := ⟨⟨am_in 6 72 (by decide +kernel) rfl, am_in 1 11 (by decide +kernel) rfl, ⟨by decide +kernel, by decide +kernel, by decide +kernel⟩, by decide⟩, am_in 6 70 (by decide +kernel) rfl, am_in 6 71 (by decide +kernel) rfl, (RX5, TX5, 8), rfl, rfl⟩
abbrev mX6_init : am_M := (yX6_init, cX6_init, 4, none)
theorem im_X6_init : am_im mX6_init 3 := ⟨⟨am_in 2 30 (by decide +kernel) rfl, am_in 1 9 (by decide +kernel) rfl, ⟨by decide +kernel, by decide +kernel, by decide +kernel⟩, by decide⟩, am_in 2 29 (by decide +kernel) rfl, rfl⟩
abbrev mX6_forget : am_M := (yX6_forget, cX6_forget, 1, none)
theorem vm_X6_forget : am_vm mX6_forget 6 0 := ⟨⟨am_in 2 233 (by decide +kernel) rfl, am_in 1 9 (by decide +kernel) rfl, ⟨by decide +kernel, by decide +kernel, by decide +kernel⟩, by decide⟩, am_in 2 231 (by decide +kernel) rfl, am_in 2 232 (by decide +kernel) rfl, (RX6, TX6, 11), rfl, rfl⟩
abbrev mX6_dueIn : am_M := (yX6_dueIn, cX6_dueIn, 2, (some .int))
theorem vm_X6_dueIn : am_vm mX6_dueIn 6 1 := ⟨⟨am_in 5 16 (by decide +kernel) rfl, am_in 1 9 (by decide +kernel) rfl, ⟨by decide +kernel, by decide +kernel, by decide +kernel⟩, by decide⟩, am_in 5 15 (by decide +kernel) rfl, am_inP 22 (by decide +kernel) rfl, (RX6, TX6, 11), rfl, rfl⟩
abbrev mX6_openIn : am_M := (yX6_openIn, cX6_openIn, 2, (some .int))
theorem vm_X6_openIn : am_vm mX6_openIn 6 1 := ⟨⟨am_in 5 12 (by decide +kernel) rfl, am_in 1 9 (by decide +kernel) rfl, ⟨by decide +kernel, by decide +kernel, by decide +kernel⟩, by decide⟩, am_in 5 10 (by decide +kernel) rfl, am_in 5 11 (by decide +kernel) rfl, (RX6, TX6, 11), rfl, rfl⟩
abbrev mX6_sail : am_M := (yX6_sail, cX6_sail, 6, none)
theorem vm_X6_sail : am_vm mX6_sail 6 2 := ⟨⟨am_in 5 140 (by decide +kernel) rfl, am_in 1 9 (by decide +kernel) rfl, ⟨by decide +kernel, by decide +kernel, by decide +kernel⟩, by decide⟩, am_in 5 138 (by decide +kernel) rfl, am_in 5 139 (by decide +kernel) rfl, (RX6, TX6, 11), rfl, rfl⟩
abbrev mX6_mostKnockedAt : am_M := (yX6_mostKnockedAt, cX6_mostKnockedAt, 3, (some .int))
theorem vm_X6_mostKnockedAt : am_vm mX6_mostKnockedAt 6 0 := ⟨⟨am_in 5 148 (by decide +kernel) rfl, am_in 1 9 (by decide +kernel) rfl, ⟨by decide +kernel, by decide +kernel, by decide +kernel⟩, by decide⟩, am_in 5 146 (by decide +kernel) rfl, am_in 5 147 (by decide +kernel) rfl, (RX6, TX6, 11), rfl, rfl⟩
abbrev mX6_letPass : am_M := (yX6_letPass, cX6_letPass, 2, none)
theorem vm_X6_letPass : am_vm mX6_letPass 6 1 := ⟨⟨am_in 6 167 (by decide +kernel) rfl, am_in 1 9 (by decide +kernel) rfl, ⟨by decide +kernel, by decide +kernel, by decide +kernel⟩, by decide⟩, am_in 6 165 (by decide +kernel) rfl, am_in 6 166 (by decide +kernel) rfl, (RX6, TX6, 11), rfl, rfl⟩
abbrev mX6_freeze : am_M := (yX6_freeze, cX6_freeze, 7, none)
theorem vm_X6_freeze : am_vm mX6_freeze 6 3 := ⟨⟨am_in 6 171 (by decide +kernel) rfl, am_in 1 9 (by decide +kernel) rfl, ⟨by decide +kernel, by decide +kernel, by decide +kernel⟩, by decide⟩, am_in 6 169 (by decide +kernel) rfl, am_in 6 170 (by decide +kernel) rfl, (RX6, TX6, 11), rfl, rfl⟩
abbrev mX6_drawFrozen : am_M := (yX6_drawFrozen, cX6_drawFrozen, 5, (some .int))
theorem vm_X6_drawFrozen : am_vm mX6_drawFrozen 6 1 := ⟨⟨am_in 6 176 (by decide +kernel) rfl, am_in 1 9 (by decide +kernel) rfl, ⟨by decide +kernel, by decide +kernel, by decide +kernel⟩, by decide⟩, am_in 6 175 (by decide +kernel) rfl, am_inP 43 (by decide +kernel) rfl, (RX6, TX6, 11), rfl, rfl⟩
abbrev mX6_dueThen : am_M := (yX6_dueThen, cX6_dueThen, 6, (some .int))
theorem vm_X6_dueThen : am_vm mX6_dueThen 6 1 := ⟨⟨am_in 6 181 (by decide +kernel) rfl, am_in 1 9 (by decide +kernel) rfl, ⟨by decide +kernel, by decide +kernel, by decide +kernel⟩, by decide⟩, am_in 6 180 (by decide +kernel) rfl, am_inP 44 (by decide +kernel) rfl, (RX6, TX6, 11), rfl, rfl⟩
abbrev mX6_knocksSince : am_M := (yX6_knocksSince, cX6_knocksSince, 1, (some .int))
theorem vm_X6_knocksSince : am_vm mX6_knocksSince 6 0 := ⟨⟨am_in 6 205 (by decide +kernel) rfl, am_in 1 9 (by decide +kernel) rfl, ⟨by decide +kernel, by decide +kernel, by decide +kernel⟩, by decide⟩, am_in 6 203 (by decide +kernel) rfl, am_in 6 204 (by decide +kernel) rfl, (RX6, TX6, 11), rfl, rfl⟩
abbrev mX6_finesSince : am_M := (yX6_finesSince, cX6_finesSince, 1, (some .int))
theorem vm_X6_finesSince : am_vm mX6_finesSince 6 0 := ⟨⟨am_in 6 210 (by decide +kernel) rfl, am_in 1 9 (by decide +kernel) rfl, ⟨by decide +kernel, by decide +kernel, by decide +kernel⟩, by decide⟩, am_in 6 208 (by decide +kernel) rfl, am_in 6 209 (by decide +kernel) rfl, (RX6, TX6, 11), rfl, rfl⟩
abbrev mX7_init : am_M := (yX7_init, cX7_init, 1, none)
theorem im_X7_init : am_im mX7_init 0 := ⟨⟨am_in 1 218 (by decide +kernel) rfl, am_in 1 7 (by decide +kernel) rfl, ⟨by decide +kernel, by decide +kernel, by decide +kernel⟩, by decide⟩, am_in 1 217 (by decide +kernel) rfl, rfl⟩
abbrev mX7_clear : am_M := (yX7_clear, cX7_clear, 1, none)
theorem vm_X7_clear : am_vm mX7_clear 7 0 := ⟨⟨am_in 4 38 (by decide +kernel) rfl, am_in 1 7 (by decide +kernel) rfl, ⟨by decide +kernel, by decide +kernel, by decide +kernel⟩, by decide⟩, am_in 4 36 (by decide +kernel) rfl, am_in 4 37 (by decide +kernel) rfl, (RX7, TX7, 4), rfl, rfl⟩
abbrev mX7_isFull : am_M := (yX7_isFull, cX7_isFull, 1, (some .boolean))
theorem vm_X7_isFull : am_vm mX7_isFull 7 0 := ⟨⟨am_in 4 97 (by decide +kernel) rfl, am_in 1 7 (by decide +kernel) rfl, ⟨by decide +kernel, by decide +kernel, by decide +kernel⟩, by decide⟩, am_in 4 95 (by decide +kernel) rfl, am_in 4 96 (by decide +kernel) rfl, (RX7, TX7, 4), rfl, rfl⟩
abbrev mX7_keep : am_M := (yX7_keep, cX7_keep, 2, none)
theorem vm_X7_keep : am_vm mX7_keep 7 1 := ⟨⟨am_in 4 122 (by decide +kernel) rfl, am_in 1 7 (by decide +kernel) rfl, ⟨by decide +kernel, by decide +kernel, by decide +kernel⟩, by decide⟩, am_in 4 120 (by decide +kernel) rfl, am_in 4 121 (by decide +kernel) rfl, (RX7, TX7, 4), rfl, rfl⟩
abbrev mX7_bringBack : am_M := (yX7_bringBack, cX7_bringBack, 2, none)
theorem vm_X7_bringBack : am_vm mX7_bringBack 7 1 := ⟨⟨am_in 2 222 (by decide +kernel) rfl, am_in 1 7 (by decide +kernel) rfl, ⟨by decide +kernel, by decide +kernel, by decide +kernel⟩, by decide⟩, am_in 2 220 (by decide +kernel) rfl, am_in 2 221 (by decide +kernel) rfl, (RX7, TX7, 4), rfl, rfl⟩
abbrev mX7_keepImage : am_M := (yX7_keepImage, cX7_keepImage, 3, (some .boolean))
theorem vm_X7_keepImage : am_vm mX7_keepImage 7 1 := ⟨⟨am_in 3 34 (by decide +kernel) rfl, am_in 1 7 (by decide +kernel) rfl, ⟨by decide +kernel, by decide +kernel, by decide +kernel⟩, by decide⟩, am_in 3 32 (by decide +kernel) rfl, am_in 3 33 (by decide +kernel) rfl, (RX7, TX7, 4), rfl, rfl⟩
abbrev mX7_bringBackImage : am_M := (yX7_bringBackImage, cX7_bringBackImage, 3, (some .boolean))
theorem vm_X7_bringBackImage : am_vm mX7_bringBackImage 7 1 := ⟨⟨am_in 3 47 (by decide +kernel) rfl, am_in 1 7 (by decide +kernel) rfl, ⟨by decide +kernel, by decide +kernel, by decide +kernel⟩, by decide⟩, am_in 3 45 (by decide +kernel) rfl, am_in 3 46 (by decide +kernel) rfl, (RX7, TX7, 4), rfl, rfl⟩
abbrev mX8_init : am_M := (yX8_init, cX8_init, 1, none)
theorem im_X8_init : am_im mX8_init 0 := ⟨⟨am_in 1 207 (by decide +kernel) rfl, am_in 1 6 (by decide +kernel) rfl, ⟨by decide +kernel, by decide +kernel, by decide +kernel⟩, by decide⟩, am_in 1 206 (by decide +kernel) rfl, rfl⟩
abbrev mX8_clear : am_M := (yX8_clear, cX8_clear, 1, none)
theorem vm_X8_clear : am_vm mX8_clear 8 0 := ⟨⟨am_in 4 33 (by decide +kernel) rfl, am_in 1 6 (by decide +kernel) rfl, ⟨by decide +kernel, by decide +kernel, by decide +kernel⟩, by decide⟩, am_in 4 31 (by decide +kernel) rfl, am_in 4 32 (by decide +kernel) rfl, (RX8, TX8, 1), rfl, rfl⟩
abbrev mX8_writeTo : am_M := (yX8_writeTo, cX8_writeTo, 3, none)
theorem vm_X8_writeTo : am_vm mX8_writeTo 8 2 := ⟨⟨am_in 3 39 (by decide +kernel) rfl, am_in 1 6 (by decide +kernel) rfl, ⟨by decide +kernel, by decide +kernel, by decide +kernel⟩, by decide⟩, am_in 3 37 (by decide +kernel) rfl, am_in 3 38 (by decide +kernel) rfl, (RX8, TX8, 1), rfl, rfl⟩
abbrev mX8_readFrom : am_M := (yX8_readFrom, cX8_readFrom, 3, none)
theorem vm_X8_readFrom : am_vm mX8_readFrom 8 2 := ⟨⟨am_in 2 226 (by decide +kernel) rfl, am_in 1 6 (by decide +kernel) rfl, ⟨by decide +kernel, by decide +kernel, by decide +kernel⟩, by decide⟩, am_in 2 224 (by decide +kernel) rfl, am_in 2 225 (by decide +kernel) rfl, (RX8, TX8, 1), rfl, rfl⟩
abbrev mX8_hour : am_M := (yX8_hour, cX8_hour, 1, (some .int))
theorem vm_X8_hour : am_vm mX8_hour 8 0 := ⟨⟨am_in 3 1 (by decide +kernel) rfl, am_in 1 6 (by decide +kernel) rfl, ⟨by decide +kernel, by decide +kernel, by decide +kernel⟩, by decide⟩, am_in 2 239 (by decide +kernel) rfl, am_in 3 0 (by decide +kernel) rfl, (RX8, TX8, 1), rfl, rfl⟩
abbrev mX8_addHour : am_M := (yX8_addHour, cX8_addHour, 1, none)
theorem vm_X8_addHour : am_vm mX8_addHour 8 0 := ⟨⟨am_in 4 203 (by decide +kernel) rfl, am_in 1 6 (by decide +kernel) rfl, ⟨by decide +kernel, by decide +kernel, by decide +kernel⟩, by decide⟩, am_in 4 201 (by decide +kernel) rfl, am_in 4 202 (by decide +kernel) rfl, (RX8, TX8, 1), rfl, rfl⟩
abbrev mX8_lifted : am_M := (yX8_lifted, cX8_lifted, 1, (some .int))
theorem vm_X8_lifted : am_vm mX8_lifted 8 0 := ⟨⟨am_in 4 149 (by decide +kernel) rfl, am_in 1 6 (by decide +kernel) rfl, ⟨by decide +kernel, by decide +kernel, by decide +kernel⟩, by decide⟩, am_in 4 147 (by decide +kernel) rfl, am_in 4 148 (by decide +kernel) rfl, (RX8, TX8, 1), rfl, rfl⟩
abbrev mX8_shut : am_M := (yX8_shut, cX8_shut, 1, (some .int))
theorem vm_X8_shut : am_vm mX8_shut 8 0 := ⟨⟨am_in 4 153 (by decide +kernel) rfl, am_in 1 6 (by decide +kernel) rfl, ⟨by decide +kernel, by decide +kernel, by decide +kernel⟩, by decide⟩, am_in 4 151 (by decide +kernel) rfl, am_in 4 152 (by decide +kernel) rfl, (RX8, TX8, 1), rfl, rfl⟩
abbrev mX8_modeOf : am_M := (yX8_modeOf, cX8_modeOf, 2, (some .int))
theorem vm_X8_modeOf : am_vm mX8_modeOf 8 1 := ⟨⟨am_in 4 210 (by decide +kernel) rfl, am_in 1 6 (by decide +kernel) rfl, ⟨by decide +kernel, by decide +kernel, by decide +kernel⟩, by decide⟩, am_in 4 208 (by decide +kernel) rfl, am_in 4 209 (by decide +kernel) rfl, (RX8, TX8, 1), rfl, rfl⟩
abbrev mX8_setMode : am_M := (yX8_setMode, cX8_setMode, 4, none)
theorem vm_X8_setMode : am_vm mX8_setMode 8 2 := ⟨⟨am_in 4 217 (by decide +kernel) rfl, am_in 1 6 (by decide +kernel) rfl, ⟨by decide +kernel, by decide +kernel, by decide +kernel⟩, by decide⟩, am_in 4 215 (by decide +kernel) rfl, am_in 4 216 (by decide +kernel) rfl, (RX8, TX8, 1), rfl, rfl⟩
abbrev mX8_finesOf : am_M := (yX8_finesOf, cX8_finesOf, 2, (some .int))
theorem vm_X8_finesOf : am_vm mX8_finesOf 8 1 := ⟨⟨am_in 3 9 (by decide +kernel) rfl, am_in 1 6 (by decide +kernel) rfl, ⟨by decide +kernel, by decide +kernel, by decide +kernel⟩, by decide⟩, am_in 3 7 (by decide +kernel) rfl, am_in 3 8 (by decide +kernel) rfl, (RX8, TX8, 1), rfl, rfl⟩
abbrev mX8_fine : am_M := (yX8_fine, cX8_fine, 3, none)
theorem vm_X8_fine : am_vm mX8_fine 8 1 := ⟨⟨am_in 4 157 (by decide +kernel) rfl, am_in 1 6 (by decide +kernel) rfl, ⟨by decide +kernel, by decide +kernel, by decide +kernel⟩, by decide⟩, am_in 4 155 (by decide +kernel) rfl, am_in 4 156 (by decide +kernel) rfl, (RX8, TX8, 1), rfl, rfl⟩
abbrev mX8_knocksAt : am_M := (yX8_knocksAt, cX8_knocksAt, 2, (some .int))
theorem vm_X8_knocksAt : am_vm mX8_knocksAt 8 1 := ⟨⟨am_in 5 74 (by decide +kernel) rfl, am_in 1 6 (by decide +kernel) rfl, ⟨by decide +kernel, by decide +kernel, by decide +kernel⟩, by decide⟩, am_in 5 72 (by decide +kernel) rfl, am_in 5 73 (by decide +kernel) rfl, (RX8, TX8, 1), rfl, rfl⟩
abbrev mX8_knock : am_M := (yX8_knock, cX8_knock, 2, none)
theorem vm_X8_knock : am_vm mX8_knock 8 1 := ⟨⟨am_in 4 194 (by decide +kernel) rfl, am_in 1 6 (by decide +kernel) rfl, ⟨by decide +kernel, by decide +kernel, by decide +kernel⟩, by decide⟩, am_in 4 192 (by decide +kernel) rfl, am_in 4 193 (by decide +kernel) rfl, (RX8, TX8, 1), rfl, rfl⟩
abbrev mX8_whereIs : am_M := (yX8_whereIs, cX8_whereIs, 2, (some .int))
theorem vm_X8_whereIs : am_vm mX8_whereIs 8 1 := ⟨⟨am_in 4 161 (by decide +kernel) rfl, am_in 1 6 (by decide +kernel) rfl, ⟨by decide +kernel, by decide +kernel, by decide +kernel⟩, by decide⟩, am_in 4 159 (by decide +kernel) rfl, am_in 4 160 (by decide +kernel) rfl, (RX8, TX8, 1), rfl, rfl⟩
abbrev mX8_passedBy : am_M := (yX8_passedBy, cX8_passedBy, 2, (some .int))
theorem vm_X8_passedBy : am_vm mX8_passedBy 8 1 := ⟨⟨am_in 4 170 (by decide +kernel) rfl, am_in 1 6 (by decide +kernel) rfl, ⟨by decide +kernel, by decide +kernel, by decide +kernel⟩, by decide⟩, am_in 4 168 (by decide +kernel) rfl, am_in 4 169 (by decide +kernel) rfl, (RX8, TX8, 1), rfl, rfl⟩
abbrev mX8_throughHour : am_M := (yX8_throughHour, cX8_throughHour, 2, (some .int))
theorem vm_X8_throughHour : am_vm mX8_throughHour 8 1 := ⟨⟨am_in 5 87 (by decide +kernel) rfl, am_in 1 6 (by decide +kernel) rfl, ⟨by decide +kernel, by decide +kernel, by decide +kernel⟩, by decide⟩, am_in 5 85 (by decide +kernel) rfl, am_in 5 86 (by decide +kernel) rfl, (RX8, TX8, 1), rfl, rfl⟩
abbrev mX8_come : am_M := (yX8_come, cX8_come, 2, none)
theorem vm_X8_come : am_vm mX8_come 8 1 := ⟨⟨am_in 4 166 (by decide +kernel) rfl, am_in 1 6 (by decide +kernel) rfl, ⟨by decide +kernel, by decide +kernel, by decide +kernel⟩, by decide⟩, am_in 4 164 (by decide +kernel) rfl, am_in 4 165 (by decide +kernel) rfl, (RX8, TX8, 1), rfl, rfl⟩
abbrev mX8_pass : am_M := (yX8_pass, cX8_pass, 3, none)
theorem vm_X8_pass : am_vm mX8_pass 8 2 := ⟨⟨am_in 4 186 (by decide +kernel) rfl, am_in 1 6 (by decide +kernel) rfl, ⟨by decide +kernel, by decide +kernel, by decide +kernel⟩, by decide⟩, am_in 4 184 (by decide +kernel) rfl, am_in 4 185 (by decide +kernel) rfl, (RX8, TX8, 1), rfl, rfl⟩
abbrev mX8_leave : am_M := (yX8_leave, cX8_leave, 2, none)
theorem vm_X8_leave : am_vm mX8_leave 8 1 := ⟨⟨am_in 4 198 (by decide +kernel) rfl, am_in 1 6 (by decide +kernel) rfl, ⟨by decide +kernel, by decide +kernel, by decide +kernel⟩, by decide⟩, am_in 4 196 (by decide +kernel) rfl, am_in 4 197 (by decide +kernel) rfl, (RX8, TX8, 1), rfl, rfl⟩
abbrev mX8_allFines : am_M := (yX8_allFines, cX8_allFines, 1, (some .int))
theorem vm_X8_allFines : am_vm mX8_allFines 8 0 := ⟨⟨am_in 5 23 (by decide +kernel) rfl, am_in 1 6 (by decide +kernel) rfl, ⟨by decide +kernel, by decide +kernel, by decide +kernel⟩, by decide⟩, am_in 5 21 (by decide +kernel) rfl, am_in 5 22 (by decide +kernel) rfl, (RX8, TX8, 1), rfl, rfl⟩
abbrev mX8_allKnocks : am_M := (yX8_allKnocks, cX8_allKnocks, 1, (some .int))
theorem vm_X8_allKnocks : am_vm mX8_allKnocks 8 0 := ⟨⟨am_in 5 31 (by decide +kernel) rfl, am_in 1 6 (by decide +kernel) rfl, ⟨by decide +kernel, by decide +kernel, by decide +kernel⟩, by decide⟩, am_in 5 29 (by decide +kernel) rfl, am_in 5 30 (by decide +kernel) rfl, (RX8, TX8, 1), rfl, rfl⟩
abbrev mX8_sumOfBoards : am_M := (yX8_sumOfBoards, cX8_sumOfBoards, 4, (some .int))
theorem vm_X8_sumOfBoards : am_vm mX8_sumOfBoards 8 1 := ⟨⟨am_in 5 27 (by decide +kernel) rfl, am_in 1 6 (by decide +kernel) rfl, ⟨by decide +kernel, by decide +kernel, by decide +kernel⟩, by decide⟩, am_in 5 26 (by decide +kernel) rfl, am_inP 23 (by decide +kernel) rfl, (RX8, TX8, 1), rfl, rfl⟩
abbrev mX8_bargesThrough : am_M := (yX8_bargesThrough, cX8_bargesThrough, 3, (some .int))
theorem vm_X8_bargesThrough : am_vm mX8_bargesThrough 8 0 := ⟨⟨am_in 5 35 (by decide +kernel) rfl, am_in 1 6 (by decide +kernel) rfl, ⟨by decide +kernel, by decide +kernel, by decide +kernel⟩, by decide⟩, am_in 5 33 (by decide +kernel) rfl, am_in 5 34 (by decide +kernel) rfl, (RX8, TX8, 1), rfl, rfl⟩
abbrev mX9_init : am_M := (yX9_init, cX9_init, 1, none)
theorem im_X9_init : am_im mX9_init 0 := ⟨⟨am_in 2 1 (by decide +kernel) rfl, am_in 1 8 (by decide +kernel) rfl, ⟨by decide +kernel, by decide +kernel, by decide +kernel⟩, by decide⟩, am_in 2 0 (by decide +kernel) rfl, rfl⟩
abbrev mX9_read : am_M := (yX9_read, cX9_read, 3, none)
theorem vm_X9_read : am_vm mX9_read 9 2 := ⟨⟨am_in 4 101 (by decide +kernel) rfl, am_in 1 8 (by decide +kernel) rfl, ⟨by decide +kernel, by decide +kernel, by decide +kernel⟩, by decide⟩, am_in 4 99 (by decide +kernel) rfl, am_in 4 100 (by decide +kernel) rfl, (RX9, TX9, 7), rfl, rfl⟩
abbrev mX9_readRow : am_M := (yX9_readRow, cX9_readRow, 6, none)
theorem vm_X9_readRow : am_vm mX9_readRow 9 3 := ⟨⟨am_in 4 105 (by decide +kernel) rfl, am_in 1 8 (by decide +kernel) rfl, ⟨by decide +kernel, by decide +kernel, by decide +kernel⟩, by decide⟩, am_in 4 104 (by decide +kernel) rfl, am_inP 16 (by decide +kernel) rfl, (RX9, TX9, 7), rfl, rfl⟩
abbrev mX9_readStep : am_M := (yX9_readStep, cX9_readStep, 7, none)
theorem vm_X9_readStep : am_vm mX9_readStep 9 3 := ⟨⟨am_in 4 112 (by decide +kernel) rfl, am_in 1 8 (by decide +kernel) rfl, ⟨by decide +kernel, by decide +kernel, by decide +kernel⟩, by decide⟩, am_in 4 111 (by decide +kernel) rfl, am_inP 17 (by decide +kernel) rfl, (RX9, TX9, 7), rfl, rfl⟩
abbrev mX9_run : am_M := (yX9_run, cX9_run, 3, (some .int))
theorem vm_X9_run : am_vm mX9_run 9 2 := ⟨⟨am_in 4 127 (by decide +kernel) rfl, am_in 1 8 (by decide +kernel) rfl, ⟨by decide +kernel, by decide +kernel, by decide +kernel⟩, by decide⟩, am_in 4 125 (by decide +kernel) rfl, am_in 4 126 (by decide +kernel) rfl, (RX9, TX9, 7), rfl, rfl⟩
abbrev mX9_runRow : am_M := (yX9_runRow, cX9_runRow, 7, none)
theorem vm_X9_runRow : am_vm mX9_runRow 9 4 := ⟨⟨am_in 4 131 (by decide +kernel) rfl, am_in 1 8 (by decide +kernel) rfl, ⟨by decide +kernel, by decide +kernel, by decide +kernel⟩, by decide⟩, am_in 4 130 (by decide +kernel) rfl, am_inP 18 (by decide +kernel) rfl, (RX9, TX9, 7), rfl, rfl⟩
abbrev mX9_isDone : am_M := (yX9_isDone, cX9_isDone, 5, (some .boolean))
theorem vm_X9_isDone : am_vm mX9_isDone 9 3 := ⟨⟨am_in 4 135 (by decide +kernel) rfl, am_in 1 8 (by decide +kernel) rfl, ⟨by decide +kernel, by decide +kernel, by decide +kernel⟩, by decide⟩, am_in 4 134 (by decide +kernel) rfl, am_inP 19 (by decide +kernel) rfl, (RX9, TX9, 7), rfl, rfl⟩
abbrev mX9_modeBy : am_M := (yX9_modeBy, cX9_modeBy, 1, (some .int))
theorem sm_X9_modeBy : am_sm mX9_modeBy 1 := ⟨⟨am_in 4 206 (by decide +kernel) rfl, am_in 1 8 (by decide +kernel) rfl, ⟨by decide +kernel, by decide +kernel, by decide +kernel⟩, by decide⟩, am_in 4 205 (by decide +kernel) rfl⟩
abbrev mX10_init : am_M := (yX10_init, cX10_init, 1, none)
theorem im_X10_init : am_im mX10_init 0 := ⟨⟨am_in 1 39 (by decide +kernel) rfl, am_in 1 2 (by decide +kernel) rfl, ⟨by decide +kernel, by decide +kernel, by decide +kernel⟩, by decide⟩, am_in 1 38 (by decide +kernel) rfl, rfl⟩
abbrev mX10_size : am_M := (yX10_size, cX10_size, 1, (some .int))
theorem vm_X10_size : am_vm mX10_size 10 0 := ⟨⟨am_in 2 210 (by decide +kernel) rfl, am_in 1 2 (by decide +kernel) rfl, ⟨by decide +kernel, by decide +kernel, by decide +kernel⟩, by decide⟩, am_in 2 208 (by decide +kernel) rfl, am_in 2 209 (by decide +kernel) rfl, (RX10, TX10, 7), rfl, rfl⟩
abbrev mX10_hasRoom : am_M := (yX10_hasRoom, cX10_hasRoom, 2, (some .boolean))
theorem vm_X10_hasRoom : am_vm mX10_hasRoom 10 1 := ⟨⟨am_in 2 202 (by decide +kernel) rfl, am_in 1 2 (by decide +kernel) rfl, ⟨by decide +kernel, by decide +kernel, by decide +kernel⟩, by decide⟩, am_in 2 200 (by decide +kernel) rfl, am_in 2 201 (by decide +kernel) rfl, (RX10, TX10, 7), rfl, rfl⟩
abbrev mX10_put : am_M := (yX10_put, cX10_put, 3, none)
theorem vm_X10_put : am_vm mX10_put 10 1 := ⟨⟨am_in 2 206 (by decide +kernel) rfl, am_in 1 2 (by decide +kernel) rfl, ⟨by decide +kernel, by decide +kernel, by decide +kernel⟩, by decide⟩, am_in 2 204 (by decide +kernel) rfl, am_in 2 205 (by decide +kernel) rfl, (RX10, TX10, 7), rfl, rfl⟩
abbrev mX10_take : am_M := (yX10_take, cX10_take, 2, none)
theorem vm_X10_take : am_vm mX10_take 10 1 := ⟨⟨am_in 3 144 (by decide +kernel) rfl, am_in 1 2 (by decide +kernel) rfl, ⟨by decide +kernel, by decide +kernel, by decide +kernel⟩, by decide⟩, am_in 3 142 (by decide +kernel) rfl, am_in 3 143 (by decide +kernel) rfl, (RX10, TX10, 7), rfl, rfl⟩
abbrev mX10_isFaulty : am_M := (yX10_isFaulty, cX10_isFaulty, 1, (some .boolean))
theorem vm_X10_isFaulty : am_vm mX10_isFaulty 10 0 := ⟨⟨am_in 3 154 (by decide +kernel) rfl, am_in 1 2 (by decide +kernel) rfl, ⟨by decide +kernel, by decide +kernel, by decide +kernel⟩, by decide⟩, am_in 3 152 (by decide +kernel) rfl, am_in 3 153 (by decide +kernel) rfl, (RX10, TX10, 7), rfl, rfl⟩
abbrev mX10_faultAnswer : am_M := (yX10_faultAnswer, cX10_faultAnswer, 1, (some .int))
theorem vm_X10_faultAnswer : am_vm mX10_faultAnswer 10 0 := ⟨⟨am_in 4 22 (by decide +kernel) rfl, am_in 1 2 (by decide +kernel) rfl, ⟨by decide +kernel, by decide +kernel, by decide +kernel⟩, by decide⟩, am_in 4 20 (by decide +kernel) rfl, am_in 4 21 (by decide +kernel) rfl, (RX10, TX10, 7), rfl, rfl⟩
abbrev mX10_blame : am_M := (yX10_blame, cX10_blame, 3, none)
theorem vm_X10_blame : am_vm mX10_blame 10 2 := ⟨⟨am_in 3 223 (by decide +kernel) rfl, am_in 1 2 (by decide +kernel) rfl, ⟨by decide +kernel, by decide +kernel, by decide +kernel⟩, by decide⟩, am_in 3 222 (by decide +kernel) rfl, am_inP 7 (by decide +kernel) rfl, (RX10, TX10, 7), rfl, rfl⟩
abbrev mX10_blameToken : am_M := (yX10_blameToken, cX10_blameToken, 2, none)
theorem vm_X10_blameToken : am_vm mX10_blameToken 10 1 := ⟨⟨am_in 3 228 (by decide +kernel) rfl, am_in 1 2 (by decide +kernel) rfl, ⟨by decide +kernel, by decide +kernel, by decide +kernel⟩, by decide⟩, am_in 3 226 (by decide +kernel) rfl, am_in 3 227 (by decide +kernel) rfl, (RX10, TX10, 7), rfl, rfl⟩
abbrev mX10_next : am_M := (yX10_next, cX10_next, 1, (some .int))
theorem vm_X10_next : am_vm mX10_next 10 0 := ⟨⟨am_in 3 162 (by decide +kernel) rfl, am_in 1 2 (by decide +kernel) rfl, ⟨by decide +kernel, by decide +kernel, by decide +kernel⟩, by decide⟩, am_in 3 160 (by decide +kernel) rfl, am_in 3 161 (by decide +kernel) rfl, (RX10, TX10, 7), rfl, rfl⟩
abbrev mX10_isAtEnd : am_M := (yX10_isAtEnd, cX10_isAtEnd, 1, (some .boolean))
theorem vm_X10_isAtEnd : am_vm mX10_isAtEnd 10 0 := ⟨⟨am_in 3 158 (by decide +kernel) rfl, am_in 1 2 (by decide +kernel) rfl, ⟨by decide +kernel, by decide +kernel, by decide +kernel⟩, by decide⟩, am_in 3 156 (by decide +kernel) rfl, am_in 3 157 (by decide +kernel) rfl, (RX10, TX10, 7), rfl, rfl⟩
abbrev mX10_expectEnd : am_M := (yX10_expectEnd, cX10_expectEnd, 1, none)
theorem vm_X10_expectEnd : am_vm mX10_expectEnd 10 0 := ⟨⟨am_in 4 85 (by decide +kernel) rfl, am_in 1 2 (by decide +kernel) rfl, ⟨by decide +kernel, by decide +kernel, by decide +kernel⟩, by decide⟩, am_in 4 83 (by decide +kernel) rfl, am_in 4 84 (by decide +kernel) rfl, (RX10, TX10, 7), rfl, rfl⟩
abbrev mX10_expect : am_M := (yX10_expect, cX10_expect, 2, none)
theorem vm_X10_expect : am_vm mX10_expect 10 1 := ⟨⟨am_in 4 17 (by decide +kernel) rfl, am_in 1 2 (by decide +kernel) rfl, ⟨by decide +kernel, by decide +kernel, by decide +kernel⟩, by decide⟩, am_in 4 15 (by decide +kernel) rfl, am_in 4 16 (by decide +kernel) rfl, (RX10, TX10, 7), rfl, rfl⟩
abbrev mX10_takeOneOf : am_M := (yX10_takeOneOf, cX10_takeOneOf, 4, (some .int))
theorem vm_X10_takeOneOf : am_vm mX10_takeOneOf 10 1 := ⟨⟨am_in 4 71 (by decide +kernel) rfl, am_in 1 2 (by decide +kernel) rfl, ⟨by decide +kernel, by decide +kernel, by decide +kernel⟩, by decide⟩, am_in 4 69 (by decide +kernel) rfl, am_in 4 70 (by decide +kernel) rfl, (RX10, TX10, 7), rfl, rfl⟩
abbrev mX10_isAtDigit : am_M := (yX10_isAtDigit, cX10_isAtDigit, 2, (some .boolean))
theorem vm_X10_isAtDigit : am_vm mX10_isAtDigit 10 0 := ⟨⟨am_in 4 65 (by decide +kernel) rfl, am_in 1 2 (by decide +kernel) rfl, ⟨by decide +kernel, by decide +kernel, by decide +kernel⟩, by decide⟩, am_in 4 63 (by decide +kernel) rfl, am_in 4 64 (by decide +kernel) rfl, (RX10, TX10, 7), rfl, rfl⟩
abbrev mX10_number : am_M := (yX10_number, cX10_number, 4, (some .int))
theorem vm_X10_number : am_vm mX10_number 10 2 := ⟨⟨am_in 4 0 (by decide +kernel) rfl, am_in 1 2 (by decide +kernel) rfl, ⟨by decide +kernel, by decide +kernel, by decide +kernel⟩, by decide⟩, am_in 3 238 (by decide +kernel) rfl, am_in 3 239 (by decide +kernel) rfl, (RX10, TX10, 7), rfl, rfl⟩
abbrev mX10_word : am_M := (yX10_word, cX10_word, 3, (some .int))
theorem vm_X10_word : am_vm mX10_word 10 1 := ⟨⟨am_in 3 167 (by decide +kernel) rfl, am_in 1 2 (by decide +kernel) rfl, ⟨by decide +kernel, by decide +kernel, by decide +kernel⟩, by decide⟩, am_in 3 165 (by decide +kernel) rfl, am_in 3 166 (by decide +kernel) rfl, (RX10, TX10, 7), rfl, rfl⟩
abbrev mX10_whichName : am_M := (yX10_whichName, cX10_whichName, 6, (some .int))
theorem vm_X10_whichName : am_vm mX10_whichName 10 1 := ⟨⟨am_in 3 171 (by decide +kernel) rfl, am_in 1 2 (by decide +kernel) rfl, ⟨by decide +kernel, by decide +kernel, by decide +kernel⟩, by decide⟩, am_in 3 170 (by decide +kernel) rfl, am_inP 6 (by decide +kernel) rfl, (RX10, TX10, 7), rfl, rfl⟩
abbrev mX11_init : am_M := (yX11_init, cX11_init, 1, none)
theorem im_X11_init : am_im mX11_init 0 := ⟨⟨am_in 1 31 (by decide +kernel) rfl, am_in 1 1 (by decide +kernel) rfl, ⟨by decide +kernel, by decide +kernel, by decide +kernel⟩, by decide⟩, am_in 1 30 (by decide +kernel) rfl, rfl⟩
abbrev mX11_feed : am_M := (yX11_feed, cX11_feed, 6, (some .int))
theorem vm_X11_feed : am_vm mX11_feed 11 5 := ⟨⟨am_in 2 198 (by decide +kernel) rfl, am_in 1 1 (by decide +kernel) rfl, ⟨by decide +kernel, by decide +kernel, by decide +kernel⟩, by decide⟩, am_in 2 196 (by decide +kernel) rfl, am_in 2 197 (by decide +kernel) rfl, (RX11, TX11, 15), rfl, rfl⟩
abbrev mX11_river : am_M := (yX11_river, cX11_river, 2, (some .int))
theorem vm_X11_river : am_vm mX11_river 11 1 := ⟨⟨am_in 3 63 (by decide +kernel) rfl, am_in 1 1 (by decide +kernel) rfl, ⟨by decide +kernel, by decide +kernel, by decide +kernel⟩, by decide⟩, am_in 3 61 (by decide +kernel) rfl, am_in 3 62 (by decide +kernel) rfl, (RX11, TX11, 15), rfl, rfl⟩
abbrev mX11_law : am_M := (yX11_law, cX11_law, 2, (some .int))
theorem vm_X11_law : am_vm mX11_law 11 1 := ⟨⟨am_in 4 45 (by decide +kernel) rfl, am_in 1 1 (by decide +kernel) rfl, ⟨by decide +kernel, by decide +kernel, by decide +kernel⟩, by decide⟩, am_in 4 43 (by decide +kernel) rfl, am_in 4 44 (by decide +kernel) rfl, (RX11, TX11, 15), rfl, rfl⟩
abbrev mX11_work : am_M := (yX11_work, cX11_work, 3, (some .int))
theorem vm_X11_work : am_vm mX11_work 11 1 := ⟨⟨am_in 4 93 (by decide +kernel) rfl, am_in 1 1 (by decide +kernel) rfl, ⟨by decide +kernel, by decide +kernel, by decide +kernel⟩, by decide⟩, am_in 4 91 (by decide +kernel) rfl, am_in 4 92 (by decide +kernel) rfl, (RX11, TX11, 15), rfl, rfl⟩
abbrev mX11_book : am_M := (yX11_book, cX11_book, 2, (some .int))
theorem vm_X11_book : am_vm mX11_book 11 1 := ⟨⟨am_in 4 224 (by decide +kernel) rfl, am_in 1 1 (by decide +kernel) rfl, ⟨by decide +kernel, by decide +kernel, by decide +kernel⟩, by decide⟩, am_in 4 222 (by decide +kernel) rfl, am_in 4 223 (by decide +kernel) rfl, (RX11, TX11, 15), rfl, rfl⟩
abbrev mX11_fault : am_M := (yX11_fault, cX11_fault, 1, (some .int))
theorem vm_X11_fault : am_vm mX11_fault 11 0 := ⟨⟨am_in 2 214 (by decide +kernel) rfl, am_in 1 1 (by decide +kernel) rfl, ⟨by decide +kernel, by decide +kernel, by decide +kernel⟩, by decide⟩, am_in 2 212 (by decide +kernel) rfl, am_in 2 213 (by decide +kernel) rfl, (RX11, TX11, 15), rfl, rfl⟩
abbrev mX11_undo : am_M := (yX11_undo, cX11_undo, 1, (some .int))
theorem vm_X11_undo : am_vm mX11_undo 11 0 := ⟨⟨am_in 2 218 (by decide +kernel) rfl, am_in 1 1 (by decide +kernel) rfl, ⟨by decide +kernel, by decide +kernel, by decide +kernel⟩, by decide⟩, am_in 2 216 (by decide +kernel) rfl, am_in 2 217 (by decide +kernel) rfl, (RX11, TX11, 15), rfl, rfl⟩
abbrev mX11_told : am_M := (yX11_told, cX11_told, 2, (some .int))
theorem vm_X11_told : am_vm mX11_told 11 1 := ⟨⟨am_in 5 4 (by decide +kernel) rfl, am_in 1 1 (by decide +kernel) rfl, ⟨by decide +kernel, by decide +kernel, by decide +kernel⟩, by decide⟩, am_in 5 2 (by decide +kernel) rfl, am_in 5 3 (by decide +kernel) rfl, (RX11, TX11, 15), rfl, rfl⟩
abbrev mX11_board : am_M := (yX11_board, cX11_board, 3, (some .int))
theorem vm_X11_board : am_vm mX11_board 11 2 := ⟨⟨am_in 5 44 (by decide +kernel) rfl, am_in 1 1 (by decide +kernel) rfl, ⟨by decide +kernel, by decide +kernel, by decide +kernel⟩, by decide⟩, am_in 5 42 (by decide +kernel) rfl, am_in 5 43 (by decide +kernel) rfl, (RX11, TX11, 15), rfl, rfl⟩
abbrev mX11_barge : am_M := (yX11_barge, cX11_barge, 3, (some .int))
theorem vm_X11_barge : am_vm mX11_barge 11 2 := ⟨⟨am_in 5 81 (by decide +kernel) rfl, am_in 1 1 (by decide +kernel) rfl, ⟨by decide +kernel, by decide +kernel, by decide +kernel⟩, by decide⟩, am_in 5 79 (by decide +kernel) rfl, am_in 5 80 (by decide +kernel) rfl, (RX11, TX11, 15), rfl, rfl⟩
abbrev mX11_street : am_M := (yX11_street, cX11_street, 3, (some .int))
theorem vm_X11_street : am_vm mX11_street 11 2 := ⟨⟨am_in 5 94 (by decide +kernel) rfl, am_in 1 1 (by decide +kernel) rfl, ⟨by decide +kernel, by decide +kernel, by decide +kernel⟩, by decide⟩, am_in 5 92 (by decide +kernel) rfl, am_in 5 93 (by decide +kernel) rfl, (RX11, TX11, 15), rfl, rfl⟩
abbrev mX11_lawful : am_M := (yX11_lawful, cX11_lawful, 4, (some .boolean))
theorem vm_X11_lawful : am_vm mX11_lawful 11 3 := ⟨⟨am_in 5 106 (by decide +kernel) rfl, am_in 1 1 (by decide +kernel) rfl, ⟨by decide +kernel, by decide +kernel, by decide +kernel⟩, by decide⟩, am_in 5 104 (by decide +kernel) rfl, am_in 5 105 (by decide +kernel) rfl, (RX11, TX11, 15), rfl, rfl⟩
abbrev mX11_busiest : am_M := (yX11_busiest, cX11_busiest, 6, (some .int))
theorem vm_X11_busiest : am_vm mX11_busiest 11 0 := ⟨⟨am_in 2 237 (by decide +kernel) rfl, am_in 1 1 (by decide +kernel) rfl, ⟨by decide +kernel, by decide +kernel, by decide +kernel⟩, by decide⟩, am_in 2 235 (by decide +kernel) rfl, am_in 2 236 (by decide +kernel) rfl, (RX11, TX11, 15), rfl, rfl⟩
abbrev mX11_narrow : am_M := (yX11_narrow, cX11_narrow, 7, (some .int))
theorem vm_X11_narrow : am_vm mX11_narrow 11 2 := ⟨⟨am_in 6 145 (by decide +kernel) rfl, am_in 1 1 (by decide +kernel) rfl, ⟨by decide +kernel, by decide +kernel, by decide +kernel⟩, by decide⟩, am_in 6 143 (by decide +kernel) rfl, am_in 6 144 (by decide +kernel) rfl, (RX11, TX11, 15), rfl, rfl⟩
abbrev mX11_worst : am_M := (yX11_worst, cX11_worst, 6, (some .int))
theorem vm_X11_worst : am_vm mX11_worst 11 1 := ⟨⟨am_in 6 156 (by decide +kernel) rfl, am_in 1 1 (by decide +kernel) rfl, ⟨by decide +kernel, by decide +kernel, by decide +kernel⟩, by decide⟩, am_in 6 154 (by decide +kernel) rfl, am_in 6 155 (by decide +kernel) rfl, (RX11, TX11, 15), rfl, rfl⟩
abbrev mX11_opens : am_M := (yX11_opens, cX11_opens, 3, (some .int))
theorem vm_X11_opens : am_vm mX11_opens 11 1 := ⟨⟨am_in 5 117 (by decide +kernel) rfl, am_in 1 1 (by decide +kernel) rfl, ⟨by decide +kernel, by decide +kernel, by decide +kernel⟩, by decide⟩, am_in 5 115 (by decide +kernel) rfl, am_in 5 116 (by decide +kernel) rfl, (RX11, TX11, 15), rfl, rfl⟩
abbrev mX11_often : am_M := (yX11_often, cX11_often, 5, (some .int))
theorem vm_X11_often : am_vm mX11_often 11 2 := ⟨⟨am_in 5 125 (by decide +kernel) rfl, am_in 1 1 (by decide +kernel) rfl, ⟨by decide +kernel, by decide +kernel, by decide +kernel⟩, by decide⟩, am_in 5 123 (by decide +kernel) rfl, am_in 5 124 (by decide +kernel) rfl, (RX11, TX11, 15), rfl, rfl⟩
abbrev mX11_peak : am_M := (yX11_peak, cX11_peak, 6, (some .int))
theorem vm_X11_peak : am_vm mX11_peak 11 1 := ⟨⟨am_in 6 138 (by decide +kernel) rfl, am_in 1 1 (by decide +kernel) rfl, ⟨by decide +kernel, by decide +kernel, by decide +kernel⟩, by decide⟩, am_in 6 136 (by decide +kernel) rfl, am_in 6 137 (by decide +kernel) rfl, (RX11, TX11, 15), rfl, rfl⟩
abbrev mX11_trip : am_M := (yX11_trip, cX11_trip, 4, (some .int))
theorem vm_X11_trip : am_vm mX11_trip 11 3 := ⟨⟨am_in 5 132 (by decide +kernel) rfl, am_in 1 1 (by decide +kernel) rfl, ⟨by decide +kernel, by decide +kernel, by decide +kernel⟩, by decide⟩, am_in 5 130 (by decide +kernel) rfl, am_in 5 131 (by decide +kernel) rfl, (RX11, TX11, 15), rfl, rfl⟩
abbrev mX11_soonest : am_M := (yX11_soonest, cX11_soonest, 8, (some .int))
theorem vm_X11_soonest : am_vm mX11_soonest 11 3 := ⟨⟨am_in 5 155 (by decide +kernel) rfl, am_in 1 1 (by decide +kernel) rfl, ⟨by decide +kernel, by decide +kernel, by decide +kernel⟩, by decide⟩, am_in 5 153 (by decide +kernel) rfl, am_in 5 154 (by decide +kernel) rfl, (RX11, TX11, 15), rfl, rfl⟩
abbrev mX11_hold : am_M := (yX11_hold, cX11_hold, 5, (some .int))
theorem vm_X11_hold : am_vm mX11_hold 11 2 := ⟨⟨am_in 5 162 (by decide +kernel) rfl, am_in 1 1 (by decide +kernel) rfl, ⟨by decide +kernel, by decide +kernel, by decide +kernel⟩, by decide⟩, am_in 5 160 (by decide +kernel) rfl, am_in 5 161 (by decide +kernel) rfl, (RX11, TX11, 15), rfl, rfl⟩
abbrev mX11_tallest : am_M := (yX11_tallest, cX11_tallest, 3, (some .int))
theorem vm_X11_tallest : am_vm mX11_tallest 11 1 := ⟨⟨am_in 5 174 (by decide +kernel) rfl, am_in 1 1 (by decide +kernel) rfl, ⟨by decide +kernel, by decide +kernel, by decide +kernel⟩, by decide⟩, am_in 5 172 (by decide +kernel) rfl, am_in 5 173 (by decide +kernel) rfl, (RX11, TX11, 15), rfl, rfl⟩
abbrev mX11_letter : am_M := (yX11_letter, cX11_letter, 8, (some .int))
theorem vm_X11_letter : am_vm mX11_letter 11 2 := ⟨⟨am_in 5 181 (by decide +kernel) rfl, am_in 1 1 (by decide +kernel) rfl, ⟨by decide +kernel, by decide +kernel, by decide +kernel⟩, by decide⟩, am_in 5 179 (by decide +kernel) rfl, am_in 5 180 (by decide +kernel) rfl, (RX11, TX11, 15), rfl, rfl⟩
abbrev mX11_ahead : am_M := (yX11_ahead, cX11_ahead, 3, (some .int))
theorem vm_X11_ahead : am_vm mX11_ahead 11 2 := ⟨⟨am_in 6 163 (by decide +kernel) rfl, am_in 1 1 (by decide +kernel) rfl, ⟨by decide +kernel, by decide +kernel, by decide +kernel⟩, by decide⟩, am_in 6 161 (by decide +kernel) rfl, am_in 6 162 (by decide +kernel) rfl, (RX11, TX11, 15), rfl, rfl⟩
abbrev mX11_winters : am_M := (yX11_winters, cX11_winters, 5, (some .int))
theorem vm_X11_winters : am_vm mX11_winters 11 4 := ⟨⟨am_in 6 196 (by decide +kernel) rfl, am_in 1 1 (by decide +kernel) rfl, ⟨by decide +kernel, by decide +kernel, by decide +kernel⟩, by decide⟩, am_in 6 194 (by decide +kernel) rfl, am_in 6 195 (by decide +kernel) rfl, (RX11, TX11, 15), rfl, rfl⟩
abbrev mX11_span : am_M := (yX11_span, cX11_span, 11, (some .int))
theorem vm_X11_span : am_vm mX11_span 11 5 := ⟨⟨am_in 6 218 (by decide +kernel) rfl, am_in 1 1 (by decide +kernel) rfl, ⟨by decide +kernel, by decide +kernel, by decide +kernel⟩, by decide⟩, am_in 6 216 (by decide +kernel) rfl, am_in 6 217 (by decide +kernel) rfl, (RX11, TX11, 15), rfl, rfl⟩
abbrev mX11_flood : am_M := (yX11_flood, cX11_flood, 2, (some .int))
theorem vm_X11_flood : am_vm mX11_flood 11 1 := ⟨⟨am_in 5 188 (by decide +kernel) rfl, am_in 1 1 (by decide +kernel) rfl, ⟨by decide +kernel, by decide +kernel, by decide +kernel⟩, by decide⟩, am_in 5 186 (by decide +kernel) rfl, am_in 5 187 (by decide +kernel) rfl, (RX11, TX11, 15), rfl, rfl⟩
abbrev mX11_holds : am_M := (yX11_holds, cX11_holds, 4, (some .int))
theorem vm_X11_holds : am_vm mX11_holds 11 1 := ⟨⟨am_in 5 223 (by decide +kernel) rfl, am_in 1 1 (by decide +kernel) rfl, ⟨by decide +kernel, by decide +kernel, by decide +kernel⟩, by decide⟩, am_in 5 221 (by decide +kernel) rfl, am_in 5 222 (by decide +kernel) rfl, (RX11, TX11, 15), rfl, rfl⟩
abbrev mX11_smells : am_M := (yX11_smells, cX11_smells, 3, (some .int))
theorem vm_X11_smells : am_vm mX11_smells 11 2 := ⟨⟨am_in 5 230 (by decide +kernel) rfl, am_in 1 1 (by decide +kernel) rfl, ⟨by decide +kernel, by decide +kernel, by decide +kernel⟩, by decide⟩, am_in 5 228 (by decide +kernel) rfl, am_in 5 229 (by decide +kernel) rfl, (RX11, TX11, 15), rfl, rfl⟩
abbrev mX11_openers : am_M := (yX11_openers, cX11_openers, 2, (some .int))
theorem vm_X11_openers : am_vm mX11_openers 11 1 := ⟨⟨am_in 6 9 (by decide +kernel) rfl, am_in 1 1 (by decide +kernel) rfl, ⟨by decide +kernel, by decide +kernel, by decide +kernel⟩, by decide⟩, am_in 6 7 (by decide +kernel) rfl, am_in 6 8 (by decide +kernel) rfl, (RX11, TX11, 15), rfl, rfl⟩
abbrev mX11_nose : am_M := (yX11_nose, cX11_nose, 6, (some .int))
theorem vm_X11_nose : am_vm mX11_nose 11 1 := ⟨⟨am_in 6 64 (by decide +kernel) rfl, am_in 1 1 (by decide +kernel) rfl, ⟨by decide +kernel, by decide +kernel, by decide +kernel⟩, by decide⟩, am_in 6 62 (by decide +kernel) rfl, am_in 6 63 (by decide +kernel) rfl, (RX11, TX11, 15), rfl, rfl⟩
abbrev mX11_anglers : am_M := (yX11_anglers, cX11_anglers, 3, (some .int))
theorem vm_X11_anglers : am_vm mX11_anglers 11 2 := ⟨⟨am_in 6 80 (by decide +kernel) rfl, am_in 1 1 (by decide +kernel) rfl, ⟨by decide +kernel, by decide +kernel, by decide +kernel⟩, by decide⟩, am_in 6 78 (by decide +kernel) rfl, am_in 6 79 (by decide +kernel) rfl, (RX11, TX11, 15), rfl, rfl⟩
abbrev mX11_stand : am_M := (yX11_stand, cX11_stand, 3, (some .int))
theorem vm_X11_stand : am_vm mX11_stand 11 2 := ⟨⟨am_in 6 110 (by decide +kernel) rfl, am_in 1 1 (by decide +kernel) rfl, ⟨by decide +kernel, by decide +kernel, by decide +kernel⟩, by decide⟩, am_in 6 108 (by decide +kernel) rfl, am_in 6 109 (by decide +kernel) rfl, (RX11, TX11, 15), rfl, rfl⟩
abbrev mX11_walk : am_M := (yX11_walk, cX11_walk, 11, (some .int))
theorem vm_X11_walk : am_vm mX11_walk 11 3 := ⟨⟨am_in 6 117 (by decide +kernel) rfl, am_in 1 1 (by decide +kernel) rfl, ⟨by decide +kernel, by decide +kernel, by decide +kernel⟩, by decide⟩, am_in 6 115 (by decide +kernel) rfl, am_in 6 116 (by decide +kernel) rfl, (RX11, TX11, 15), rfl, rfl⟩
abbrev mX11_reach : am_M := (yX11_reach, cX11_reach, 6, (some .int))
theorem vm_X11_reach : am_vm mX11_reach 11 2 := ⟨⟨am_in 6 131 (by decide +kernel) rfl, am_in 1 1 (by decide +kernel) rfl, ⟨by decide +kernel, by decide +kernel, by decide +kernel⟩, by decide⟩, am_in 6 129 (by decide +kernel) rfl, am_in 6 130 (by decide +kernel) rfl, (RX11, TX11, 15), rfl, rfl⟩
abbrev mX11_image : am_M := (yX11_image, cX11_image, 1, (some .int))
theorem vm_X11_image : am_vm mX11_image 11 0 := ⟨⟨am_in 3 30 (by decide +kernel) rfl, am_in 1 1 (by decide +kernel) rfl, ⟨by decide +kernel, by decide +kernel, by decide +kernel⟩, by decide⟩, am_in 3 28 (by decide +kernel) rfl, am_in 3 29 (by decide +kernel) rfl, (RX11, TX11, 15), rfl, rfl⟩
abbrev mX11_restore : am_M := (yX11_restore, cX11_restore, 1, (some .int))
theorem vm_X11_restore : am_vm mX11_restore 11 0 := ⟨⟨am_in 3 43 (by decide +kernel) rfl, am_in 1 1 (by decide +kernel) rfl, ⟨by decide +kernel, by decide +kernel, by decide +kernel⟩, by decide⟩, am_in 3 41 (by decide +kernel) rfl, am_in 3 42 (by decide +kernel) rfl, (RX11, TX11, 15), rfl, rfl⟩
abbrev mX11_status : am_M := (yX11_status, cX11_status, 2, (some .int))
theorem vm_X11_status : am_vm mX11_status 11 1 := ⟨⟨am_in 3 51 (by decide +kernel) rfl, am_in 1 1 (by decide +kernel) rfl, ⟨by decide +kernel, by decide +kernel, by decide +kernel⟩, by decide⟩, am_in 3 49 (by decide +kernel) rfl, am_in 3 50 (by decide +kernel) rfl, (RX11, TX11, 15), rfl, rfl⟩
abbrev mX11_count : am_M := (yX11_count, cX11_count, 2, (some .int))
theorem vm_X11_count : am_vm mX11_count 11 1 := ⟨⟨am_in 3 55 (by decide +kernel) rfl, am_in 1 1 (by decide +kernel) rfl, ⟨by decide +kernel, by decide +kernel, by decide +kernel⟩, by decide⟩, am_in 3 53 (by decide +kernel) rfl, am_in 3 54 (by decide +kernel) rfl, (RX11, TX11, 15), rfl, rfl⟩
abbrev mX11_needThere : am_M := (yX11_needThere, cX11_needThere, 3, none)
theorem vm_X11_needThere : am_vm mX11_needThere 11 2 := ⟨⟨am_in 5 52 (by decide +kernel) rfl, am_in 1 1 (by decide +kernel) rfl, ⟨by decide +kernel, by decide +kernel, by decide +kernel⟩, by decide⟩, am_in 5 51 (by decide +kernel) rfl, am_inP 25 (by decide +kernel) rfl, (RX11, TX11, 15), rfl, rfl⟩
abbrev mX11_needBoard : am_M := (yX11_needBoard, cX11_needBoard, 2, none)
theorem vm_X11_needBoard : am_vm mX11_needBoard 11 1 := ⟨⟨am_in 5 48 (by decide +kernel) rfl, am_in 1 1 (by decide +kernel) rfl, ⟨by decide +kernel, by decide +kernel, by decide +kernel⟩, by decide⟩, am_in 5 47 (by decide +kernel) rfl, am_inP 24 (by decide +kernel) rfl, (RX11, TX11, 15), rfl, rfl⟩
abbrev mX11_needFit : am_M := (yX11_needFit, cX11_needFit, 4, none)
theorem vm_X11_needFit : am_vm mX11_needFit 11 3 := ⟨⟨am_in 3 74 (by decide +kernel) rfl, am_in 1 1 (by decide +kernel) rfl, ⟨by decide +kernel, by decide +kernel, by decide +kernel⟩, by decide⟩, am_in 3 73 (by decide +kernel) rfl, am_inP 4 (by decide +kernel) rfl, (RX11, TX11, 15), rfl, rfl⟩
abbrev mX11_needMast : am_M := (yX11_needMast, cX11_needMast, 2, none)
theorem vm_X11_needMast : am_vm mX11_needMast 11 1 := ⟨⟨am_in 5 136 (by decide +kernel) rfl, am_in 1 1 (by decide +kernel) rfl, ⟨by decide +kernel, by decide +kernel, by decide +kernel⟩, by decide⟩, am_in 5 135 (by decide +kernel) rfl, am_inP 26 (by decide +kernel) rfl, (RX11, TX11, 15), rfl, rfl⟩
abbrev mX11_needWinter : am_M := (yX11_needWinter, cX11_needWinter, 3, none)
theorem vm_X11_needWinter : am_vm mX11_needWinter 11 2 := ⟨⟨am_in 6 200 (by decide +kernel) rfl, am_in 1 1 (by decide +kernel) rfl, ⟨by decide +kernel, by decide +kernel, by decide +kernel⟩, by decide⟩, am_in 6 199 (by decide +kernel) rfl, am_inP 45 (by decide +kernel) rfl, (RX11, TX11, 15), rfl, rfl⟩
abbrev mX11_needBits : am_M := (yX11_needBits, cX11_needBits, 3, none)
theorem vm_X11_needBits : am_vm mX11_needBits 11 2 := ⟨⟨am_in 5 192 (by decide +kernel) rfl, am_in 1 1 (by decide +kernel) rfl, ⟨by decide +kernel, by decide +kernel, by decide +kernel⟩, by decide⟩, am_in 5 191 (by decide +kernel) rfl, am_inP 27 (by decide +kernel) rfl, (RX11, TX11, 15), rfl, rfl⟩
abbrev mX11_takeText : am_M := (yX11_takeText, cX11_takeText, 3, none)
theorem vm_X11_takeText : am_vm mX11_takeText 11 2 := ⟨⟨am_in 3 67 (by decide +kernel) rfl, am_in 1 1 (by decide +kernel) rfl, ⟨by decide +kernel, by decide +kernel, by decide +kernel⟩, by decide⟩, am_in 3 66 (by decide +kernel) rfl, am_inP 3 (by decide +kernel) rfl, (RX11, TX11, 15), rfl, rfl⟩
abbrev mX11_openNow : am_M := (yX11_openNow, cX11_openNow, 1, (some .int))
theorem vm_X11_openNow : am_vm mX11_openNow 11 0 := ⟨⟨am_in 5 8 (by decide +kernel) rfl, am_in 1 1 (by decide +kernel) rfl, ⟨by decide +kernel, by decide +kernel, by decide +kernel⟩, by decide⟩, am_in 5 7 (by decide +kernel) rfl, am_inP 21 (by decide +kernel) rfl, (RX11, TX11, 15), rfl, rfl⟩
abbrev mX11_allBits : am_M := (yX11_allBits, cX11_allBits, 1, (some .int))
theorem sm_X11_allBits : am_sm mX11_allBits 1 := ⟨⟨am_in 5 195 (by decide +kernel) rfl, am_in 1 1 (by decide +kernel) rfl, ⟨by decide +kernel, by decide +kernel, by decide +kernel⟩, by decide⟩, am_in 5 194 (by decide +kernel) rfl⟩
abbrev mX11_isBitOf : am_M := (yX11_isBitOf, cX11_isBitOf, 2, (some .boolean))
theorem sm_X11_isBitOf : am_sm mX11_isBitOf 2 := ⟨⟨am_in 4 182 (by decide +kernel) rfl, am_in 1 1 (by decide +kernel) rfl, ⟨by decide +kernel, by decide +kernel, by decide +kernel⟩, by decide⟩, am_in 4 181 (by decide +kernel) rfl⟩
abbrev mX12_init : am_M := (yX12_init, cX12_init, 1, none)
theorem im_X12_init : am_im mX12_init 0 := ⟨⟨am_in 6 224 (by decide +kernel) rfl, am_in 1 14 (by decide +kernel) rfl, ⟨by decide +kernel, by decide +kernel, by decide +kernel⟩, by decide⟩, am_in 6 223 (by decide +kernel) rfl, rfl⟩
abbrev mX12_tellsNothing : am_M := (yX12_tellsNothing, cX12_tellsNothing, 2, none)
theorem vm_X12_tellsNothing : am_vm mX12_tellsNothing 12 0 := ⟨⟨am_in 6 230 (by decide +kernel) rfl, am_in 1 14 (by decide +kernel) rfl, ⟨by decide +kernel, by decide +kernel, by decide +kernel⟩, by decide⟩, am_in 6 229 (by decide +kernel) rfl, am_inP 46 (by decide +kernel) rfl, (RX12, TX12, 50), rfl, rfl⟩
abbrev mX12_thrown : am_M := (yX12_thrown, cX12_thrown, 1, (some .int))
theorem vm_X12_thrown : am_vm mX12_thrown 12 0 := ⟨⟨am_in 7 155 (by decide +kernel) rfl, am_in 1 14 (by decide +kernel) rfl, ⟨by decide +kernel, by decide +kernel, by decide +kernel⟩, by decide⟩, am_in 7 153 (by decide +kernel) rfl, am_in 7 154 (by decide +kernel) rfl, (RX12, TX12, 50), rfl, rfl⟩
abbrev mX12_bad : am_M := (yX12_bad, cX12_bad, 4, (some .boolean))
theorem vm_X12_bad : am_vm mX12_bad 12 3 := ⟨⟨am_in 7 167 (by decide +kernel) rfl, am_in 1 14 (by decide +kernel) rfl, ⟨by decide +kernel, by decide +kernel, by decide +kernel⟩, by decide⟩, am_in 7 166 (by decide +kernel) rfl, am_inP 48 (by decide +kernel) rfl, (RX12, TX12, 50), rfl, rfl⟩
abbrev mX12_in : am_M := (yX12_in, cX12_in, 3, (some .boolean))
theorem sm_X12_in : am_sm mX12_in 3 := ⟨⟨am_in 7 0 (by decide +kernel) rfl, am_in 1 14 (by decide +kernel) rfl, ⟨by decide +kernel, by decide +kernel, by decide +kernel⟩, by decide⟩, am_in 6 239 (by decide +kernel) rfl⟩
abbrev mX12_less : am_M := (yX12_less, cX12_less, 2, (some .int))
theorem sm_X12_less : am_sm mX12_less 2 := ⟨⟨am_in 8 92 (by decide +kernel) rfl, am_in 1 14 (by decide +kernel) rfl, ⟨by decide +kernel, by decide +kernel, by decide +kernel⟩, by decide⟩, am_in 8 91 (by decide +kernel) rfl⟩
abbrev mX12_more : am_M := (yX12_more, cX12_more, 2, (some .int))
theorem sm_X12_more : am_sm mX12_more 2 := ⟨⟨am_in 8 86 (by decide +kernel) rfl, am_in 1 14 (by decide +kernel) rfl, ⟨by decide +kernel, by decide +kernel, by decide +kernel⟩, by decide⟩, am_in 8 85 (by decide +kernel) rfl⟩
abbrev mX12_has : am_M := (yX12_has, cX12_has, 2, (some .boolean))
theorem sm_X12_has : am_sm mX12_has 2 := ⟨⟨am_in 8 32 (by decide +kernel) rfl, am_in 1 14 (by decide +kernel) rfl, ⟨by decide +kernel, by decide +kernel, by decide +kernel⟩, by decide⟩, am_in 8 31 (by decide +kernel) rfl⟩
abbrev mX12_feed : am_M := (yX12_feed, cX12_feed, 8, (some .int))
theorem vm_X12_feed : am_vm mX12_feed 12 5 := ⟨⟨am_in 7 159 (by decide +kernel) rfl, am_in 1 14 (by decide +kernel) rfl, ⟨by decide +kernel, by decide +kernel, by decide +kernel⟩, by decide⟩, am_in 7 157 (by decide +kernel) rfl, am_in 7 158 (by decide +kernel) rfl, (RX12, TX12, 50), rfl, rfl⟩
abbrev mX12_byteAt : am_M := (yX12_byteAt, cX12_byteAt, 2, (some .int))
theorem vm_X12_byteAt : am_vm mX12_byteAt 12 1 := ⟨⟨am_in 7 179 (by decide +kernel) rfl, am_in 1 14 (by decide +kernel) rfl, ⟨by decide +kernel, by decide +kernel, by decide +kernel⟩, by decide⟩, am_in 7 178 (by decide +kernel) rfl, am_inP 51 (by decide +kernel) rfl, (RX12, TX12, 50), rfl, rfl⟩
abbrev mX12_blanks : am_M := (yX12_blanks, cX12_blanks, 1, none)
theorem vm_X12_blanks : am_vm mX12_blanks 12 0 := ⟨⟨am_in 7 175 (by decide +kernel) rfl, am_in 1 14 (by decide +kernel) rfl, ⟨by decide +kernel, by decide +kernel, by decide +kernel⟩, by decide⟩, am_in 7 174 (by decide +kernel) rfl, am_inP 50 (by decide +kernel) rfl, (RX12, TX12, 50), rfl, rfl⟩
abbrev mX12_wrong : am_M := (yX12_wrong, cX12_wrong, 3, none)
theorem vm_X12_wrong : am_vm mX12_wrong 12 2 := ⟨⟨am_in 7 205 (by decide +kernel) rfl, am_in 1 14 (by decide +kernel) rfl, ⟨by decide +kernel, by decide +kernel, by decide +kernel⟩, by decide⟩, am_in 7 204 (by decide +kernel) rfl, am_inP 56 (by decide +kernel) rfl, (RX12, TX12, 50), rfl, rfl⟩
abbrev mX12_isDigit : am_M := (yX12_isDigit, cX12_isDigit, 1, (some .boolean))
theorem sm_X12_isDigit : am_sm mX12_isDigit 1 := ⟨⟨am_in 7 220 (by decide +kernel) rfl, am_in 1 14 (by decide +kernel) rfl, ⟨by decide +kernel, by decide +kernel, by decide +kernel⟩, by decide⟩, am_in 7 219 (by decide +kernel) rfl⟩
abbrev mX12_isSmall : am_M := (yX12_isSmall, cX12_isSmall, 1, (some .boolean))
theorem sm_X12_isSmall : am_sm mX12_isSmall 1 := ⟨⟨am_in 7 198 (by decide +kernel) rfl, am_in 1 14 (by decide +kernel) rfl, ⟨by decide +kernel, by decide +kernel, by decide +kernel⟩, by decide⟩, am_in 7 197 (by decide +kernel) rfl⟩
abbrev mX12_number : am_M := (yX12_number, cX12_number, 5, (some .int))
theorem vm_X12_number : am_vm mX12_number 12 2 := ⟨⟨am_in 7 217 (by decide +kernel) rfl, am_in 1 14 (by decide +kernel) rfl, ⟨by decide +kernel, by decide +kernel, by decide +kernel⟩, by decide⟩, am_in 7 216 (by decide +kernel) rfl, am_inP 59 (by decide +kernel) rfl, (RX12, TX12, 50), rfl, rfl⟩
abbrev mX12_wordHere : am_M := (yX12_wordHere, cX12_wordHere, 3, (some .int))
theorem vm_X12_wordHere : am_vm mX12_wordHere 12 0 := ⟨⟨am_in 7 195 (by decide +kernel) rfl, am_in 1 14 (by decide +kernel) rfl, ⟨by decide +kernel, by decide +kernel, by decide +kernel⟩, by decide⟩, am_in 7 194 (by decide +kernel) rfl, am_inP 55 (by decide +kernel) rfl, (RX12, TX12, 50), rfl, rfl⟩
abbrev mX12_six : am_M := (yX12_six, cX12_six, 7, (some .int))
theorem sm_X12_six : am_sm mX12_six 6 := ⟨⟨am_in 7 201 (by decide +kernel) rfl, am_in 1 14 (by decide +kernel) rfl, ⟨by decide +kernel, by decide +kernel, by decide +kernel⟩, by decide⟩, am_in 7 200 (by decide +kernel) rfl⟩
abbrev mX12_isWord : am_M := (yX12_isWord, cX12_isWord, 7, (some .boolean))
theorem vm_X12_isWord : am_vm mX12_isWord 12 6 := ⟨⟨am_in 7 191 (by decide +kernel) rfl, am_in 1 14 (by decide +kernel) rfl, ⟨by decide +kernel, by decide +kernel, by decide +kernel⟩, by decide⟩, am_in 7 190 (by decide +kernel) rfl, am_inP 54 (by decide +kernel) rfl, (RX12, TX12, 50), rfl, rfl⟩
abbrev mX12_skipWord : am_M := (yX12_skipWord, cX12_skipWord, 1, none)
theorem vm_X12_skipWord : am_vm mX12_skipWord 12 0 := ⟨⟨am_in 7 213 (by decide +kernel) rfl, am_in 1 14 (by decide +kernel) rfl, ⟨by decide +kernel, by decide +kernel, by decide +kernel⟩, by decide⟩, am_in 7 212 (by decide +kernel) rfl, am_inP 58 (by decide +kernel) rfl, (RX12, TX12, 50), rfl, rfl⟩
abbrev mX12_takes : am_M := (yX12_takes, cX12_takes, 8, (some .boolean))
theorem vm_X12_takes : am_vm mX12_takes 12 6 := ⟨⟨am_in 8 21 (by decide +kernel) rfl, am_in 1 14 (by decide +kernel) rfl, ⟨by decide +kernel, by decide +kernel, by decide +kernel⟩, by decide⟩, am_in 8 20 (by decide +kernel) rfl, am_inP 68 (by decide +kernel) rfl, (RX12, TX12, 50), rfl, rfl⟩
abbrev mX12_sign : am_M := (yX12_sign, cX12_sign, 2, none)
theorem vm_X12_sign : am_vm mX12_sign 12 1 := ⟨⟨am_in 7 225 (by decide +kernel) rfl, am_in 1 14 (by decide +kernel) rfl, ⟨by decide +kernel, by decide +kernel, by decide +kernel⟩, by decide⟩, am_in 7 224 (by decide +kernel) rfl, am_inP 60 (by decide +kernel) rfl, (RX12, TX12, 50), rfl, rfl⟩
abbrev mX12_takesSign : am_M := (yX12_takesSign, cX12_takesSign, 3, (some .boolean))
theorem vm_X12_takesSign : am_vm mX12_takesSign 12 1 := ⟨⟨am_in 8 25 (by decide +kernel) rfl, am_in 1 14 (by decide +kernel) rfl, ⟨by decide +kernel, by decide +kernel, by decide +kernel⟩, by decide⟩, am_in 8 24 (by decide +kernel) rfl, am_inP 69 (by decide +kernel) rfl, (RX12, TX12, 50), rfl, rfl⟩
abbrev mX12_starts : am_M := (yX12_starts, cX12_starts, 2, none)
theorem vm_X12_starts : am_vm mX12_starts 12 1 := ⟨⟨am_in 7 171 (by decide +kernel) rfl, am_in 1 14 (by decide +kernel) rfl, ⟨by decide +kernel, by decide +kernel, by decide +kernel⟩, by decide⟩, am_in 7 170 (by decide +kernel) rfl, am_inP 49 (by decide +kernel) rfl, (RX12, TX12, 50), rfl, rfl⟩
abbrev mX12_ends : am_M := (yX12_ends, cX12_ends, 1, (some .int))
theorem vm_X12_ends : am_vm mX12_ends 12 0 := ⟨⟨am_in 7 229 (by decide +kernel) rfl, am_in 1 14 (by decide +kernel) rfl, ⟨by decide +kernel, by decide +kernel, by decide +kernel⟩, by decide⟩, am_in 7 228 (by decide +kernel) rfl, am_inP 61 (by decide +kernel) rfl, (RX12, TX12, 50), rfl, rfl⟩
abbrev mX12_kindHere : am_M := (yX12_kindHere, cX12_kindHere, 1, (some .int))
theorem vm_X12_kindHere : am_vm mX12_kindHere 12 0 := ⟨⟨am_in 7 187 (by decide +kernel) rfl, am_in 1 14 (by decide +kernel) rfl, ⟨by decide +kernel, by decide +kernel, by decide +kernel⟩, by decide⟩, am_in 7 186 (by decide +kernel) rfl, am_inP 53 (by decide +kernel) rfl, (RX12, TX12, 50), rfl, rfl⟩
abbrev mX12_isFull : am_M := (yX12_isFull, cX12_isFull, 2, (some .boolean))
theorem vm_X12_isFull : am_vm mX12_isFull 12 1 := ⟨⟨am_in 7 209 (by decide +kernel) rfl, am_in 1 14 (by decide +kernel) rfl, ⟨by decide +kernel, by decide +kernel, by decide +kernel⟩, by decide⟩, am_in 7 208 (by decide +kernel) rfl, am_inP 57 (by decide +kernel) rfl, (RX12, TX12, 50), rfl, rfl⟩
abbrev mX12_clause : am_M := (yX12_clause, cX12_clause, 4, none)
theorem vm_X12_clause : am_vm mX12_clause 12 0 := ⟨⟨am_in 7 183 (by decide +kernel) rfl, am_in 1 14 (by decide +kernel) rfl, ⟨by decide +kernel, by decide +kernel, by decide +kernel⟩, by decide⟩, am_in 7 182 (by decide +kernel) rfl, am_inP 52 (by decide +kernel) rfl, (RX12, TX12, 50), rfl, rfl⟩
abbrev mX12_river : am_M := (yX12_river, cX12_river, 2, (some .int))
theorem vm_X12_river : am_vm mX12_river 12 1 := ⟨⟨am_in 7 163 (by decide +kernel) rfl, am_in 1 14 (by decide +kernel) rfl, ⟨by decide +kernel, by decide +kernel, by decide +kernel⟩, by decide⟩, am_in 7 161 (by decide +kernel) rfl, am_in 7 162 (by decide +kernel) rfl, (RX12, TX12, 50), rfl, rfl⟩
abbrev mX12_lays : am_M := (yX12_lays, cX12_lays, 5, none)
theorem sm_X12_lays : am_sm mX12_lays 3 := ⟨⟨am_in 6 237 (by decide +kernel) rfl, am_in 1 14 (by decide +kernel) rfl, ⟨by decide +kernel, by decide +kernel, by decide +kernel⟩, by decide⟩, am_in 6 236 (by decide +kernel) rfl⟩
abbrev mX12_copies : am_M := (yX12_copies, cX12_copies, 3, none)
theorem sm_X12_copies : am_sm mX12_copies 2 := ⟨⟨am_in 8 51 (by decide +kernel) rfl, am_in 1 14 (by decide +kernel) rfl, ⟨by decide +kernel, by decide +kernel, by decide +kernel⟩, by decide⟩, am_in 8 50 (by decide +kernel) rfl⟩
abbrev mX12_beginsAnew : am_M := (yX12_beginsAnew, cX12_beginsAnew, 2, none)
theorem vm_X12_beginsAnew : am_vm mX12_beginsAnew 12 0 := ⟨⟨am_in 6 234 (by decide +kernel) rfl, am_in 1 14 (by decide +kernel) rfl, ⟨by decide +kernel, by decide +kernel, by decide +kernel⟩, by decide⟩, am_in 6 233 (by decide +kernel) rfl, am_inP 47 (by decide +kernel) rfl, (RX12, TX12, 50), rfl, rfl⟩
abbrev mX12_notes : am_M := (yX12_notes, cX12_notes, 3, none)
theorem vm_X12_notes : am_vm mX12_notes 12 2 := ⟨⟨am_in 8 13 (by decide +kernel) rfl, am_in 1 14 (by decide +kernel) rfl, ⟨by decide +kernel, by decide +kernel, by decide +kernel⟩, by decide⟩, am_in 8 12 (by decide +kernel) rfl, am_inP 66 (by decide +kernel) rfl, (RX12, TX12, 50), rfl, rfl⟩
abbrev mX12_opensOne : am_M := (yX12_opensOne, cX12_opensOne, 1, (some .boolean))
theorem vm_X12_opensOne : am_vm mX12_opensOne 12 0 := ⟨⟨am_in 8 9 (by decide +kernel) rfl, am_in 1 14 (by decide +kernel) rfl, ⟨by decide +kernel, by decide +kernel, by decide +kernel⟩, by decide⟩, am_in 8 8 (by decide +kernel) rfl, am_inP 65 (by decide +kernel) rfl, (RX12, TX12, 50), rfl, rfl⟩
abbrev mX12_sum : am_M := (yX12_sum, cX12_sum, 2, none)
theorem vm_X12_sum : am_vm mX12_sum 12 0 := ⟨⟨am_in 7 237 (by decide +kernel) rfl, am_in 1 14 (by decide +kernel) rfl, ⟨by decide +kernel, by decide +kernel, by decide +kernel⟩, by decide⟩, am_in 7 236 (by decide +kernel) rfl, am_inP 62 (by decide +kernel) rfl, (RX12, TX12, 50), rfl, rfl⟩
abbrev mX12_product : am_M := (yX12_product, cX12_product, 2, none)
theorem vm_X12_product : am_vm mX12_product 12 0 := ⟨⟨am_in 8 1 (by decide +kernel) rfl, am_in 1 14 (by decide +kernel) rfl, ⟨by decide +kernel, by decide +kernel, by decide +kernel⟩, by decide⟩, am_in 8 0 (by decide +kernel) rfl, am_inP 63 (by decide +kernel) rfl, (RX12, TX12, 50), rfl, rfl⟩
abbrev mX12_knownHere : am_M := (yX12_knownHere, cX12_knownHere, 1, (some .int))
theorem vm_X12_knownHere : am_vm mX12_knownHere 12 0 := ⟨⟨am_in 8 17 (by decide +kernel) rfl, am_in 1 14 (by decide +kernel) rfl, ⟨by decide +kernel, by decide +kernel, by decide +kernel⟩, by decide⟩, am_in 8 16 (by decide +kernel) rfl, am_inP 67 (by decide +kernel) rfl, (RX12, TX12, 50), rfl, rfl⟩
abbrev mX12_one : am_M := (yX12_one, cX12_one, 3, none)
theorem vm_X12_one : am_vm mX12_one 12 0 := ⟨⟨am_in 8 5 (by decide +kernel) rfl, am_in 1 14 (by decide +kernel) rfl, ⟨by decide +kernel, by decide +kernel, by decide +kernel⟩, by decide⟩, am_in 8 4 (by decide +kernel) rfl, am_inP 64 (by decide +kernel) rfl, (RX12, TX12, 50), rfl, rfl⟩
abbrev mX12_law : am_M := (yX12_law, cX12_law, 2, (some .int))
theorem vm_X12_law : am_vm mX12_law 12 1 := ⟨⟨am_in 7 233 (by decide +kernel) rfl, am_in 1 14 (by decide +kernel) rfl, ⟨by decide +kernel, by decide +kernel, by decide +kernel⟩, by decide⟩, am_in 7 231 (by decide +kernel) rfl, am_in 7 232 (by decide +kernel) rfl, (RX12, TX12, 50), rfl, rfl⟩
abbrev mX12_by : am_M := (yX12_by, cX12_by, 3, (some .int))
theorem sm_X12_by : am_sm mX12_by 3 := ⟨⟨am_in 8 89 (by decide +kernel) rfl, am_in 1 14 (by decide +kernel) rfl, ⟨by decide +kernel, by decide +kernel, by decide +kernel⟩, by decide⟩, am_in 8 88 (by decide +kernel) rfl⟩
abbrev mX12_byLaw : am_M := (yX12_byLaw, cX12_byLaw, 3, (some .int))
theorem vm_X12_byLaw : am_vm mX12_byLaw 12 0 := ⟨⟨am_in 8 83 (by decide +kernel) rfl, am_in 1 14 (by decide +kernel) rfl, ⟨by decide +kernel, by decide +kernel, by decide +kernel⟩, by decide⟩, am_in 8 82 (by decide +kernel) rfl, am_inP 79 (by decide +kernel) rfl, (RX12, TX12, 50), rfl, rfl⟩
abbrev mX12_stepHere : am_M := (yX12_stepHere, cX12_stepHere, 1, (some .int))
theorem vm_X12_stepHere : am_vm mX12_stepHere 12 0 := ⟨⟨am_in 8 48 (by decide +kernel) rfl, am_in 1 14 (by decide +kernel) rfl, ⟨by decide +kernel, by decide +kernel, by decide +kernel⟩, by decide⟩, am_in 8 47 (by decide +kernel) rfl, am_inP 71 (by decide +kernel) rfl, (RX12, TX12, 50), rfl, rfl⟩
abbrev mX12_readsStep : am_M := (yX12_readsStep, cX12_readsStep, 3, none)
theorem vm_X12_readsStep : am_vm mX12_readsStep 12 0 := ⟨⟨am_in 8 44 (by decide +kernel) rfl, am_in 1 14 (by decide +kernel) rfl, ⟨by decide +kernel, by decide +kernel, by decide +kernel⟩, by decide⟩, am_in 8 43 (by decide +kernel) rfl, am_inP 70 (by decide +kernel) rfl, (RX12, TX12, 50), rfl, rfl⟩
abbrev mX12_book : am_M := (yX12_book, cX12_book, 7, (some .int))
theorem vm_X12_book : am_vm mX12_book 12 1 := ⟨⟨am_in 8 29 (by decide +kernel) rfl, am_in 1 14 (by decide +kernel) rfl, ⟨by decide +kernel, by decide +kernel, by decide +kernel⟩, by decide⟩, am_in 8 27 (by decide +kernel) rfl, am_in 8 28 (by decide +kernel) rfl, (RX12, TX12, 50), rfl, rfl⟩
abbrev mX12_fault : am_M := (yX12_fault, cX12_fault, 1, (some .int))
theorem vm_X12_fault : am_vm mX12_fault 12 0 := ⟨⟨am_in 8 36 (by decide +kernel) rfl, am_in 1 14 (by decide +kernel) rfl, ⟨by decide +kernel, by decide +kernel, by decide +kernel⟩, by decide⟩, am_in 8 34 (by decide +kernel) rfl, am_in 8 35 (by decide +kernel) rfl, (RX12, TX12, 50), rfl, rfl⟩
abbrev mX12_isLawful : am_M := (yX12_isLawful, cX12_isLawful, 6, (some .boolean))
theorem vm_X12_isLawful : am_vm mX12_isLawful 12 4 := ⟨⟨am_in 8 79 (by decide +kernel) rfl, am_in 1 14 (by decide +kernel) rfl, ⟨by decide +kernel, by decide +kernel, by decide +kernel⟩, by decide⟩, am_in 8 78 (by decide +kernel) rfl, am_inP 78 (by decide +kernel) rfl, (RX12, TX12, 50), rfl, rfl⟩
abbrev mX12_isLawfulNow : am_M := (yX12_isLawfulNow, cX12_isLawfulNow, 3, (some .boolean))
theorem vm_X12_isLawfulNow : am_vm mX12_isLawfulNow 12 2 := ⟨⟨am_in 8 75 (by decide +kernel) rfl, am_in 1 14 (by decide +kernel) rfl, ⟨by decide +kernel, by decide +kernel, by decide +kernel⟩, by decide⟩, am_in 8 74 (by decide +kernel) rfl, am_inP 77 (by decide +kernel) rfl, (RX12, TX12, 50), rfl, rfl⟩
abbrev mX12_opensIn : am_M := (yX12_opensIn, cX12_opensIn, 3, (some .boolean))
theorem vm_X12_opensIn : am_vm mX12_opensIn 12 2 := ⟨⟨am_in 8 71 (by decide +kernel) rfl, am_in 1 14 (by decide +kernel) rfl, ⟨by decide +kernel, by decide +kernel, by decide +kernel⟩, by decide⟩, am_in 8 70 (by decide +kernel) rfl, am_inP 76 (by decide +kernel) rfl, (RX12, TX12, 50), rfl, rfl⟩
abbrev mX12_openBits : am_M := (yX12_openBits, cX12_openBits, 4, (some .int))
theorem vm_X12_openBits : am_vm mX12_openBits 12 1 := ⟨⟨am_in 8 67 (by decide +kernel) rfl, am_in 1 14 (by decide +kernel) rfl, ⟨by decide +kernel, by decide +kernel, by decide +kernel⟩, by decide⟩, am_in 8 66 (by decide +kernel) rfl, am_inP 75 (by decide +kernel) rfl, (RX12, TX12, 50), rfl, rfl⟩
abbrev mX12_mastOf : am_M := (yX12_mastOf, cX12_mastOf, 3, (some .int))
theorem vm_X12_mastOf : am_vm mX12_mastOf 12 2 := ⟨⟨am_in 8 108 (by decide +kernel) rfl, am_in 1 14 (by decide +kernel) rfl, ⟨by decide +kernel, by decide +kernel, by decide +kernel⟩, by decide⟩, am_in 8 107 (by decide +kernel) rfl, am_inP 83 (by decide +kernel) rfl, (RX12, TX12, 50), rfl, rfl⟩
abbrev mX12_comesIn : am_M := (yX12_comesIn, cX12_comesIn, 3, (some .int))
theorem vm_X12_comesIn : am_vm mX12_comesIn 12 2 := ⟨⟨am_in 8 104 (by decide +kernel) rfl, am_in 1 14 (by decide +kernel) rfl, ⟨by decide +kernel, by decide +kernel, by decide +kernel⟩, by decide⟩, am_in 8 103 (by decide +kernel) rfl, am_inP 82 (by decide +kernel) rfl, (RX12, TX12, 50), rfl, rfl⟩
abbrev mX12_isBarge : am_M := (yX12_isBarge, cX12_isBarge, 3, (some .boolean))
theorem vm_X12_isBarge : am_vm mX12_isBarge 12 2 := ⟨⟨am_in 8 96 (by decide +kernel) rfl, am_in 1 14 (by decide +kernel) rfl, ⟨by decide +kernel, by decide +kernel, by decide +kernel⟩, by decide⟩, am_in 8 95 (by decide +kernel) rfl, am_inP 80 (by decide +kernel) rfl, (RX12, TX12, 50), rfl, rfl⟩
abbrev mX12_hourEnds : am_M := (yX12_hourEnds, cX12_hourEnds, 4, none)
theorem vm_X12_hourEnds : am_vm mX12_hourEnds 12 1 := ⟨⟨am_in 8 63 (by decide +kernel) rfl, am_in 1 14 (by decide +kernel) rfl, ⟨by decide +kernel, by decide +kernel, by decide +kernel⟩, by decide⟩, am_in 8 62 (by decide +kernel) rfl, am_inP 74 (by decide +kernel) rfl, (RX12, TX12, 50), rfl, rfl⟩
abbrev mX12_goesOn : am_M := (yX12_goesOn, cX12_goesOn, 5, none)
theorem vm_X12_goesOn : am_vm mX12_goesOn 12 2 := ⟨⟨am_in 8 100 (by decide +kernel) rfl, am_in 1 14 (by decide +kernel) rfl, ⟨by decide +kernel, by decide +kernel, by decide +kernel⟩, by decide⟩, am_in 8 99 (by decide +kernel) rfl, am_inP 81 (by decide +kernel) rfl, (RX12, TX12, 50), rfl, rfl⟩
abbrev mX12_does : am_M := (yX12_does, cX12_does, 4, (some .boolean))
theorem vm_X12_does : am_vm mX12_does 12 2 := ⟨⟨am_in 8 59 (by decide +kernel) rfl, am_in 1 14 (by decide +kernel) rfl, ⟨by decide +kernel, by decide +kernel, by decide +kernel⟩, by decide⟩, am_in 8 58 (by decide +kernel) rfl, am_inP 73 (by decide +kernel) rfl, (RX12, TX12, 50), rfl, rfl⟩
abbrev mX12_goes : am_M := (yX12_goes, cX12_goes, 5, none)
theorem vm_X12_goes : am_vm mX12_goes 12 2 := ⟨⟨am_in 8 55 (by decide +kernel) rfl, am_in 1 14 (by decide +kernel) rfl, ⟨by decide +kernel, by decide +kernel, by decide +kernel⟩, by decide⟩, am_in 8 54 (by decide +kernel) rfl, am_inP 72 (by decide +kernel) rfl, (RX12, TX12, 50), rfl, rfl⟩
abbrev mX12_work : am_M := (yX12_work, cX12_work, 2, (some .int))
theorem vm_X12_work : am_vm mX12_work 12 1 := ⟨⟨am_in 8 40 (by decide +kernel) rfl, am_in 1 14 (by decide +kernel) rfl, ⟨by decide +kernel, by decide +kernel, by decide +kernel⟩, by decide⟩, am_in 8 38 (by decide +kernel) rfl, am_in 8 39 (by decide +kernel) rfl, (RX12, TX12, 50), rfl, rfl⟩
abbrev mX12_undo : am_M := (yX12_undo, cX12_undo, 1, (some .int))
theorem vm_X12_undo : am_vm mX12_undo 12 0 := ⟨⟨am_in 8 112 (by decide +kernel) rfl, am_in 1 14 (by decide +kernel) rfl, ⟨by decide +kernel, by decide +kernel, by decide +kernel⟩, by decide⟩, am_in 8 110 (by decide +kernel) rfl, am_in 8 111 (by decide +kernel) rfl, (RX12, TX12, 50), rfl, rfl⟩
abbrev mX12_ones : am_M := (yX12_ones, cX12_ones, 3, (some .int))
theorem sm_X12_ones : am_sm mX12_ones 1 := ⟨⟨am_in 8 119 (by decide +kernel) rfl, am_in 1 14 (by decide +kernel) rfl, ⟨by decide +kernel, by decide +kernel, by decide +kernel⟩, by decide⟩, am_in 8 118 (by decide +kernel) rfl⟩
abbrev mX12_sumOf : am_M := (yX12_sumOf, cX12_sumOf, 5, (some .int))
theorem vm_X12_sumOf : am_vm mX12_sumOf 12 2 := ⟨⟨am_in 8 123 (by decide +kernel) rfl, am_in 1 14 (by decide +kernel) rfl, ⟨by decide +kernel, by decide +kernel, by decide +kernel⟩, by decide⟩, am_in 8 122 (by decide +kernel) rfl, am_inP 84 (by decide +kernel) rfl, (RX12, TX12, 50), rfl, rfl⟩
abbrev mX12_throughIn : am_M := (yX12_throughIn, cX12_throughIn, 4, (some .int))
theorem vm_X12_throughIn : am_vm mX12_throughIn 12 1 := ⟨⟨am_in 8 127 (by decide +kernel) rfl, am_in 1 14 (by decide +kernel) rfl, ⟨by decide +kernel, by decide +kernel, by decide +kernel⟩, by decide⟩, am_in 8 126 (by decide +kernel) rfl, am_inP 85 (by decide +kernel) rfl, (RX12, TX12, 50), rfl, rfl⟩
abbrev mX12_told : am_M := (yX12_told, cX12_told, 2, (some .int))
theorem vm_X12_told : am_vm mX12_told 12 1 := ⟨⟨am_in 8 116 (by decide +kernel) rfl, am_in 1 14 (by decide +kernel) rfl, ⟨by decide +kernel, by decide +kernel, by decide +kernel⟩, by decide⟩, am_in 8 114 (by decide +kernel) rfl, am_in 8 115 (by decide +kernel) rfl, (RX12, TX12, 50), rfl, rfl⟩
abbrev mX12_isBoard : am_M := (yX12_isBoard, cX12_isBoard, 2, (some .boolean))
theorem vm_X12_isBoard : am_vm mX12_isBoard 12 1 := ⟨⟨am_in 8 135 (by decide +kernel) rfl, am_in 1 14 (by decide +kernel) rfl, ⟨by decide +kernel, by decide +kernel, by decide +kernel⟩, by decide⟩, am_in 8 134 (by decide +kernel) rfl, am_inP 86 (by decide +kernel) rfl, (RX12, TX12, 50), rfl, rfl⟩
abbrev mX12_board : am_M := (yX12_board, cX12_board, 3, (some .int))
theorem vm_X12_board : am_vm mX12_board 12 2 := ⟨⟨am_in 8 131 (by decide +kernel) rfl, am_in 1 14 (by decide +kernel) rfl, ⟨by decide +kernel, by decide +kernel, by decide +kernel⟩, by decide⟩, am_in 8 129 (by decide +kernel) rfl, am_in 8 130 (by decide +kernel) rfl, (RX12, TX12, 50), rfl, rfl⟩
abbrev mX12_barge : am_M := (yX12_barge, cX12_barge, 3, (some .int))
theorem vm_X12_barge : am_vm mX12_barge 12 2 := ⟨⟨am_in 8 139 (by decide +kernel) rfl, am_in 1 14 (by decide +kernel) rfl, ⟨by decide +kernel, by decide +kernel, by decide +kernel⟩, by decide⟩, am_in 8 137 (by decide +kernel) rfl, am_in 8 138 (by decide +kernel) rfl, (RX12, TX12, 50), rfl, rfl⟩
abbrev mX12_isHolding : am_M := (yX12_isHolding, cX12_isHolding, 5, (some .boolean))
theorem vm_X12_isHolding : am_vm mX12_isHolding 12 2 := ⟨⟨am_in 8 147 (by decide +kernel) rfl, am_in 1 14 (by decide +kernel) rfl, ⟨by decide +kernel, by decide +kernel, by decide +kernel⟩, by decide⟩, am_in 8 146 (by decide +kernel) rfl, am_inP 87 (by decide +kernel) rfl, (RX12, TX12, 50), rfl, rfl⟩
abbrev mX12_street : am_M := (yX12_street, cX12_street, 3, (some .int))
theorem vm_X12_street : am_vm mX12_street 12 2 := ⟨⟨am_in 8 143 (by decide +kernel) rfl, am_in 1 14 (by decide +kernel) rfl, ⟨by decide +kernel, by decide +kernel, by decide +kernel⟩, by decide⟩, am_in 8 141 (by decide +kernel) rfl, am_in 8 142 (by decide +kernel) rfl, (RX12, TX12, 50), rfl, rfl⟩
abbrev mX12_lawful : am_M := (yX12_lawful, cX12_lawful, 4, (some .boolean))
theorem vm_X12_lawful : am_vm mX12_lawful 12 3 := ⟨⟨am_in 8 151 (by decide +kernel) rfl, am_in 1 14 (by decide +kernel) rfl, ⟨by decide +kernel, by decide +kernel, by decide +kernel⟩, by decide⟩, am_in 8 149 (by decide +kernel) rfl, am_in 8 150 (by decide +kernel) rfl, (RX12, TX12, 50), rfl, rfl⟩
abbrev mX12_tries : am_M := (yX12_tries, cX12_tries, 1, none)
theorem vm_X12_tries : am_vm mX12_tries 12 0 := ⟨⟨am_in 8 159 (by decide +kernel) rfl, am_in 1 14 (by decide +kernel) rfl, ⟨by decide +kernel, by decide +kernel, by decide +kernel⟩, by decide⟩, am_in 8 158 (by decide +kernel) rfl, am_inP 88 (by decide +kernel) rfl, (RX12, TX12, 50), rfl, rfl⟩
abbrev mX12_opens : am_M := (yX12_opens, cX12_opens, 3, (some .int))
theorem vm_X12_opens : am_vm mX12_opens 12 1 := ⟨⟨am_in 8 155 (by decide +kernel) rfl, am_in 1 14 (by decide +kernel) rfl, ⟨by decide +kernel, by decide +kernel, by decide +kernel⟩, by decide⟩, am_in 8 153 (by decide +kernel) rfl, am_in 8 154 (by decide +kernel) rfl, (RX12, TX12, 50), rfl, rfl⟩
abbrev mX12_often : am_M := (yX12_often, cX12_often, 5, (some .int))
theorem vm_X12_often : am_vm mX12_often 12 2 := ⟨⟨am_in 8 163 (by decide +kernel) rfl, am_in 1 14 (by decide +kernel) rfl, ⟨by decide +kernel, by decide +kernel, by decide +kernel⟩, by decide⟩, am_in 8 161 (by decide +kernel) rfl, am_in 8 162 (by decide +kernel) rfl, (RX12, TX12, 50), rfl, rfl⟩
abbrev mX12_busiest : am_M := (yX12_busiest, cX12_busiest, 6, (some .int))
theorem vm_X12_busiest : am_vm mX12_busiest 12 0 := ⟨⟨am_in 8 167 (by decide +kernel) rfl, am_in 1 14 (by decide +kernel) rfl, ⟨by decide +kernel, by decide +kernel, by decide +kernel⟩, by decide⟩, am_in 8 165 (by decide +kernel) rfl, am_in 8 166 (by decide +kernel) rfl, (RX12, TX12, 50), rfl, rfl⟩
abbrev mX12_peak : am_M := (yX12_peak, cX12_peak, 6, (some .int))
theorem vm_X12_peak : am_vm mX12_peak 12 1 := ⟨⟨am_in 8 171 (by decide +kernel) rfl, am_in 1 14 (by decide +kernel) rfl, ⟨by decide +kernel, by decide +kernel, by decide +kernel⟩, by decide⟩, am_in 8 169 (by decide +kernel) rfl, am_in 8 170 (by decide +kernel) rfl, (RX12, TX12, 50), rfl, rfl⟩
abbrev mX12_trips : am_M := (yX12_trips, cX12_trips, 5, (some .int))
theorem vm_X12_trips : am_vm mX12_trips 12 2 := ⟨⟨am_in 8 182 (by decide +kernel) rfl, am_in 1 14 (by decide +kernel) rfl, ⟨by decide +kernel, by decide +kernel, by decide +kernel⟩, by decide⟩, am_in 8 181 (by decide +kernel) rfl, am_inP 89 (by decide +kernel) rfl, (RX12, TX12, 50), rfl, rfl⟩
abbrev mX12_isMast : am_M := (yX12_isMast, cX12_isMast, 1, (some .boolean))
theorem sm_X12_isMast : am_sm mX12_isMast 1 := ⟨⟨am_in 8 178 (by decide +kernel) rfl, am_in 1 14 (by decide +kernel) rfl, ⟨by decide +kernel, by decide +kernel, by decide +kernel⟩, by decide⟩, am_in 8 177 (by decide +kernel) rfl⟩
abbrev mX12_trip : am_M := (yX12_trip, cX12_trip, 9, (some .int))
theorem vm_X12_trip : am_vm mX12_trip 12 3 := ⟨⟨am_in 8 175 (by decide +kernel) rfl, am_in 1 14 (by decide +kernel) rfl, ⟨by decide +kernel, by decide +kernel, by decide +kernel⟩, by decide⟩, am_in 8 173 (by decide +kernel) rfl, am_in 8 174 (by decide +kernel) rfl, (RX12, TX12, 50), rfl, rfl⟩
abbrev mX12_soonest : am_M := (yX12_soonest, cX12_soonest, 8, (some .int))
theorem vm_X12_soonest : am_vm mX12_soonest 12 3 := ⟨⟨am_in 8 186 (by decide +kernel) rfl, am_in 1 14 (by decide +kernel) rfl, ⟨by decide +kernel, by decide +kernel, by decide +kernel⟩, by decide⟩, am_in 8 184 (by decide +kernel) rfl, am_in 8 185 (by decide +kernel) rfl, (RX12, TX12, 50), rfl, rfl⟩
abbrev mX12_hold : am_M := (yX12_hold, cX12_hold, 5, (some .int))
theorem vm_X12_hold : am_vm mX12_hold 12 2 := ⟨⟨am_in 8 190 (by decide +kernel) rfl, am_in 1 14 (by decide +kernel) rfl, ⟨by decide +kernel, by decide +kernel, by decide +kernel⟩, by decide⟩, am_in 8 188 (by decide +kernel) rfl, am_in 8 189 (by decide +kernel) rfl, (RX12, TX12, 50), rfl, rfl⟩
abbrev mX12_tallest : am_M := (yX12_tallest, cX12_tallest, 3, (some .int))
theorem vm_X12_tallest : am_vm mX12_tallest 12 1 := ⟨⟨am_in 8 194 (by decide +kernel) rfl, am_in 1 14 (by decide +kernel) rfl, ⟨by decide +kernel, by decide +kernel, by decide +kernel⟩, by decide⟩, am_in 8 192 (by decide +kernel) rfl, am_in 8 193 (by decide +kernel) rfl, (RX12, TX12, 50), rfl, rfl⟩
abbrev mX12_letter : am_M := (yX12_letter, cX12_letter, 8, (some .int))
theorem vm_X12_letter : am_vm mX12_letter 12 2 := ⟨⟨am_in 8 198 (by decide +kernel) rfl, am_in 1 14 (by decide +kernel) rfl, ⟨by decide +kernel, by decide +kernel, by decide +kernel⟩, by decide⟩, am_in 8 196 (by decide +kernel) rfl, am_in 8 197 (by decide +kernel) rfl, (RX12, TX12, 50), rfl, rfl⟩
abbrev mX12_flood : am_M := (yX12_flood, cX12_flood, 6, (some .int))
theorem vm_X12_flood : am_vm mX12_flood 12 1 := ⟨⟨am_in 8 202 (by decide +kernel) rfl, am_in 1 14 (by decide +kernel) rfl, ⟨by decide +kernel, by decide +kernel, by decide +kernel⟩, by decide⟩, am_in 8 200 (by decide +kernel) rfl, am_in 8 201 (by decide +kernel) rfl, (RX12, TX12, 50), rfl, rfl⟩
abbrev mX12_areBoards : am_M := (yX12_areBoards, cX12_areBoards, 2, (some .boolean))
theorem vm_X12_areBoards : am_vm mX12_areBoards 12 1 := ⟨⟨am_in 8 210 (by decide +kernel) rfl, am_in 1 14 (by decide +kernel) rfl, ⟨by decide +kernel, by decide +kernel, by decide +kernel⟩, by decide⟩, am_in 8 209 (by decide +kernel) rfl, am_inP 90 (by decide +kernel) rfl, (RX12, TX12, 50), rfl, rfl⟩
abbrev mX12_holds : am_M := (yX12_holds, cX12_holds, 4, (some .int))
theorem vm_X12_holds : am_vm mX12_holds 12 1 := ⟨⟨am_in 8 206 (by decide +kernel) rfl, am_in 1 14 (by decide +kernel) rfl, ⟨by decide +kernel, by decide +kernel, by decide +kernel⟩, by decide⟩, am_in 8 204 (by decide +kernel) rfl, am_in 8 205 (by decide +kernel) rfl, (RX12, TX12, 50), rfl, rfl⟩
abbrev mX12_smellAt : am_M := (yX12_smellAt, cX12_smellAt, 5, (some .int))
theorem vm_X12_smellAt : am_vm mX12_smellAt 12 2 := ⟨⟨am_in 8 218 (by decide +kernel) rfl, am_in 1 14 (by decide +kernel) rfl, ⟨by decide +kernel, by decide +kernel, by decide +kernel⟩, by decide⟩, am_in 8 217 (by decide +kernel) rfl, am_inP 91 (by decide +kernel) rfl, (RX12, TX12, 50), rfl, rfl⟩
abbrev mX12_smells : am_M := (yX12_smells, cX12_smells, 3, (some .int))
theorem vm_X12_smells : am_vm mX12_smells 12 2 := ⟨⟨am_in 8 214 (by decide +kernel) rfl, am_in 1 14 (by decide +kernel) rfl, ⟨by decide +kernel, by decide +kernel, by decide +kernel⟩, by decide⟩, am_in 8 212 (by decide +kernel) rfl, am_in 8 213 (by decide +kernel) rfl, (RX12, TX12, 50), rfl, rfl⟩
abbrev mX12_isOpener : am_M := (yX12_isOpener, cX12_isOpener, 3, (some .boolean))
theorem vm_X12_isOpener : am_vm mX12_isOpener 12 1 := ⟨⟨am_in 8 226 (by decide +kernel) rfl, am_in 1 14 (by decide +kernel) rfl, ⟨by decide +kernel, by decide +kernel, by decide +kernel⟩, by decide⟩, am_in 8 225 (by decide +kernel) rfl, am_inP 92 (by decide +kernel) rfl, (RX12, TX12, 50), rfl, rfl⟩
abbrev mX12_openers : am_M := (yX12_openers, cX12_openers, 8, (some .int))
theorem vm_X12_openers : am_vm mX12_openers 12 1 := ⟨⟨am_in 8 222 (by decide +kernel) rfl, am_in 1 14 (by decide +kernel) rfl, ⟨by decide +kernel, by decide +kernel, by decide +kernel⟩, by decide⟩, am_in 8 220 (by decide +kernel) rfl, am_in 8 221 (by decide +kernel) rfl, (RX12, TX12, 50), rfl, rfl⟩
abbrev mX12_nose : am_M := (yX12_nose, cX12_nose, 8, (some .int))
theorem vm_X12_nose : am_vm mX12_nose 12 1 := ⟨⟨am_in 8 230 (by decide +kernel) rfl, am_in 1 14 (by decide +kernel) rfl, ⟨by decide +kernel, by decide +kernel, by decide +kernel⟩, by decide⟩, am_in 8 228 (by decide +kernel) rfl, am_in 8 229 (by decide +kernel) rfl, (RX12, TX12, 50), rfl, rfl⟩
abbrev mX12_isRest : am_M := (yX12_isRest, cX12_isRest, 4, (some .boolean))
theorem vm_X12_isRest : am_vm mX12_isRest 12 0 := ⟨⟨am_in 9 6 (by decide +kernel) rfl, am_in 1 14 (by decide +kernel) rfl, ⟨by decide +kernel, by decide +kernel, by decide +kernel⟩, by decide⟩, am_in 9 5 (by decide +kernel) rfl, am_inP 95 (by decide +kernel) rfl, (RX12, TX12, 50), rfl, rfl⟩
abbrev mX12_angles : am_M := (yX12_angles, cX12_angles, 4, none)
theorem vm_X12_angles : am_vm mX12_angles 12 2 := ⟨⟨am_in 9 2 (by decide +kernel) rfl, am_in 1 14 (by decide +kernel) rfl, ⟨by decide +kernel, by decide +kernel, by decide +kernel⟩, by decide⟩, am_in 9 1 (by decide +kernel) rfl, am_inP 94 (by decide +kernel) rfl, (RX12, TX12, 50), rfl, rfl⟩
abbrev mX12_laysAnglers : am_M := (yX12_laysAnglers, cX12_laysAnglers, 3, none)
theorem vm_X12_laysAnglers : am_vm mX12_laysAnglers 12 1 := ⟨⟨am_in 8 238 (by decide +kernel) rfl, am_in 1 14 (by decide +kernel) rfl, ⟨by decide +kernel, by decide +kernel, by decide +kernel⟩, by decide⟩, am_in 8 237 (by decide +kernel) rfl, am_inP 93 (by decide +kernel) rfl, (RX12, TX12, 50), rfl, rfl⟩
abbrev mX12_anglers : am_M := (yX12_anglers, cX12_anglers, 5, (some .int))
theorem vm_X12_anglers : am_vm mX12_anglers 12 2 := ⟨⟨am_in 8 234 (by decide +kernel) rfl, am_in 1 14 (by decide +kernel) rfl, ⟨by decide +kernel, by decide +kernel, by decide +kernel⟩, by decide⟩, am_in 8 232 (by decide +kernel) rfl, am_in 8 233 (by decide +kernel) rfl, (RX12, TX12, 50), rfl, rfl⟩
abbrev mX12_stand : am_M := (yX12_stand, cX12_stand, 3, (some .int))
theorem vm_X12_stand : am_vm mX12_stand 12 2 := ⟨⟨am_in 9 10 (by decide +kernel) rfl, am_in 1 14 (by decide +kernel) rfl, ⟨by decide +kernel, by decide +kernel, by decide +kernel⟩, by decide⟩, am_in 9 8 (by decide +kernel) rfl, am_in 9 9 (by decide +kernel) rfl, (RX12, TX12, 50), rfl, rfl⟩
abbrev mX12_walks : am_M := (yX12_walks, cX12_walks, 7, none)
theorem vm_X12_walks : am_vm mX12_walks 12 2 := ⟨⟨am_in 9 21 (by decide +kernel) rfl, am_in 1 14 (by decide +kernel) rfl, ⟨by decide +kernel, by decide +kernel, by decide +kernel⟩, by decide⟩, am_in 9 20 (by decide +kernel) rfl, am_inP 96 (by decide +kernel) rfl, (RX12, TX12, 50), rfl, rfl⟩
abbrev mX12_isWeight : am_M := (yX12_isWeight, cX12_isWeight, 1, (some .boolean))
theorem sm_X12_isWeight : am_sm mX12_isWeight 1 := ⟨⟨am_in 9 17 (by decide +kernel) rfl, am_in 1 14 (by decide +kernel) rfl, ⟨by decide +kernel, by decide +kernel, by decide +kernel⟩, by decide⟩, am_in 9 16 (by decide +kernel) rfl⟩
abbrev mX12_walk : am_M := (yX12_walk, cX12_walk, 4, (some .int))
theorem vm_X12_walk : am_vm mX12_walk 12 3 := ⟨⟨am_in 9 14 (by decide +kernel) rfl, am_in 1 14 (by decide +kernel) rfl, ⟨by decide +kernel, by decide +kernel, by decide +kernel⟩, by decide⟩, am_in 9 12 (by decide +kernel) rfl, am_in 9 13 (by decide +kernel) rfl, (RX12, TX12, 50), rfl, rfl⟩
abbrev mX12_reach : am_M := (yX12_reach, cX12_reach, 5, (some .int))
theorem vm_X12_reach : am_vm mX12_reach 12 2 := ⟨⟨am_in 9 25 (by decide +kernel) rfl, am_in 1 14 (by decide +kernel) rfl, ⟨by decide +kernel, by decide +kernel, by decide +kernel⟩, by decide⟩, am_in 9 23 (by decide +kernel) rfl, am_in 9 24 (by decide +kernel) rfl, (RX12, TX12, 50), rfl, rfl⟩
abbrev mX12_narrow : am_M := (yX12_narrow, cX12_narrow, 9, (some .int))
theorem vm_X12_narrow : am_vm mX12_narrow 12 2 := ⟨⟨am_in 9 29 (by decide +kernel) rfl, am_in 1 14 (by decide +kernel) rfl, ⟨by decide +kernel, by decide +kernel, by decide +kernel⟩, by decide⟩, am_in 9 27 (by decide +kernel) rfl, am_in 9 28 (by decide +kernel) rfl, (RX12, TX12, 50), rfl, rfl⟩
abbrev mX12_worst : am_M := (yX12_worst, cX12_worst, 6, (some .int))
theorem vm_X12_worst : am_vm mX12_worst 12 1 := ⟨⟨am_in 9 33 (by decide +kernel) rfl, am_in 1 14 (by decide +kernel) rfl, ⟨by decide +kernel, by decide +kernel, by decide +kernel⟩, by decide⟩, am_in 9 31 (by decide +kernel) rfl, am_in 9 32 (by decide +kernel) rfl, (RX12, TX12, 50), rfl, rfl⟩
abbrev mX12_ahead : am_M := (yX12_ahead, cX12_ahead, 4, (some .int))
theorem vm_X12_ahead : am_vm mX12_ahead 12 2 := ⟨⟨am_in 9 37 (by decide +kernel) rfl, am_in 1 14 (by decide +kernel) rfl, ⟨by decide +kernel, by decide +kernel, by decide +kernel⟩, by decide⟩, am_in 9 35 (by decide +kernel) rfl, am_in 9 36 (by decide +kernel) rfl, (RX12, TX12, 50), rfl, rfl⟩
abbrev mX12_wintersBy : am_M := (yX12_wintersBy, cX12_wintersBy, 6, none)
theorem vm_X12_wintersBy : am_vm mX12_wintersBy 12 3 := ⟨⟨am_in 9 48 (by decide +kernel) rfl, am_in 1 14 (by decide +kernel) rfl, ⟨by decide +kernel, by decide +kernel, by decide +kernel⟩, by decide⟩, am_in 9 47 (by decide +kernel) rfl, am_inP 97 (by decide +kernel) rfl, (RX12, TX12, 50), rfl, rfl⟩
abbrev mX12_isWinter : am_M := (yX12_isWinter, cX12_isWinter, 2, (some .boolean))
theorem sm_X12_isWinter : am_sm mX12_isWinter 2 := ⟨⟨am_in 9 44 (by decide +kernel) rfl, am_in 1 14 (by decide +kernel) rfl, ⟨by decide +kernel, by decide +kernel, by decide +kernel⟩, by decide⟩, am_in 9 43 (by decide +kernel) rfl⟩
abbrev mX12_winters : am_M := (yX12_winters, cX12_winters, 5, (some .int))
theorem vm_X12_winters : am_vm mX12_winters 12 4 := ⟨⟨am_in 9 41 (by decide +kernel) rfl, am_in 1 14 (by decide +kernel) rfl, ⟨by decide +kernel, by decide +kernel, by decide +kernel⟩, by decide⟩, am_in 9 39 (by decide +kernel) rfl, am_in 9 40 (by decide +kernel) rfl, (RX12, TX12, 50), rfl, rfl⟩
abbrev mX12_span : am_M := (yX12_span, cX12_span, 11, (some .int))
theorem vm_X12_span : am_vm mX12_span 12 5 := ⟨⟨am_in 9 53 (by decide +kernel) rfl, am_in 1 14 (by decide +kernel) rfl, ⟨by decide +kernel, by decide +kernel, by decide +kernel⟩, by decide⟩, am_in 9 51 (by decide +kernel) rfl, am_in 9 52 (by decide +kernel) rfl, (RX12, TX12, 50), rfl, rfl⟩
abbrev mX12_puts : am_M := (yX12_puts, cX12_puts, 4, (some .int))
theorem vm_X12_puts : am_vm mX12_puts 12 3 := ⟨⟨am_in 9 65 (by decide +kernel) rfl, am_in 1 14 (by decide +kernel) rfl, ⟨by decide +kernel, by decide +kernel, by decide +kernel⟩, by decide⟩, am_in 9 64 (by decide +kernel) rfl, am_inP 99 (by decide +kernel) rfl, (RX12, TX12, 50), rfl, rfl⟩
abbrev mX12_putsAll : am_M := (yX12_putsAll, cX12_putsAll, 5, none)
theorem vm_X12_putsAll : am_vm mX12_putsAll 12 2 := ⟨⟨am_in 9 61 (by decide +kernel) rfl, am_in 1 14 (by decide +kernel) rfl, ⟨by decide +kernel, by decide +kernel, by decide +kernel⟩, by decide⟩, am_in 9 60 (by decide +kernel) rfl, am_inP 98 (by decide +kernel) rfl, (RX12, TX12, 50), rfl, rfl⟩
abbrev mX12_image : am_M := (yX12_image, cX12_image, 1, (some .int))
theorem vm_X12_image : am_vm mX12_image 12 0 := ⟨⟨am_in 9 57 (by decide +kernel) rfl, am_in 1 14 (by decide +kernel) rfl, ⟨by decide +kernel, by decide +kernel, by decide +kernel⟩, by decide⟩, am_in 9 55 (by decide +kernel) rfl, am_in 9 56 (by decide +kernel) rfl, (RX12, TX12, 50), rfl, rfl⟩
abbrev mX12_restore : am_M := (yX12_restore, cX12_restore, 1, (some .int))
theorem vm_X12_restore : am_vm mX12_restore 12 0 := ⟨⟨am_in 9 69 (by decide +kernel) rfl, am_in 1 14 (by decide +kernel) rfl, ⟨by decide +kernel, by decide +kernel, by decide +kernel⟩, by decide⟩, am_in 9 67 (by decide +kernel) rfl, am_in 9 68 (by decide +kernel) rfl, (RX12, TX12, 50), rfl, rfl⟩
abbrev mX12_status : am_M := (yX12_status, cX12_status, 2, (some .int))
theorem vm_X12_status : am_vm mX12_status 12 1 := ⟨⟨am_in 9 73 (by decide +kernel) rfl, am_in 1 14 (by decide +kernel) rfl, ⟨by decide +kernel, by decide +kernel, by decide +kernel⟩, by decide⟩, am_in 9 71 (by decide +kernel) rfl, am_in 9 72 (by decide +kernel) rfl, (RX12, TX12, 50), rfl, rfl⟩
abbrev mX12_count : am_M := (yX12_count, cX12_count, 2, (some .int))
theorem vm_X12_count : am_vm mX12_count 12 1 := ⟨⟨am_in 9 77 (by decide +kernel) rfl, am_in 1 14 (by decide +kernel) rfl, ⟨by decide +kernel, by decide +kernel, by decide +kernel⟩, by decide⟩, am_in 9 75 (by decide +kernel) rfl, am_in 9 76 (by decide +kernel) rfl, (RX12, TX12, 50), rfl, rfl⟩
abbrev mJ6_bitCount_0f7a4 : am_M := (yJ6_bitCount_0f7a4, cJ6_bitCount_0f7a4, 1, (some .int))
theorem sm_J6_bitCount_0f7a4 : am_sm mJ6_bitCount_0f7a4 1 := ⟨⟨am_in 3 23 (by decide +kernel) rfl, am_in 1 25 (by decide +kernel) rfl, ⟨by decide +kernel, by decide +kernel, by decide +kernel⟩, by decide⟩, am_in 3 22 (by decide +kernel) rfl⟩
abbrev mJ9_abs_0f7a4 : am_M := (yJ9_abs_0f7a4, cJ9_abs_0f7a4, 1, (some .int))
theorem sm_J9_abs_0f7a4 : am_sm mJ9_abs_0f7a4 1 := ⟨⟨am_in 6 124 (by decide +kernel) rfl, am_in 1 15 (by decide +kernel) rfl, ⟨by decide +kernel, by decide +kernel, by decide +kernel⟩, by decide⟩, am_in 6 123 (by decide +kernel) rfl⟩
abbrev mJ9_max_7cf53 : am_M := (yJ9_max_7cf53, cJ9_max_7cf53, 2, (some .int))
theorem sm_J9_max_7cf53 : am_sm mJ9_max_7cf53 2 := ⟨⟨am_in 5 212 (by decide +kernel) rfl, am_in 1 15 (by decide +kernel) rfl, ⟨by decide +kernel, by decide +kernel, by decide +kernel⟩, by decide⟩, am_in 5 211 (by decide +kernel) rfl⟩
abbrev mJ9_min_7cf53 : am_M := (yJ9_min_7cf53, cJ9_min_7cf53, 2, (some .int))
theorem sm_J9_min_7cf53 : am_sm mJ9_min_7cf53 2 := ⟨⟨am_in 3 70 (by decide +kernel) rfl, am_in 1 15 (by decide +kernel) rfl, ⟨by decide +kernel, by decide +kernel, by decide +kernel⟩, by decide⟩, am_in 3 69 (by decide +kernel) rfl⟩
abbrev mJ0_length_8abf5 : am_M := (yJ0_length_8abf5, cJ0_length_8abf5, 1, (some .int))
abbrev mJ0_charAt_5068e : am_M := (yJ0_charAt_5068e, cJ0_charAt_5068e, 2, (some .char))
abbrev mJ0_coder_7d493 : am_M := (yJ0_coder_7d493, cJ0_coder_7d493, 1, (some .byte))
abbrev mJ0_isLatin1_aae02 : am_M := (yJ0_isLatin1_aae02, cJ0_isLatin1_aae02, 1, (some .boolean))
abbrev mJ0_checkIndex_df160 : am_M := (yJ0_checkIndex_df160, cJ0_checkIndex_df160, 2, none)
theorem sm_J0_checkIndex_df160 : am_sm mJ0_checkIndex_df160 2 := ⟨⟨am_in 3 195 (by decide +kernel) rfl, am_in 1 20 (by decide +kernel) rfl, ⟨by decide +kernel, by decide +kernel, by decide +kernel⟩, by decide⟩, am_in 3 194 (by decide +kernel) rfl⟩
abbrev mJ1_charAt_3b067 : am_M := (yJ1_charAt_3b067, cJ1_charAt_3b067, 2, (some .char))
theorem sm_J1_charAt_3b067 : am_sm mJ1_charAt_3b067 2 := ⟨⟨am_in 3 192 (by decide +kernel) rfl, am_in 1 21 (by decide +kernel) rfl, ⟨by decide +kernel, by decide +kernel, by decide +kernel⟩, by decide⟩, am_in 3 191 (by decide +kernel) rfl⟩
abbrev mJ2_getChar_3b067 : am_M := (yJ2_getChar_3b067, cJ2_getChar_3b067, 2, (some .char))
theorem sm_J2_getChar_3b067 : am_sm mJ2_getChar_3b067 2 := ⟨⟨am_in 3 213 (by decide +kernel) rfl, am_in 1 23 (by decide +kernel) rfl, ⟨by decide +kernel, by decide +kernel, by decide +kernel⟩, by decide⟩, am_in 3 212 (by decide +kernel) rfl⟩
abbrev mJ2_length_9d52b : am_M := (yJ2_length_9d52b, cJ2_length_9d52b, 1, (some .int))
theorem sm_J2_length_9d52b : am_sm mJ2_length_9d52b 1 := ⟨⟨am_in 3 209 (by decide +kernel) rfl, am_in 1 23 (by decide +kernel) rfl, ⟨by decide +kernel, by decide +kernel, by decide +kernel⟩, by decide⟩, am_in 3 208 (by decide +kernel) rfl⟩
abbrev mJ2_charAt_3b067 : am_M := (yJ2_charAt_3b067, cJ2_charAt_3b067, 2, (some .char))
theorem sm_J2_charAt_3b067 : am_sm mJ2_charAt_3b067 2 := ⟨⟨am_in 3 203 (by decide +kernel) rfl, am_in 1 23 (by decide +kernel) rfl, ⟨by decide +kernel, by decide +kernel, by decide +kernel⟩, by decide⟩, am_in 3 202 (by decide +kernel) rfl⟩
abbrev mJ2_checkIndex_2214a : am_M := (yJ2_checkIndex_2214a, cJ2_checkIndex_2214a, 2, none)
theorem sm_J2_checkIndex_2214a : am_sm mJ2_checkIndex_2214a 2 := ⟨⟨am_in 3 206 (by decide +kernel) rfl, am_in 1 23 (by decide +kernel) rfl, ⟨by decide +kernel, by decide +kernel, by decide +kernel⟩, by decide⟩, am_in 3 205 (by decide +kernel) rfl⟩
abbrev mJ7_fill_53178 : am_M := (yJ7_fill_53178, cJ7_fill_53178, 4, none)
theorem sm_J7_fill_53178 : am_sm mJ7_fill_53178 2 := ⟨⟨am_in 2 100 (by decide +kernel) rfl, am_in 1 12 (by decide +kernel) rfl, ⟨by decide +kernel, by decide +kernel, by decide +kernel⟩, by decide⟩, am_in 2 99 (by decide +kernel) rfl⟩
abbrev mJ3_checkIndex_8e157 : am_M := (yJ3_checkIndex_8e157, cJ3_checkIndex_8e157, 3, (some .int))
theorem sm_J3_checkIndex_8e157 : am_sm mJ3_checkIndex_8e157 3 := ⟨⟨am_in 3 200 (by decide +kernel) rfl, am_in 1 22 (by decide +kernel) rfl, ⟨by decide +kernel, by decide +kernel, by decide +kernel⟩, by decide⟩, am_in 3 199 (by decide +kernel) rfl⟩
theorem ml_L_112 : Cond.methodLink RL 112 mX11_init.1 ∈ am_ws := am_in 1 29 (by decide +kernel) rfl
theorem ml_X11_9 : Cond.methodLinkNest RX11 9 mX10_init.1 "LiddedRiver" ∈ am_nw := am_inN 1 37 (by decide +kernel) rfl
theorem ml_X11_18 : Cond.methodLinkNest RX11 18 mX1_init.1 "LiddedRiver" ∈ am_nw := am_inN 1 67 (by decide +kernel) rfl
theorem ml_X11_28 : Cond.methodLink RX11 28 mX3_init.1 ∈ am_ws := am_in 1 151 (by decide +kernel) rfl
theorem ml_X3_24 : Cond.methodLink RX3 24 mX3_beUntold.1 ∈ am_ws := am_in 1 155 (by decide +kernel) rfl
theorem ml_X3_31 : Cond.methodLink RX3 31 mX3_add.1 ∈ am_ws := am_in 1 159 (by decide +kernel) rfl
theorem ml_X3_35 : Cond.methodLink RX3 35 mX3_adoptDraft.1 ∈ am_ws := am_in 1 163 (by decide +kernel) rfl
theorem ml_X11_35 : Cond.methodLink RX11 35 mX4_init.1 ∈ am_ws := am_in 1 191 (by decide +kernel) rfl
theorem ml_X11_44 : Cond.methodLinkNest RX11 44 mX8_init.1 "LiddedRiver" ∈ am_nw := am_inN 1 205 (by decide +kernel) rfl
theorem ml_X11_51 : Cond.methodLinkNest RX11 51 mX7_init.1 "LiddedRiver" ∈ am_nw := am_inN 1 216 (by decide +kernel) rfl
theorem ml_X11_58 : Cond.methodLinkNest RX11 58 mX9_init.1 "LiddedRiver" ∈ am_nw := am_inN 1 239 (by decide +kernel) rfl
theorem ml_X11_65 : Cond.methodLink RX11 65 mX6_init.1 ∈ am_ws := am_in 2 28 (by decide +kernel) rfl
theorem ml_X6_11 : Cond.methodLinkNest RX6 11 mX8_init.1 "LiddedRiver" ∈ am_nw := am_inN 2 33 (by decide +kernel) rfl
theorem ml_X11_74 : Cond.methodLink RX11 74 mX2_init.1 ∈ am_ws := am_in 2 74 (by decide +kernel) rfl
theorem ml_X11_83 : Cond.methodLink RX11 83 mX5_init.1 ∈ am_ws := am_in 2 90 (by decide +kernel) rfl
theorem ml_X5_31 : Cond.methodLink RX5 31 mX5_clearBook.1 ∈ am_ws := am_in 2 94 (by decide +kernel) rfl
theorem ml_X5_34 : Cond.methodLink RX5 34 mJ7_fill_53178.1 ∈ am_ws := am_in 2 98 (by decide +kernel) rfl
theorem ml_X11_90 : Cond.methodLink RX11 90 mX0_init.1 ∈ am_ws := am_in 2 130 (by decide +kernel) rfl
theorem ml_L_116 : Cond.methodLink RL 116 mX11_feed.1 ∈ am_ws := am_in 2 195 (by decide +kernel) rfl
theorem ml_X11_95 : Cond.methodLink RX11 95 mX10_hasRoom.1 ∈ am_ws := am_in 2 199 (by decide +kernel) rfl
theorem ml_X11_99 : Cond.methodLink RX11 99 mX10_put.1 ∈ am_ws := am_in 2 203 (by decide +kernel) rfl
theorem ml_X11_103 : Cond.methodLink RX11 103 mX10_size.1 ∈ am_ws := am_in 2 207 (by decide +kernel) rfl
theorem ml_L_139 : Cond.methodLink RL 139 mX11_fault.1 ∈ am_ws := am_in 2 211 (by decide +kernel) rfl
theorem ml_L_143 : Cond.methodLink RL 143 mX11_undo.1 ∈ am_ws := am_in 2 215 (by decide +kernel) rfl
theorem ml_X11_175 : Cond.methodLink RX11 175 mX7_bringBack.1 ∈ am_ws := am_in 2 219 (by decide +kernel) rfl
theorem ml_X7_37 : Cond.methodLink RX7 37 mX8_readFrom.1 ∈ am_ws := am_in 2 223 (by decide +kernel) rfl
theorem ml_X11_139 : Cond.methodLink RX11 139 mX6_forget.1 ∈ am_ws := am_in 2 230 (by decide +kernel) rfl
theorem ml_L_170 : Cond.methodLink RL 170 mX11_busiest.1 ∈ am_ws := am_in 2 234 (by decide +kernel) rfl
theorem ml_X11_188 : Cond.methodLink RX11 188 mX8_hour.1 ∈ am_ws := am_in 2 238 (by decide +kernel) rfl
theorem ml_X11_268 : Cond.methodLink RX11 268 mX4_dueBits.1 ∈ am_ws := am_in 3 2 (by decide +kernel) rfl
theorem ml_X4_31 : Cond.methodLink RX4 31 mX8_finesOf.1 ∈ am_ws := am_in 3 6 (by decide +kernel) rfl
theorem ml_X4_19 : Cond.methodLink RX4 19 mX3_value.1 ∈ am_ws := am_in 3 10 (by decide +kernel) rfl
theorem ml_X3_97 : Cond.methodLink RX3 97 mX3_findFacts.1 ∈ am_ws := am_in 3 14 (by decide +kernel) rfl
theorem ml_X3_101 : Cond.methodLink RX3 101 mX3_join.1 ∈ am_ws := am_in 3 18 (by decide +kernel) rfl
theorem ml_X11_194 : Cond.methodLink RX11 194 mJ6_bitCount_0f7a4.1 ∈ am_ws := am_in 3 21 (by decide +kernel) rfl
theorem ml_L_236 : Cond.methodLink RL 236 mX11_image.1 ∈ am_ws := am_in 3 27 (by decide +kernel) rfl
theorem ml_X11_383 : Cond.methodLink RX11 383 mX7_keepImage.1 ∈ am_ws := am_in 3 31 (by decide +kernel) rfl
theorem ml_X7_33 : Cond.methodLink RX7 33 mX8_writeTo.1 ∈ am_ws := am_in 3 36 (by decide +kernel) rfl
theorem ml_L_240 : Cond.methodLink RL 240 mX11_restore.1 ∈ am_ws := am_in 3 40 (by decide +kernel) rfl
theorem ml_X11_390 : Cond.methodLink RX11 390 mX7_bringBackImage.1 ∈ am_ws := am_in 3 44 (by decide +kernel) rfl
theorem ml_L_244 : Cond.methodLink RL 244 mX11_status.1 ∈ am_ws := am_in 3 48 (by decide +kernel) rfl
theorem ml_L_248 : Cond.methodLink RL 248 mX11_count.1 ∈ am_ws := am_in 3 52 (by decide +kernel) rfl
theorem ml_L_7 : Cond.methodLink RL 7 mX11_river.1 ∈ am_ws := am_in 3 60 (by decide +kernel) rfl
theorem ml_X11_107 : Cond.methodLink RX11 107 mX11_takeText.1 ∈ am_ws := am_in 3 64 (by decide +kernel) rfl
theorem ml_X11_326 : Cond.methodLink RX11 326 mJ9_min_7cf53.1 ∈ am_ws := am_in 3 68 (by decide +kernel) rfl
theorem ml_X11_178 : Cond.methodLink RX11 178 mX11_needFit.1 ∈ am_ws := am_in 3 71 (by decide +kernel) rfl
theorem ml_X11_414 : Cond.methodLink RX11 414 mX10_take.1 ∈ am_ws := am_in 3 141 (by decide +kernel) rfl
theorem ml_X10_22 : Cond.methodLink RX10 22 mJ9_min_7cf53.1 ∈ am_ws := am_in 3 145 (by decide +kernel) rfl
theorem ml_X11_111 : Cond.methodLink RX11 111 mX1_read.1 ∈ am_ws := am_in 3 146 (by decide +kernel) rfl
theorem ml_X1_61 : Cond.methodLink RX1 61 mJ7_fill_53178.1 ∈ am_ws := am_in 3 150 (by decide +kernel) rfl
theorem ml_X1_67 : Cond.methodLink RX1 67 mX10_isFaulty.1 ∈ am_ws := am_in 3 151 (by decide +kernel) rfl
theorem ml_X1_73 : Cond.methodLink RX1 73 mX10_isAtEnd.1 ∈ am_ws := am_in 3 155 (by decide +kernel) rfl
theorem ml_X10_44 : Cond.methodLink RX10 44 mX10_next.1 ∈ am_ws := am_in 3 159 (by decide +kernel) rfl
theorem ml_X1_78 : Cond.methodLink RX1 78 mX10_word.1 ∈ am_ws := am_in 3 164 (by decide +kernel) rfl
theorem ml_X10_64 : Cond.methodLink RX10 64 mX10_whichName.1 ∈ am_ws := am_in 3 168 (by decide +kernel) rfl
theorem ml_X10_52 : Cond.methodLink RX10 52 mJ0_length_8abf5.1 ∈ am_ws := am_in 3 172 (by decide +kernel) rfl
theorem ml_J0_335 : Cond.methodLink RJ0 335 mJ0_coder_7d493.1 ∈ am_ws := am_in 3 176 (by decide +kernel) rfl
theorem ml_X10_56 : Cond.methodLink RX10 56 mJ0_charAt_5068e.1 ∈ am_ws := am_in 3 182 (by decide +kernel) rfl
theorem ml_J0_492 : Cond.methodLink RJ0 492 mJ0_isLatin1_aae02.1 ∈ am_ws := am_in 3 186 (by decide +kernel) rfl
theorem ml_J0_495 : Cond.methodLink RJ0 495 mJ1_charAt_3b067.1 ∈ am_ws := am_in 3 190 (by decide +kernel) rfl
theorem ml_J1_9 : Cond.methodLink RJ1 9 mJ0_checkIndex_df160.1 ∈ am_ws := am_in 3 193 (by decide +kernel) rfl
theorem ml_J0_1059 : Cond.methodLink RJ0 1059 mJ3_checkIndex_8e157.1 ∈ am_ws := am_in 3 198 (by decide +kernel) rfl
theorem ml_J0_498 : Cond.methodLink RJ0 498 mJ2_charAt_3b067.1 ∈ am_ws := am_in 3 201 (by decide +kernel) rfl
theorem ml_J2_67 : Cond.methodLink RJ2 67 mJ2_checkIndex_2214a.1 ∈ am_ws := am_in 3 204 (by decide +kernel) rfl
theorem ml_J2_48 : Cond.methodLink RJ2 48 mJ2_length_9d52b.1 ∈ am_ws := am_in 3 207 (by decide +kernel) rfl
theorem ml_J2_414 : Cond.methodLink RJ2 414 mJ0_checkIndex_df160.1 ∈ am_ws := am_in 3 210 (by decide +kernel) rfl
theorem ml_J2_71 : Cond.methodLink RJ2 71 mJ2_getChar_3b067.1 ∈ am_ws := am_in 3 211 (by decide +kernel) rfl
theorem ml_X10_40 : Cond.methodLink RX10 40 mX10_blame.1 ∈ am_ws := am_in 3 220 (by decide +kernel) rfl
theorem ml_X10_61 : Cond.methodLink RX10 61 mX10_isFaulty.1 ∈ am_ws := am_in 3 224 (by decide +kernel) rfl
theorem ml_X1_82 : Cond.methodLink RX1 82 mX10_blameToken.1 ∈ am_ws := am_in 3 225 (by decide +kernel) rfl
theorem ml_X1_86 : Cond.methodLink RX1 86 mX1_readClause.1 ∈ am_ws := am_in 3 229 (by decide +kernel) rfl
theorem ml_X1_94 : Cond.methodLink RX1 94 mX1_readBoard.1 ∈ am_ws := am_in 3 233 (by decide +kernel) rfl
theorem ml_X1_101 : Cond.methodLink RX1 101 mX10_number.1 ∈ am_ws := am_in 3 237 (by decide +kernel) rfl
theorem ml_X1_98 : Cond.methodLink RX1 98 mX1_readBarge.1 ∈ am_ws := am_in 4 2 (by decide +kernel) rfl
theorem ml_X1_105 : Cond.methodLink RX1 105 mX1_readStreet.1 ∈ am_ws := am_in 4 6 (by decide +kernel) rfl
theorem ml_X1_108 : Cond.methodLink RX1 108 mX1_readFish.1 ∈ am_ws := am_in 4 10 (by decide +kernel) rfl
theorem ml_X1_90 : Cond.methodLink RX1 90 mX10_expect.1 ∈ am_ws := am_in 4 14 (by decide +kernel) rfl
theorem ml_X11_115 : Cond.methodLink RX11 115 mX10_isFaulty.1 ∈ am_ws := am_in 4 18 (by decide +kernel) rfl
theorem ml_X11_119 : Cond.methodLink RX11 119 mX10_faultAnswer.1 ∈ am_ws := am_in 4 19 (by decide +kernel) rfl
theorem ml_X11_122 : Cond.methodLink RX11 122 mX1_copyFrom.1 ∈ am_ws := am_in 4 23 (by decide +kernel) rfl
theorem ml_X11_125 : Cond.methodLink RX11 125 mX3_beUntold.1 ∈ am_ws := am_in 4 28 (by decide +kernel) rfl
theorem ml_X11_128 : Cond.methodLink RX11 128 mX5_clearBook.1 ∈ am_ws := am_in 4 29 (by decide +kernel) rfl
theorem ml_X11_131 : Cond.methodLink RX11 131 mX8_clear.1 ∈ am_ws := am_in 4 30 (by decide +kernel) rfl
theorem ml_X8_15 : Cond.methodLink RX8 15 mJ7_fill_53178.1 ∈ am_ws := am_in 4 34 (by decide +kernel) rfl
theorem ml_X11_134 : Cond.methodLink RX11 134 mX7_clear.1 ∈ am_ws := am_in 4 35 (by decide +kernel) rfl
theorem ml_L_15 : Cond.methodLink RL 15 mX11_law.1 ∈ am_ws := am_in 4 42 (by decide +kernel) rfl
theorem ml_X11_145 : Cond.methodLink RX11 145 mX3_read.1 ∈ am_ws := am_in 4 46 (by decide +kernel) rfl
theorem ml_X3_38 : Cond.methodLink RX3 38 mX3_readSum.1 ∈ am_ws := am_in 4 50 (by decide +kernel) rfl
theorem ml_X3_58 : Cond.methodLink RX3 58 mX3_readProduct.1 ∈ am_ws := am_in 4 54 (by decide +kernel) rfl
theorem ml_X3_67 : Cond.methodLink RX3 67 mX3_readUnit.1 ∈ am_ws := am_in 4 58 (by decide +kernel) rfl
theorem ml_X3_72 : Cond.methodLink RX3 72 mX10_isAtDigit.1 ∈ am_ws := am_in 4 62 (by decide +kernel) rfl
theorem ml_X3_75 : Cond.methodLink RX3 75 mX10_number.1 ∈ am_ws := am_in 4 66 (by decide +kernel) rfl
theorem ml_X3_63 : Cond.methodLink RX3 63 mX10_takeOneOf.1 ∈ am_ws := am_in 4 68 (by decide +kernel) rfl
theorem ml_X3_81 : Cond.methodLink RX3 81 mX3_isNestedDeeper.1 ∈ am_ws := am_in 4 72 (by decide +kernel) rfl
theorem ml_X3_94 : Cond.methodLink RX3 94 mX10_blameToken.1 ∈ am_ws := am_in 4 75 (by decide +kernel) rfl
theorem ml_X3_47 : Cond.methodLink RX3 47 mX10_isFaulty.1 ∈ am_ws := am_in 4 76 (by decide +kernel) rfl
theorem ml_X3_85 : Cond.methodLink RX3 85 mX10_expect.1 ∈ am_ws := am_in 4 77 (by decide +kernel) rfl
theorem ml_X3_91 : Cond.methodLink RX3 91 mX10_word.1 ∈ am_ws := am_in 4 79 (by decide +kernel) rfl
theorem ml_X3_42 : Cond.methodLink RX3 42 mX10_expectEnd.1 ∈ am_ws := am_in 4 82 (by decide +kernel) rfl
theorem ml_X10_48 : Cond.methodLink RX10 48 mX10_isAtEnd.1 ∈ am_ws := am_in 4 86 (by decide +kernel) rfl
theorem ml_L_18 : Cond.methodLink RL 18 mX11_work.1 ∈ am_ws := am_in 4 90 (by decide +kernel) rfl
theorem ml_X11_146 : Cond.methodLink RX11 146 mX7_isFull.1 ∈ am_ws := am_in 4 94 (by decide +kernel) rfl
theorem ml_X11_149 : Cond.methodLink RX11 149 mX9_read.1 ∈ am_ws := am_in 4 98 (by decide +kernel) rfl
theorem ml_X9_25 : Cond.methodLink RX9 25 mX9_readRow.1 ∈ am_ws := am_in 4 102 (by decide +kernel) rfl
theorem ml_X9_34 : Cond.methodLink RX9 34 mX10_isFaulty.1 ∈ am_ws := am_in 4 106 (by decide +kernel) rfl
theorem ml_X9_38 : Cond.methodLink RX9 38 mX10_isAtEnd.1 ∈ am_ws := am_in 4 107 (by decide +kernel) rfl
theorem ml_X9_41 : Cond.methodLink RX9 41 mX10_next.1 ∈ am_ws := am_in 4 108 (by decide +kernel) rfl
theorem ml_X9_45 : Cond.methodLink RX9 45 mX9_readStep.1 ∈ am_ws := am_in 4 109 (by decide +kernel) rfl
theorem ml_X9_54 : Cond.methodLink RX9 54 mX10_word.1 ∈ am_ws := am_in 4 114 (by decide +kernel) rfl
theorem ml_X9_58 : Cond.methodLink RX9 58 mX10_blameToken.1 ∈ am_ws := am_in 4 115 (by decide +kernel) rfl
theorem ml_X9_62 : Cond.methodLink RX9 62 mX10_number.1 ∈ am_ws := am_in 4 116 (by decide +kernel) rfl
theorem ml_X9_48 : Cond.methodLink RX9 48 mX10_expect.1 ∈ am_ws := am_in 4 117 (by decide +kernel) rfl
theorem ml_X9_29 : Cond.methodLink RX9 29 mX10_expectEnd.1 ∈ am_ws := am_in 4 118 (by decide +kernel) rfl
theorem ml_X11_152 : Cond.methodLink RX11 152 mX7_keep.1 ∈ am_ws := am_in 4 119 (by decide +kernel) rfl
theorem ml_X7_29 : Cond.methodLink RX7 29 mX7_isFull.1 ∈ am_ws := am_in 4 123 (by decide +kernel) rfl
theorem ml_X11_156 : Cond.methodLink RX11 156 mX9_run.1 ∈ am_ws := am_in 4 124 (by decide +kernel) rfl
theorem ml_X9_75 : Cond.methodLink RX9 75 mX9_runRow.1 ∈ am_ws := am_in 4 128 (by decide +kernel) rfl
theorem ml_X9_79 : Cond.methodLink RX9 79 mX9_isDone.1 ∈ am_ws := am_in 4 132 (by decide +kernel) rfl
theorem ml_X9_83 : Cond.methodLink RX9 83 mX8_hour.1 ∈ am_ws := am_in 4 136 (by decide +kernel) rfl
theorem ml_X9_88 : Cond.methodLink RX9 88 mX4_dueBits.1 ∈ am_ws := am_in 4 137 (by decide +kernel) rfl
theorem ml_X9_94 : Cond.methodLink RX9 94 mX4_passHour.1 ∈ am_ws := am_in 4 138 (by decide +kernel) rfl
theorem ml_X4_65 : Cond.methodLink RX4 65 mX4_openBits.1 ∈ am_ws := am_in 4 142 (by decide +kernel) rfl
theorem ml_X4_37 : Cond.methodLink RX4 37 mX8_lifted.1 ∈ am_ws := am_in 4 146 (by decide +kernel) rfl
theorem ml_X4_41 : Cond.methodLink RX4 41 mX8_shut.1 ∈ am_ws := am_in 4 150 (by decide +kernel) rfl
theorem ml_X4_69 : Cond.methodLink RX4 69 mX8_fine.1 ∈ am_ws := am_in 4 154 (by decide +kernel) rfl
theorem ml_X4_76 : Cond.methodLink RX4 76 mX8_whereIs.1 ∈ am_ws := am_in 4 158 (by decide +kernel) rfl
theorem ml_X4_82 : Cond.methodLink RX4 82 mX8_hour.1 ∈ am_ws := am_in 4 162 (by decide +kernel) rfl
theorem ml_X4_85 : Cond.methodLink RX4 85 mX8_come.1 ∈ am_ws := am_in 4 163 (by decide +kernel) rfl
theorem ml_X4_88 : Cond.methodLink RX4 88 mX8_passedBy.1 ∈ am_ws := am_in 4 167 (by decide +kernel) rfl
theorem ml_X4_94 : Cond.methodLink RX4 94 mX4_passedOn.1 ∈ am_ws := am_in 4 171 (by decide +kernel) rfl
theorem ml_X4_55 : Cond.methodLink RX4 55 mJ9_min_7cf53.1 ∈ am_ws := am_in 4 175 (by decide +kernel) rfl
theorem ml_X4_61 : Cond.methodLink RX4 61 mX4_lets.1 ∈ am_ws := am_in 4 176 (by decide +kernel) rfl
theorem ml_X4_48 : Cond.methodLinkNest RX4 48 mX11_isBitOf.1 "LiddedRiver" ∈ am_nw := am_inN 4 180 (by decide +kernel) rfl
theorem ml_X4_98 : Cond.methodLink RX4 98 mX8_pass.1 ∈ am_ws := am_in 4 183 (by decide +kernel) rfl
theorem ml_X4_102 : Cond.methodLink RX4 102 mX4_hasKnocked.1 ∈ am_ws := am_in 4 187 (by decide +kernel) rfl
theorem ml_X4_105 : Cond.methodLink RX4 105 mX8_knock.1 ∈ am_ws := am_in 4 191 (by decide +kernel) rfl
theorem ml_X4_108 : Cond.methodLink RX4 108 mX8_leave.1 ∈ am_ws := am_in 4 195 (by decide +kernel) rfl
theorem ml_X8_38 : Cond.methodLink RX8 38 mX8_hour.1 ∈ am_ws := am_in 4 199 (by decide +kernel) rfl
theorem ml_X4_111 : Cond.methodLink RX4 111 mX8_addHour.1 ∈ am_ws := am_in 4 200 (by decide +kernel) rfl
theorem ml_X9_98 : Cond.methodLink RX9 98 mX9_modeBy.1 ∈ am_ws := am_in 4 204 (by decide +kernel) rfl
theorem ml_X9_102 : Cond.methodLink RX9 102 mX8_modeOf.1 ∈ am_ws := am_in 4 207 (by decide +kernel) rfl
theorem ml_X8_27 : Cond.methodLink RX8 27 mX8_lifted.1 ∈ am_ws := am_in 4 211 (by decide +kernel) rfl
theorem ml_X8_31 : Cond.methodLinkNest RX8 31 mX11_isBitOf.1 "LiddedRiver" ∈ am_nw := am_inN 4 212 (by decide +kernel) rfl
theorem ml_X8_35 : Cond.methodLink RX8 35 mX8_shut.1 ∈ am_ws := am_in 4 213 (by decide +kernel) rfl
theorem ml_X9_105 : Cond.methodLink RX9 105 mX8_setMode.1 ∈ am_ws := am_in 4 214 (by decide +kernel) rfl
theorem ml_L_21 : Cond.methodLink RL 21 mX11_book.1 ∈ am_ws := am_in 4 221 (by decide +kernel) rfl
theorem ml_X11_163 : Cond.methodLink RX11 163 mX5_readBook.1 ∈ am_ws := am_in 4 225 (by decide +kernel) rfl
theorem ml_X5_44 : Cond.methodLink RX5 44 mX10_isFaulty.1 ∈ am_ws := am_in 4 229 (by decide +kernel) rfl
theorem ml_X5_50 : Cond.methodLink RX5 50 mX10_isAtEnd.1 ∈ am_ws := am_in 4 230 (by decide +kernel) rfl
theorem ml_X5_53 : Cond.methodLink RX5 53 mX5_readLine.1 ∈ am_ws := am_in 4 231 (by decide +kernel) rfl
theorem ml_X5_62 : Cond.methodLink RX5 62 mX10_number.1 ∈ am_ws := am_in 4 235 (by decide +kernel) rfl
theorem ml_X5_66 : Cond.methodLink RX5 66 mX10_blameToken.1 ∈ am_ws := am_in 4 236 (by decide +kernel) rfl
theorem ml_X5_70 : Cond.methodLink RX5 70 mX10_expect.1 ∈ am_ws := am_in 4 237 (by decide +kernel) rfl
theorem ml_L_24 : Cond.methodLink RL 24 mX11_told.1 ∈ am_ws := am_in 5 1 (by decide +kernel) rfl
theorem ml_X11_191 : Cond.methodLink RX11 191 mX11_openNow.1 ∈ am_ws := am_in 5 5 (by decide +kernel) rfl
theorem ml_X11_278 : Cond.methodLink RX11 278 mX6_openIn.1 ∈ am_ws := am_in 5 9 (by decide +kernel) rfl
theorem ml_X6_50 : Cond.methodLink RX6 50 mX6_dueIn.1 ∈ am_ws := am_in 5 13 (by decide +kernel) rfl
theorem ml_X6_40 : Cond.methodLink RX6 40 mX8_hour.1 ∈ am_ws := am_in 5 17 (by decide +kernel) rfl
theorem ml_X6_44 : Cond.methodLink RX6 44 mX4_dueBits.1 ∈ am_ws := am_in 5 18 (by decide +kernel) rfl
theorem ml_X6_54 : Cond.methodLink RX6 54 mX4_openBits.1 ∈ am_ws := am_in 5 19 (by decide +kernel) rfl
theorem ml_X11_200 : Cond.methodLink RX11 200 mX8_allFines.1 ∈ am_ws := am_in 5 20 (by decide +kernel) rfl
theorem ml_X8_41 : Cond.methodLink RX8 41 mX8_sumOfBoards.1 ∈ am_ws := am_in 5 24 (by decide +kernel) rfl
theorem ml_X11_203 : Cond.methodLink RX11 203 mX8_allKnocks.1 ∈ am_ws := am_in 5 28 (by decide +kernel) rfl
theorem ml_X11_206 : Cond.methodLink RX11 206 mX8_bargesThrough.1 ∈ am_ws := am_in 5 32 (by decide +kernel) rfl
theorem ml_X8_45 : Cond.methodLink RX8 45 mX8_whereIs.1 ∈ am_ws := am_in 5 36 (by decide +kernel) rfl
theorem ml_L_27 : Cond.methodLink RL 27 mX11_board.1 ∈ am_ws := am_in 5 41 (by decide +kernel) rfl
theorem ml_X11_209 : Cond.methodLink RX11 209 mX11_needBoard.1 ∈ am_ws := am_in 5 45 (by decide +kernel) rfl
theorem ml_X11_233 : Cond.methodLink RX11 233 mX11_needThere.1 ∈ am_ws := am_in 5 49 (by decide +kernel) rfl
theorem ml_X11_224 : Cond.methodLink RX11 224 mX8_modeOf.1 ∈ am_ws := am_in 5 69 (by decide +kernel) rfl
theorem ml_X11_227 : Cond.methodLink RX11 227 mX8_finesOf.1 ∈ am_ws := am_in 5 70 (by decide +kernel) rfl
theorem ml_X11_230 : Cond.methodLink RX11 230 mX8_knocksAt.1 ∈ am_ws := am_in 5 71 (by decide +kernel) rfl
theorem ml_L_33 : Cond.methodLink RL 33 mX11_barge.1 ∈ am_ws := am_in 5 78 (by decide +kernel) rfl
theorem ml_X11_242 : Cond.methodLink RX11 242 mX8_passedBy.1 ∈ am_ws := am_in 5 82 (by decide +kernel) rfl
theorem ml_X11_245 : Cond.methodLink RX11 245 mX8_whereIs.1 ∈ am_ws := am_in 5 83 (by decide +kernel) rfl
theorem ml_X11_248 : Cond.methodLink RX11 248 mX8_throughHour.1 ∈ am_ws := am_in 5 84 (by decide +kernel) rfl
theorem ml_L_36 : Cond.methodLink RL 36 mX11_street.1 ∈ am_ws := am_in 5 91 (by decide +kernel) rfl
theorem ml_X11_260 : Cond.methodLink RX11 260 mX1_isDrained.1 ∈ am_ws := am_in 5 95 (by decide +kernel) rfl
theorem ml_X1_111 : Cond.methodLinkNest RX1 111 mX11_isBitOf.1 "LiddedRiver" ∈ am_nw := am_inN 5 99 (by decide +kernel) rfl
theorem ml_L_39 : Cond.methodLink RL 39 mX11_lawful.1 ∈ am_ws := am_in 5 103 (by decide +kernel) rfl
theorem ml_X11_264 : Cond.methodLink RX11 264 mX4_isDue.1 ∈ am_ws := am_in 5 107 (by decide +kernel) rfl
theorem ml_L_43 : Cond.methodLink RL 43 mX11_opens.1 ∈ am_ws := am_in 5 114 (by decide +kernel) rfl
theorem ml_X11_281 : Cond.methodLink RX11 281 mX11_isBitOf.1 ∈ am_ws := am_in 5 118 (by decide +kernel) rfl
theorem ml_L_46 : Cond.methodLink RL 46 mX11_often.1 ∈ am_ws := am_in 5 122 (by decide +kernel) rfl
theorem ml_L_49 : Cond.methodLink RL 49 mX11_trip.1 ∈ am_ws := am_in 5 129 (by decide +kernel) rfl
theorem ml_X11_272 : Cond.methodLink RX11 272 mX11_needMast.1 ∈ am_ws := am_in 5 133 (by decide +kernel) rfl
theorem ml_X11_284 : Cond.methodLink RX11 284 mX6_sail.1 ∈ am_ws := am_in 5 137 (by decide +kernel) rfl
theorem ml_X6_63 : Cond.methodLink RX6 63 mJ7_fill_53178.1 ∈ am_ws := am_in 5 141 (by decide +kernel) rfl
theorem ml_X6_69 : Cond.methodLink RX6 69 mX6_openIn.1 ∈ am_ws := am_in 5 142 (by decide +kernel) rfl
theorem ml_X6_72 : Cond.methodLink RX6 72 mX4_passedOn.1 ∈ am_ws := am_in 5 143 (by decide +kernel) rfl
theorem ml_X6_76 : Cond.methodLink RX6 76 mX4_hasKnocked.1 ∈ am_ws := am_in 5 144 (by decide +kernel) rfl
theorem ml_X11_293 : Cond.methodLink RX11 293 mX6_mostKnockedAt.1 ∈ am_ws := am_in 5 145 (by decide +kernel) rfl
theorem ml_L_53 : Cond.methodLink RL 53 mX11_soonest.1 ∈ am_ws := am_in 5 152 (by decide +kernel) rfl
theorem ml_L_56 : Cond.methodLink RL 56 mX11_hold.1 ∈ am_ws := am_in 5 159 (by decide +kernel) rfl
theorem ml_X11_296 : Cond.methodLink RX11 296 mX1_hoursTo.1 ∈ am_ws := am_in 5 163 (by decide +kernel) rfl
theorem ml_X11_299 : Cond.methodLink RX11 299 mX4_lets.1 ∈ am_ws := am_in 5 167 (by decide +kernel) rfl
theorem ml_L_59 : Cond.methodLink RL 59 mX11_tallest.1 ∈ am_ws := am_in 5 171 (by decide +kernel) rfl
theorem ml_L_62 : Cond.methodLink RL 62 mX11_letter.1 ∈ am_ws := am_in 5 178 (by decide +kernel) rfl
theorem ml_L_65 : Cond.methodLink RL 65 mX11_flood.1 ∈ am_ws := am_in 5 185 (by decide +kernel) rfl
theorem ml_X11_335 : Cond.methodLink RX11 335 mX11_needBits.1 ∈ am_ws := am_in 5 189 (by decide +kernel) rfl
theorem ml_X11_411 : Cond.methodLink RX11 411 mX11_allBits.1 ∈ am_ws := am_in 5 193 (by decide +kernel) rfl
theorem ml_X11_338 : Cond.methodLink RX11 338 mX2_fewest.1 ∈ am_ws := am_in 5 196 (by decide +kernel) rfl
theorem ml_X2_25 : Cond.methodLinkNest RX2 25 mX11_isBitOf.1 "LiddedRiver" ∈ am_nw := am_inN 5 200 (by decide +kernel) rfl
theorem ml_X2_38 : Cond.methodLink RX2 38 mX2_choose.1 ∈ am_ws := am_in 5 201 (by decide +kernel) rfl
theorem ml_X2_41 : Cond.methodLink RX2 41 mX2_couldHold.1 ∈ am_ws := am_in 5 205 (by decide +kernel) rfl
theorem ml_X2_57 : Cond.methodLink RX2 57 mJ9_min_7cf53.1 ∈ am_ws := am_in 5 209 (by decide +kernel) rfl
theorem ml_X2_63 : Cond.methodLink RX2 63 mJ9_max_7cf53.1 ∈ am_ws := am_in 5 210 (by decide +kernel) rfl
theorem ml_X2_47 : Cond.methodLink RX2 47 mX2_drain.1 ∈ am_ws := am_in 5 213 (by decide +kernel) rfl
theorem ml_L_68 : Cond.methodLink RL 68 mX11_holds.1 ∈ am_ws := am_in 5 220 (by decide +kernel) rfl
theorem ml_L_71 : Cond.methodLink RL 71 mX11_smells.1 ∈ am_ws := am_in 5 227 (by decide +kernel) rfl
theorem ml_X11_341 : Cond.methodLink RX11 341 mX5_smellAt.1 ∈ am_ws := am_in 5 231 (by decide +kernel) rfl
theorem ml_X5_77 : Cond.methodLink RX5 77 mX5_windows.1 ∈ am_ws := am_in 5 235 (by decide +kernel) rfl
theorem ml_X5_81 : Cond.methodLink RX5 81 mX5_scentOf.1 ∈ am_ws := am_in 5 239 (by decide +kernel) rfl
theorem ml_X5_85 : Cond.methodLinkNest RX5 85 mX11_isBitOf.1 "LiddedRiver" ∈ am_nw := am_inN 6 2 (by decide +kernel) rfl
theorem ml_L_74 : Cond.methodLink RL 74 mX11_openers.1 ∈ am_ws := am_in 6 6 (by decide +kernel) rfl
theorem ml_X11_344 : Cond.methodLink RX11 344 mX5_weigh.1 ∈ am_ws := am_in 6 10 (by decide +kernel) rfl
theorem ml_X5_89 : Cond.methodLink RX5 89 mX5_weighTo.1 ∈ am_ws := am_in 6 14 (by decide +kernel) rfl
theorem ml_X5_102 : Cond.methodLink RX5 102 mX5_windowBehind.1 ∈ am_ws := am_in 6 18 (by decide +kernel) rfl
theorem ml_X5_105 : Cond.methodLink RX5 105 mX5_isRight.1 ∈ am_ws := am_in 6 22 (by decide +kernel) rfl
theorem ml_X5_93 : Cond.methodLink RX5 93 mX5_weighOn.1 ∈ am_ws := am_in 6 26 (by decide +kernel) rfl
theorem ml_X5_99 : Cond.methodLink RX5 99 mX5_waysBy.1 ∈ am_ws := am_in 6 30 (by decide +kernel) rfl
theorem ml_X11_350 : Cond.methodLink RX11 350 mX5_firstSet.1 ∈ am_ws := am_in 6 34 (by decide +kernel) rfl
theorem ml_X5_108 : Cond.methodLink RX5 108 mX5_leastWindow.1 ∈ am_ws := am_in 6 38 (by decide +kernel) rfl
theorem ml_X11_353 : Cond.methodLink RX11 353 mX5_boardsInAll.1 ∈ am_ws := am_in 6 42 (by decide +kernel) rfl
theorem ml_X5_111 : Cond.methodLink RX5 111 mX5_boardsIn.1 ∈ am_ws := am_in 6 46 (by decide +kernel) rfl
theorem ml_X5_114 : Cond.methodLink RX5 114 mX5_setsWith.1 ∈ am_ws := am_in 6 50 (by decide +kernel) rfl
theorem ml_X11_356 : Cond.methodLink RX11 356 mX5_boardsInNone.1 ∈ am_ws := am_in 6 54 (by decide +kernel) rfl
theorem ml_L_77 : Cond.methodLink RL 77 mX11_nose.1 ∈ am_ws := am_in 6 61 (by decide +kernel) rfl
theorem ml_X11_359 : Cond.methodLink RX11 359 mX5_isInBook.1 ∈ am_ws := am_in 6 65 (by decide +kernel) rfl
theorem ml_X11_362 : Cond.methodLink RX11 362 mX5_mostLeftBy.1 ∈ am_ws := am_in 6 69 (by decide +kernel) rfl
theorem ml_X5_117 : Cond.methodLink RX5 117 mJ9_max_7cf53.1 ∈ am_ws := am_in 6 73 (by decide +kernel) rfl
theorem ml_L_80 : Cond.methodLink RL 80 mX11_anglers.1 ∈ am_ws := am_in 6 77 (by decide +kernel) rfl
theorem ml_X11_365 : Cond.methodLink RX11 365 mX0_settle.1 ∈ am_ws := am_in 6 81 (by decide +kernel) rfl
theorem ml_X0_26 : Cond.methodLink RX0 26 mX0_place.1 ∈ am_ws := am_in 6 85 (by decide +kernel) rfl
theorem ml_X0_35 : Cond.methodLink RX0 35 mX0_isRest.1 ∈ am_ws := am_in 6 89 (by decide +kernel) rfl
theorem ml_X0_45 : Cond.methodLink RX0 45 mJ9_min_7cf53.1 ∈ am_ws := am_in 6 93 (by decide +kernel) rfl
theorem ml_X0_51 : Cond.methodLink RX0 51 mJ9_max_7cf53.1 ∈ am_ws := am_in 6 94 (by decide +kernel) rfl
theorem ml_X0_39 : Cond.methodLink RX0 39 mX0_keepFirst.1 ∈ am_ws := am_in 6 95 (by decide +kernel) rfl
theorem ml_X11_371 : Cond.methodLink RX11 371 mX0_firstCatch.1 ∈ am_ws := am_in 6 100 (by decide +kernel) rfl
theorem ml_L_83 : Cond.methodLink RL 83 mX11_stand.1 ∈ am_ws := am_in 6 107 (by decide +kernel) rfl
theorem ml_L_86 : Cond.methodLink RL 86 mX11_walk.1 ∈ am_ws := am_in 6 114 (by decide +kernel) rfl
theorem ml_X11_377 : Cond.methodLink RX11 377 mX1_bearing.1 ∈ am_ws := am_in 6 118 (by decide +kernel) rfl
theorem ml_X11_380 : Cond.methodLink RX11 380 mJ9_abs_0f7a4.1 ∈ am_ws := am_in 6 122 (by decide +kernel) rfl
theorem ml_L_89 : Cond.methodLink RL 89 mX11_reach.1 ∈ am_ws := am_in 6 128 (by decide +kernel) rfl
theorem ml_L_92 : Cond.methodLink RL 92 mX11_peak.1 ∈ am_ws := am_in 6 135 (by decide +kernel) rfl
theorem ml_L_95 : Cond.methodLink RL 95 mX11_narrow.1 ∈ am_ws := am_in 6 142 (by decide +kernel) rfl
theorem ml_X11_275 : Cond.methodLink RX11 275 mX1_lowerThan.1 ∈ am_ws := am_in 6 146 (by decide +kernel) rfl
theorem ml_L_98 : Cond.methodLink RL 98 mX11_worst.1 ∈ am_ws := am_in 6 153 (by decide +kernel) rfl
theorem ml_L_101 : Cond.methodLink RL 101 mX11_ahead.1 ∈ am_ws := am_in 6 160 (by decide +kernel) rfl
theorem ml_X11_305 : Cond.methodLink RX11 305 mX6_letPass.1 ∈ am_ws := am_in 6 164 (by decide +kernel) rfl
theorem ml_X6_85 : Cond.methodLink RX6 85 mX6_freeze.1 ∈ am_ws := am_in 6 168 (by decide +kernel) rfl
theorem ml_X6_92 : Cond.methodLink RX6 92 mX8_writeTo.1 ∈ am_ws := am_in 6 172 (by decide +kernel) rfl
theorem ml_X6_101 : Cond.methodLink RX6 101 mX6_drawFrozen.1 ∈ am_ws := am_in 6 173 (by decide +kernel) rfl
theorem ml_X6_104 : Cond.methodLink RX6 104 mX6_dueThen.1 ∈ am_ws := am_in 6 178 (by decide +kernel) rfl
theorem ml_X6_121 : Cond.methodLink RX6 121 mX3_mindsFines.1 ∈ am_ws := am_in 6 182 (by decide +kernel) rfl
theorem ml_X6_127 : Cond.methodLink RX6 127 mX8_finesOf.1 ∈ am_ws := am_in 6 186 (by decide +kernel) rfl
theorem ml_X6_130 : Cond.methodLink RX6 130 mX4_isDue.1 ∈ am_ws := am_in 6 187 (by decide +kernel) rfl
theorem ml_X6_107 : Cond.methodLink RX6 107 mJ6_bitCount_0f7a4.1 ∈ am_ws := am_in 6 188 (by decide +kernel) rfl
theorem ml_X6_112 : Cond.methodLink RX6 112 mX4_passHour.1 ∈ am_ws := am_in 6 189 (by decide +kernel) rfl
theorem ml_L_104 : Cond.methodLink RL 104 mX11_winters.1 ∈ am_ws := am_in 6 193 (by decide +kernel) rfl
theorem ml_X11_311 : Cond.methodLink RX11 311 mX11_needWinter.1 ∈ am_ws := am_in 6 197 (by decide +kernel) rfl
theorem ml_X11_314 : Cond.methodLink RX11 314 mX6_freeze.1 ∈ am_ws := am_in 6 201 (by decide +kernel) rfl
theorem ml_X11_317 : Cond.methodLink RX11 317 mX6_knocksSince.1 ∈ am_ws := am_in 6 202 (by decide +kernel) rfl
theorem ml_X6_134 : Cond.methodLink RX6 134 mX8_allKnocks.1 ∈ am_ws := am_in 6 206 (by decide +kernel) rfl
theorem ml_X11_323 : Cond.methodLink RX11 323 mX6_finesSince.1 ∈ am_ws := am_in 6 207 (by decide +kernel) rfl
theorem ml_X6_137 : Cond.methodLink RX6 137 mX8_allFines.1 ∈ am_ws := am_in 6 211 (by decide +kernel) rfl
theorem ml_L_108 : Cond.methodLink RL 108 mX11_span.1 ∈ am_ws := am_in 6 215 (by decide +kernel) rfl
theorem ml_X11_332 : Cond.methodLink RX11 332 mJ9_max_7cf53.1 ∈ am_ws := am_in 6 219 (by decide +kernel) rfl
theorem ml_L_115 : Cond.methodLink RL 115 mX12_init.1 ∈ am_ws := am_in 6 222 (by decide +kernel) rfl
theorem ml_X12_97 : Cond.methodLink RX12 97 mX12_tellsNothing.1 ∈ am_ws := am_in 6 227 (by decide +kernel) rfl
theorem ml_X12_100 : Cond.methodLink RX12 100 mX12_beginsAnew.1 ∈ am_ws := am_in 6 231 (by decide +kernel) rfl
theorem ml_X12_192 : Cond.methodLink RX12 192 mX12_lays.1 ∈ am_ws := am_in 6 235 (by decide +kernel) rfl
theorem ml_X12_137 : Cond.methodLink RX12 137 mX12_in.1 ∈ am_ws := am_in 6 238 (by decide +kernel) rfl
theorem ml_L_126 : Cond.methodLink RL 126 mX12_thrown.1 ∈ am_ws := am_in 7 152 (by decide +kernel) rfl
theorem ml_L_119 : Cond.methodLink RL 119 mX12_feed.1 ∈ am_ws := am_in 7 156 (by decide +kernel) rfl
theorem ml_L_125 : Cond.methodLink RL 125 mX12_river.1 ∈ am_ws := am_in 7 160 (by decide +kernel) rfl
theorem ml_X12_179 : Cond.methodLink RX12 179 mX12_bad.1 ∈ am_ws := am_in 7 164 (by decide +kernel) rfl
theorem ml_X12_183 : Cond.methodLink RX12 183 mX12_starts.1 ∈ am_ws := am_in 7 168 (by decide +kernel) rfl
theorem ml_X12_125 : Cond.methodLink RX12 125 mX12_blanks.1 ∈ am_ws := am_in 7 172 (by decide +kernel) rfl
theorem ml_X12_115 : Cond.methodLink RX12 115 mX12_byteAt.1 ∈ am_ws := am_in 7 176 (by decide +kernel) rfl
theorem ml_X12_186 : Cond.methodLink RX12 186 mX12_clause.1 ∈ am_ws := am_in 7 180 (by decide +kernel) rfl
theorem ml_X12_165 : Cond.methodLink RX12 165 mX12_kindHere.1 ∈ am_ws := am_in 7 184 (by decide +kernel) rfl
theorem ml_X12_152 : Cond.methodLink RX12 152 mX12_isWord.1 ∈ am_ws := am_in 7 188 (by decide +kernel) rfl
theorem ml_X12_144 : Cond.methodLink RX12 144 mX12_wordHere.1 ∈ am_ws := am_in 7 192 (by decide +kernel) rfl
theorem ml_X12_141 : Cond.methodLink RX12 141 mX12_isSmall.1 ∈ am_ws := am_in 7 196 (by decide +kernel) rfl
theorem ml_X12_148 : Cond.methodLink RX12 148 mX12_six.1 ∈ am_ws := am_in 7 199 (by decide +kernel) rfl
theorem ml_X12_132 : Cond.methodLink RX12 132 mX12_wrong.1 ∈ am_ws := am_in 7 202 (by decide +kernel) rfl
theorem ml_X12_168 : Cond.methodLink RX12 168 mX12_isFull.1 ∈ am_ws := am_in 7 206 (by decide +kernel) rfl
theorem ml_X12_156 : Cond.methodLink RX12 156 mX12_skipWord.1 ∈ am_ws := am_in 7 210 (by decide +kernel) rfl
theorem ml_X12_171 : Cond.methodLink RX12 171 mX12_number.1 ∈ am_ws := am_in 7 214 (by decide +kernel) rfl
theorem ml_X12_128 : Cond.methodLink RX12 128 mX12_isDigit.1 ∈ am_ws := am_in 7 218 (by decide +kernel) rfl
theorem ml_X12_175 : Cond.methodLink RX12 175 mX12_sign.1 ∈ am_ws := am_in 7 222 (by decide +kernel) rfl
theorem ml_X12_189 : Cond.methodLink RX12 189 mX12_ends.1 ∈ am_ws := am_in 7 226 (by decide +kernel) rfl
theorem ml_L_132 : Cond.methodLink RL 132 mX12_law.1 ∈ am_ws := am_in 7 230 (by decide +kernel) rfl
theorem ml_X12_233 : Cond.methodLink RX12 233 mX12_sum.1 ∈ am_ws := am_in 7 234 (by decide +kernel) rfl
theorem ml_X12_214 : Cond.methodLink RX12 214 mX12_product.1 ∈ am_ws := am_in 7 238 (by decide +kernel) rfl
theorem ml_X12_223 : Cond.methodLink RX12 223 mX12_one.1 ∈ am_ws := am_in 8 2 (by decide +kernel) rfl
theorem ml_X12_229 : Cond.methodLink RX12 229 mX12_opensOne.1 ∈ am_ws := am_in 8 6 (by decide +kernel) rfl
theorem ml_X12_220 : Cond.methodLink RX12 220 mX12_notes.1 ∈ am_ws := am_in 8 10 (by decide +kernel) rfl
theorem ml_X12_236 : Cond.methodLink RX12 236 mX12_knownHere.1 ∈ am_ws := am_in 8 14 (by decide +kernel) rfl
theorem ml_X12_226 : Cond.methodLink RX12 226 mX12_takes.1 ∈ am_ws := am_in 8 18 (by decide +kernel) rfl
theorem ml_X12_217 : Cond.methodLink RX12 217 mX12_takesSign.1 ∈ am_ws := am_in 8 22 (by decide +kernel) rfl
theorem ml_L_138 : Cond.methodLink RL 138 mX12_book.1 ∈ am_ws := am_in 8 26 (by decide +kernel) rfl
theorem ml_X12_258 : Cond.methodLink RX12 258 mX12_has.1 ∈ am_ws := am_in 8 30 (by decide +kernel) rfl
theorem ml_L_142 : Cond.methodLink RL 142 mX12_fault.1 ∈ am_ws := am_in 8 33 (by decide +kernel) rfl
theorem ml_L_135 : Cond.methodLink RL 135 mX12_work.1 ∈ am_ws := am_in 8 37 (by decide +kernel) rfl
theorem ml_X12_255 : Cond.methodLink RX12 255 mX12_readsStep.1 ∈ am_ws := am_in 8 41 (by decide +kernel) rfl
theorem ml_X12_249 : Cond.methodLink RX12 249 mX12_stepHere.1 ∈ am_ws := am_in 8 45 (by decide +kernel) rfl
theorem ml_X12_314 : Cond.methodLink RX12 314 mX12_copies.1 ∈ am_ws := am_in 8 49 (by decide +kernel) rfl
theorem ml_X12_304 : Cond.methodLink RX12 304 mX12_goes.1 ∈ am_ws := am_in 8 52 (by decide +kernel) rfl
theorem ml_X12_307 : Cond.methodLink RX12 307 mX12_does.1 ∈ am_ws := am_in 8 56 (by decide +kernel) rfl
theorem ml_X12_297 : Cond.methodLink RX12 297 mX12_hourEnds.1 ∈ am_ws := am_in 8 60 (by decide +kernel) rfl
theorem ml_X12_276 : Cond.methodLink RX12 276 mX12_openBits.1 ∈ am_ws := am_in 8 64 (by decide +kernel) rfl
theorem ml_X12_273 : Cond.methodLink RX12 273 mX12_opensIn.1 ∈ am_ws := am_in 8 68 (by decide +kernel) rfl
theorem ml_X12_269 : Cond.methodLink RX12 269 mX12_isLawfulNow.1 ∈ am_ws := am_in 8 72 (by decide +kernel) rfl
theorem ml_X12_265 : Cond.methodLink RX12 265 mX12_isLawful.1 ∈ am_ws := am_in 8 76 (by decide +kernel) rfl
theorem ml_X12_262 : Cond.methodLink RX12 262 mX12_byLaw.1 ∈ am_ws := am_in 8 80 (by decide +kernel) rfl
theorem ml_X12_242 : Cond.methodLink RX12 242 mX12_more.1 ∈ am_ws := am_in 8 84 (by decide +kernel) rfl
theorem ml_X12_245 : Cond.methodLink RX12 245 mX12_by.1 ∈ am_ws := am_in 8 87 (by decide +kernel) rfl
theorem ml_X12_239 : Cond.methodLink RX12 239 mX12_less.1 ∈ am_ws := am_in 8 90 (by decide +kernel) rfl
theorem ml_X12_283 : Cond.methodLink RX12 283 mX12_isBarge.1 ∈ am_ws := am_in 8 93 (by decide +kernel) rfl
theorem ml_X12_286 : Cond.methodLink RX12 286 mX12_goesOn.1 ∈ am_ws := am_in 8 97 (by decide +kernel) rfl
theorem ml_X12_290 : Cond.methodLink RX12 290 mX12_comesIn.1 ∈ am_ws := am_in 8 101 (by decide +kernel) rfl
theorem ml_X12_294 : Cond.methodLink RX12 294 mX12_mastOf.1 ∈ am_ws := am_in 8 105 (by decide +kernel) rfl
theorem ml_L_146 : Cond.methodLink RL 146 mX12_undo.1 ∈ am_ws := am_in 8 109 (by decide +kernel) rfl
theorem ml_L_149 : Cond.methodLink RL 149 mX12_told.1 ∈ am_ws := am_in 8 113 (by decide +kernel) rfl
theorem ml_X12_318 : Cond.methodLink RX12 318 mX12_ones.1 ∈ am_ws := am_in 8 117 (by decide +kernel) rfl
theorem ml_X12_321 : Cond.methodLink RX12 321 mX12_sumOf.1 ∈ am_ws := am_in 8 120 (by decide +kernel) rfl
theorem ml_X12_324 : Cond.methodLink RX12 324 mX12_throughIn.1 ∈ am_ws := am_in 8 124 (by decide +kernel) rfl
theorem ml_L_153 : Cond.methodLink RL 153 mX12_board.1 ∈ am_ws := am_in 8 128 (by decide +kernel) rfl
theorem ml_X12_327 : Cond.methodLink RX12 327 mX12_isBoard.1 ∈ am_ws := am_in 8 132 (by decide +kernel) rfl
theorem ml_L_156 : Cond.methodLink RL 156 mX12_barge.1 ∈ am_ws := am_in 8 136 (by decide +kernel) rfl
theorem ml_L_159 : Cond.methodLink RL 159 mX12_street.1 ∈ am_ws := am_in 8 140 (by decide +kernel) rfl
theorem ml_X12_330 : Cond.methodLink RX12 330 mX12_isHolding.1 ∈ am_ws := am_in 8 144 (by decide +kernel) rfl
theorem ml_L_163 : Cond.methodLink RL 163 mX12_lawful.1 ∈ am_ws := am_in 8 148 (by decide +kernel) rfl
theorem ml_L_166 : Cond.methodLink RL 166 mX12_opens.1 ∈ am_ws := am_in 8 152 (by decide +kernel) rfl
theorem ml_X12_333 : Cond.methodLink RX12 333 mX12_tries.1 ∈ am_ws := am_in 8 156 (by decide +kernel) rfl
theorem ml_L_169 : Cond.methodLink RL 169 mX12_often.1 ∈ am_ws := am_in 8 160 (by decide +kernel) rfl
theorem ml_L_173 : Cond.methodLink RL 173 mX12_busiest.1 ∈ am_ws := am_in 8 164 (by decide +kernel) rfl
theorem ml_L_218 : Cond.methodLink RL 218 mX12_peak.1 ∈ am_ws := am_in 8 168 (by decide +kernel) rfl
theorem ml_L_176 : Cond.methodLink RL 176 mX12_trip.1 ∈ am_ws := am_in 8 172 (by decide +kernel) rfl
theorem ml_X12_336 : Cond.methodLink RX12 336 mX12_isMast.1 ∈ am_ws := am_in 8 176 (by decide +kernel) rfl
theorem ml_X12_339 : Cond.methodLink RX12 339 mX12_trips.1 ∈ am_ws := am_in 8 179 (by decide +kernel) rfl
theorem ml_L_179 : Cond.methodLink RL 179 mX12_soonest.1 ∈ am_ws := am_in 8 183 (by decide +kernel) rfl
theorem ml_L_182 : Cond.methodLink RL 182 mX12_hold.1 ∈ am_ws := am_in 8 187 (by decide +kernel) rfl
theorem ml_L_185 : Cond.methodLink RL 185 mX12_tallest.1 ∈ am_ws := am_in 8 191 (by decide +kernel) rfl
theorem ml_L_188 : Cond.methodLink RL 188 mX12_letter.1 ∈ am_ws := am_in 8 195 (by decide +kernel) rfl
theorem ml_L_191 : Cond.methodLink RL 191 mX12_flood.1 ∈ am_ws := am_in 8 199 (by decide +kernel) rfl
theorem ml_L_194 : Cond.methodLink RL 194 mX12_holds.1 ∈ am_ws := am_in 8 203 (by decide +kernel) rfl
theorem ml_X12_342 : Cond.methodLink RX12 342 mX12_areBoards.1 ∈ am_ws := am_in 8 207 (by decide +kernel) rfl
theorem ml_L_197 : Cond.methodLink RL 197 mX12_smells.1 ∈ am_ws := am_in 8 211 (by decide +kernel) rfl
theorem ml_X12_345 : Cond.methodLink RX12 345 mX12_smellAt.1 ∈ am_ws := am_in 8 215 (by decide +kernel) rfl
theorem ml_L_200 : Cond.methodLink RL 200 mX12_openers.1 ∈ am_ws := am_in 8 219 (by decide +kernel) rfl
theorem ml_X12_348 : Cond.methodLink RX12 348 mX12_isOpener.1 ∈ am_ws := am_in 8 223 (by decide +kernel) rfl
theorem ml_L_203 : Cond.methodLink RL 203 mX12_nose.1 ∈ am_ws := am_in 8 227 (by decide +kernel) rfl
theorem ml_L_206 : Cond.methodLink RL 206 mX12_anglers.1 ∈ am_ws := am_in 8 231 (by decide +kernel) rfl
theorem ml_X12_360 : Cond.methodLink RX12 360 mX12_laysAnglers.1 ∈ am_ws := am_in 8 235 (by decide +kernel) rfl
theorem ml_X12_357 : Cond.methodLink RX12 357 mX12_angles.1 ∈ am_ws := am_in 8 239 (by decide +kernel) rfl
theorem ml_X12_351 : Cond.methodLink RX12 351 mX12_isRest.1 ∈ am_ws := am_in 9 3 (by decide +kernel) rfl
theorem ml_L_209 : Cond.methodLink RL 209 mX12_stand.1 ∈ am_ws := am_in 9 7 (by decide +kernel) rfl
theorem ml_L_212 : Cond.methodLink RL 212 mX12_walk.1 ∈ am_ws := am_in 9 11 (by decide +kernel) rfl
theorem ml_X12_363 : Cond.methodLink RX12 363 mX12_isWeight.1 ∈ am_ws := am_in 9 15 (by decide +kernel) rfl
theorem ml_X12_366 : Cond.methodLink RX12 366 mX12_walks.1 ∈ am_ws := am_in 9 18 (by decide +kernel) rfl
theorem ml_L_215 : Cond.methodLink RL 215 mX12_reach.1 ∈ am_ws := am_in 9 22 (by decide +kernel) rfl
theorem ml_L_221 : Cond.methodLink RL 221 mX12_narrow.1 ∈ am_ws := am_in 9 26 (by decide +kernel) rfl
theorem ml_L_224 : Cond.methodLink RL 224 mX12_worst.1 ∈ am_ws := am_in 9 30 (by decide +kernel) rfl
theorem ml_L_227 : Cond.methodLink RL 227 mX12_ahead.1 ∈ am_ws := am_in 9 34 (by decide +kernel) rfl
theorem ml_L_231 : Cond.methodLink RL 231 mX12_winters.1 ∈ am_ws := am_in 9 38 (by decide +kernel) rfl
theorem ml_X12_376 : Cond.methodLink RX12 376 mX12_isWinter.1 ∈ am_ws := am_in 9 42 (by decide +kernel) rfl
theorem ml_X12_379 : Cond.methodLink RX12 379 mX12_wintersBy.1 ∈ am_ws := am_in 9 45 (by decide +kernel) rfl
theorem ml_L_235 : Cond.methodLink RL 235 mX12_span.1 ∈ am_ws := am_in 9 50 (by decide +kernel) rfl
theorem ml_L_239 : Cond.methodLink RL 239 mX12_image.1 ∈ am_ws := am_in 9 54 (by decide +kernel) rfl
theorem ml_X12_390 : Cond.methodLink RX12 390 mX12_putsAll.1 ∈ am_ws := am_in 9 58 (by decide +kernel) rfl
theorem ml_X12_386 : Cond.methodLink RX12 386 mX12_puts.1 ∈ am_ws := am_in 9 62 (by decide +kernel) rfl
theorem ml_L_243 : Cond.methodLink RL 243 mX12_restore.1 ∈ am_ws := am_in 9 66 (by decide +kernel) rfl
theorem ml_L_247 : Cond.methodLink RL 247 mX12_status.1 ∈ am_ws := am_in 9 70 (by decide +kernel) rfl
theorem ml_L_251 : Cond.methodLink RL 251 mX12_count.1 ∈ am_ws := am_in 9 74 (by decide +kernel) rfl
