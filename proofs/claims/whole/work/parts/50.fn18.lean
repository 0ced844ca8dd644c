theorem ef_X12_clause {d : Nat} {h : am_H} (g : lay h) {M : Mem} {M' : Mem} (hyp : f_X12_clause M = some M') : am_Ev (d + 5) mX12_clause [.inr (54, 0)] (am_hM h M) (.inl (none, am_hM h M')) := by
  unfold f_X12_clause at hyp
  refine am_Ev.mk (by decide +kernel) rfl rfl (Nat.le_refl _) (Nat.le_refl _) ?_
  change am_At _ _ _ 0 [_, _, _, _] [] _ _
  refine am_aload_n dX12_clause_0 rfl ?_
  obtain ⟨⟨v1, M1⟩, hk1, hyp⟩ := bd_some hyp
  try dsimp only at hyp
  refine am_callV [] dX12_clause_1 ml_X12_165 vm_X12_kindHere (sh_54 g) rfl (fun _ => Nat.le_of_ble_eq_true rfl) (by omega) rfl (ef_X12_kindHere (d := d + 0) (h := h) g hk1) rfl ?_
  change am_At _ _ _ 4 [_, _, _, _] [_] _ _
  refine am_istore_n dX12_clause_4 (am_lb rfl) ?_
  change am_At _ _ _ 5 [_, _, _, _] [] _ _
  refine am_iload_n dX12_clause_5 rfl ?_
  refine am_iconst (-1) (v := (-1)) dX12_clause_6 (by decide) ?_
  refine am_icmp_ne (15) 22 dX12_clause_7 rfl ?_ ?_
  · intro hc2n
    have hc2n : ¬ (v1 = (-1 : Int32)) := hc2n
    replace hyp := it_neg hc2n hyp
    refine am_aload_n dX12_clause_22 rfl ?_
    refine am_getI 12 7 dX12_clause_23 fg_X12_159 (sh_54 g) (by decide) rfl ?_
    refine am_bipush 60 (v := 60) dX12_clause_26 (by decide) ?_
    refine am_icmp_eq (11) 39 dX12_clause_28 rfl ?_ ?_
    · intro hc3
      have hc3 : (M1 54 0 7) = (60 : Int32) := hc3
      replace hyp := it_pos hc3 hyp
      refine am_aload_n dX12_clause_39 rfl ?_
      refine am_iconst 3 (v := 3) dX12_clause_40 (by decide) ?_
      refine am_aload_n dX12_clause_41 rfl ?_
      refine am_getI 12 4 dX12_clause_42 fg_X12_112 (sh_54 g) (by decide) rfl ?_
      refine am_callV [_, _] dX12_clause_45 ml_X12_132 vm_X12_wrong (sh_54 g) rfl (fun _ => Nat.le_of_ble_eq_true rfl) (by omega) rfl (ef_X12_wrong (d := d + 4) (h := h) g (x1 := (3 : Int32)) (x2 := (M1 54 0 4)) (M := M1) rfl) rfl ?_
      change am_At _ _ _ 48 [_, _, _, _] [] _ _
      refine am_aload_n dX12_clause_48 rfl ?_
      refine am_getI 12 5 dX12_clause_49 fg_X12_119 (sh_54 g) (by decide) rfl ?_
      refine am_if_eq (4) 56 dX12_clause_52 rfl ?_ ?_
      · intro hc4
        have hc4 : ((f_X12_wrong (3 : Int32) (M1 54 0 4) M1) 54 0 5) = 0 := hc4
        replace hyp := it_pos hc4 hyp
        refine am_aload_n dX12_clause_56 rfl ?_
        obtain ⟨M5, hk5, hyp⟩ := bd_some hyp
        try dsimp only at hyp
        refine am_callV [] dX12_clause_57 ml_X12_156 vm_X12_skipWord (sh_54 g) rfl (fun _ => Nat.le_of_ble_eq_true rfl) (by omega) rfl (ef_X12_skipWord (d := d + 3) (h := h) g hk5) rfl ?_
        change am_At _ _ _ 60 [_, _, _, _] [] _ _
        refine am_aload_n dX12_clause_60 rfl ?_
        refine am_dup dX12_clause_61 (fun _ => rfl) ?_
        refine am_getI 12 7 dX12_clause_62 fg_X12_159 (sh_54 g) (by decide) rfl ?_
        refine am_iconst 1 (v := 1) dX12_clause_65 (by decide) ?_
        refine am_iadd dX12_clause_66 ?_
        refine am_putI 12 7 dX12_clause_67 (Or.inl fp_X12_159) (sh_54 g) (by decide) rfl rfl rfl ?_
        refine am_iload_n dX12_clause_70 rfl ?_
        by_cases hc6 : v1 = (0 : Int32)
        · refine am_tabIn (37) 108 dX12_clause_71 (by rw [hc6]; decide) (by rw [hc6]; decide) (by rw [hc6]; rfl) rfl ?_
          replace hyp := it_pos hc6 hyp
          refine am_aload_n dX12_clause_108 rfl ?_
          refine am_getR 12 13 59 dX12_clause_109 fg_X12_28 (sh_54 g) (by decide) rfl (rf_54_13 g) ?_
          refine am_aload_n dX12_clause_112 rfl ?_
          refine am_getR 12 11 57 dX12_clause_113 fg_X12_20 (sh_54 g) (by decide) rfl (rf_54_11 g) ?_
          refine am_iconst 0 (v := 0) dX12_clause_116 (by decide) ?_
          refine am_iald dX12_clause_117 (am_ia.one (sh_57 g)) (am_lit rfl) ?_
          obtain ⟨hg7, hyp⟩ := gd_some hyp
          refine am_aald dX12_clause_118 (sh_59 g) (am_lit hg7) ?_
          refine am_astore_n dX12_clause_119 (am_lb rfl) ?_
          change am_At _ _ _ 120 [_, _, _, _] [] _ _
          refine am_aload_n dX12_clause_120 rfl ?_
          refine am_iconst 0 (v := 0) dX12_clause_121 (by decide) ?_
          refine am_aload_n dX12_clause_122 rfl ?_
          refine am_iconst 0 (v := 0) dX12_clause_123 (by decide) ?_
          refine am_bipush 9 (v := 9) dX12_clause_124 (by decide) ?_
          obtain ⟨⟨v8, M8⟩, hk8, hyp⟩ := bd_some hyp
          try dsimp only at hyp
          refine am_callV [_, _] dX12_clause_126 ml_X12_171 vm_X12_number (sh_54 g) rfl (fun _ => Nat.le_of_ble_eq_true rfl) (by omega) rfl (ef_X12_number (d := d + 2) (h := h) g hk8) rfl ?_
          change am_At _ _ _ 129 [_, _, _, _] [_, _, _] _ _
          refine am_iast dX12_clause_129 (am_ia.row (sh_59 g) (by omega) (am_vlt (am_lit hg7))) (am_lit rfl) ?_
          refine am_aload_n dX12_clause_130 rfl ?_
          refine am_iconst 1 (v := 1) dX12_clause_131 (by decide) ?_
          refine am_aload_n dX12_clause_132 rfl ?_
          refine am_iconst 0 (v := 0) dX12_clause_133 (by decide) ?_
          refine am_bipush 20 (v := 20) dX12_clause_134 (by decide) ?_
          obtain ⟨⟨v9, M9⟩, hk9, hyp⟩ := bd_some hyp
          try dsimp only at hyp
          refine am_callV [_, _] dX12_clause_136 ml_X12_171 vm_X12_number (sh_54 g) rfl (fun _ => Nat.le_of_ble_eq_true rfl) (by omega) rfl (ef_X12_number (d := d + 2) (h := h) g hk9) rfl ?_
          change am_At _ _ _ 139 [_, _, _, _] [_, _, _] _ _
          refine am_iast dX12_clause_139 (am_ia.row (sh_59 g) (by omega) (am_vlt (am_lit hg7))) (am_lit rfl) ?_
          refine am_aload_n dX12_clause_140 rfl ?_
          refine am_iconst 2 (v := 2) dX12_clause_141 (by decide) ?_
          refine am_aload_n dX12_clause_142 rfl ?_
          refine am_iconst 0 (v := 0) dX12_clause_143 (by decide) ?_
          refine am_bipush 9 (v := 9) dX12_clause_144 (by decide) ?_
          obtain ⟨⟨v10, M10⟩, hk10, hyp⟩ := bd_some hyp
          try dsimp only at hyp
          refine am_callV [_, _] dX12_clause_146 ml_X12_171 vm_X12_number (sh_54 g) rfl (fun _ => Nat.le_of_ble_eq_true rfl) (by omega) rfl (ef_X12_number (d := d + 2) (h := h) g hk10) rfl ?_
          change am_At _ _ _ 149 [_, _, _, _] [_, _, _] _ _
          refine am_iast dX12_clause_149 (am_ia.row (sh_59 g) (by omega) (am_vlt (am_lit hg7))) (am_lit rfl) ?_
          refine am_aload_n dX12_clause_150 rfl ?_
          refine am_iconst 3 (v := 3) dX12_clause_151 (by decide) ?_
          refine am_iconst 0 (v := 0) dX12_clause_152 (by decide) ?_
          refine am_iast dX12_clause_153 (am_ia.row (sh_59 g) (by omega) (am_vlt (am_lit hg7))) (am_lit rfl) ?_
          refine am_goto (171) 325 dX12_clause_154 rfl ?_
          refine am_iload_n dX12_clause_325 rfl ?_
          refine am_iconst 3 (v := 3) dX12_clause_326 (by decide) ?_
          refine am_icmp_ge (24) 351 dX12_clause_327 rfl ?_ ?_
          · intro hc11
            have hc11 : (3 : Int32) ≤ v1 := hc11
            replace hyp := it_pos hc11 hyp
            refine am_aload_n dX12_clause_351 rfl ?_
            refine am_bipush 59 (v := 59) dX12_clause_352 (by decide) ?_
            obtain ⟨M12, hk12, hyp⟩ := bd_some hyp
            try dsimp only at hyp
            refine am_callV [_] dX12_clause_354 ml_X12_175 vm_X12_sign (sh_54 g) rfl (fun _ => Nat.le_of_ble_eq_true rfl) (by omega) rfl (ef_X12_sign (d := d + 2) (h := h) g hk12) rfl ?_
            change am_At _ _ _ 357 [_, _, _, _] [] _ _
            cases hyp
            exact am_vret dX12_clause_357 rfl
          · intro hc11n
            have hc11n : ¬ ((3 : Int32) ≤ v1) := hc11n
            replace hyp := it_neg hc11n hyp
            refine am_aload_n dX12_clause_330 rfl ?_
            refine am_getR 12 11 57 dX12_clause_331 fg_X12_20 (sh_54 g) (by decide) rfl (rf_54_11 g) ?_
            refine am_iload_n dX12_clause_334 rfl ?_
            refine am_dup2 dX12_clause_335 (fun _ => rfl) (fun _ => rfl) ?_
            obtain ⟨hg13, hyp⟩ := gd_some hyp
            refine am_iald dX12_clause_336 (am_ia.one (sh_57 g)) (am_lit hg13) ?_
            refine am_aload_n dX12_clause_337 rfl ?_
            refine am_getI 12 5 dX12_clause_338 fg_X12_119 (sh_54 g) (by decide) rfl ?_
            refine am_if_ne (7) 348 dX12_clause_341 rfl ?_ ?_
            · intro hc14n
              have hc14n : ¬ ((M10 54 0 5) = 0) := hc14n
              replace hyp := it_neg hc14n hyp
              refine am_iconst 0 (v := 0) dX12_clause_348 (by decide) ?_
              refine am_iadd dX12_clause_349 ?_
              refine am_iast dX12_clause_350 (am_ia.one (sh_57 g)) (am_lit hg13) ?_
              refine am_aload_n dX12_clause_351 rfl ?_
              refine am_bipush 59 (v := 59) dX12_clause_352 (by decide) ?_
              obtain ⟨M15, hk15, hyp⟩ := bd_some hyp
              try dsimp only at hyp
              refine am_callV [_] dX12_clause_354 ml_X12_175 vm_X12_sign (sh_54 g) rfl (fun _ => Nat.le_of_ble_eq_true rfl) (by omega) rfl (ef_X12_sign (d := d + 2) (h := h) g hk15) rfl ?_
              change am_At _ _ _ 357 [_, _, _, _] [] _ _
              cases hyp
              exact am_vret dX12_clause_357 rfl
            · intro hc14
              have hc14 : (M10 54 0 5) = 0 := hc14
              replace hyp := it_pos hc14 hyp
              refine am_iconst 1 (v := 1) dX12_clause_344 (by decide) ?_
              refine am_goto (4) 349 dX12_clause_345 rfl ?_
              refine am_iadd dX12_clause_349 ?_
              refine am_iast dX12_clause_350 (am_ia.one (sh_57 g)) (am_lit hg13) ?_
              refine am_aload_n dX12_clause_351 rfl ?_
              refine am_bipush 59 (v := 59) dX12_clause_352 (by decide) ?_
              obtain ⟨M16, hk16, hyp⟩ := bd_some hyp
              try dsimp only at hyp
              refine am_callV [_] dX12_clause_354 ml_X12_175 vm_X12_sign (sh_54 g) rfl (fun _ => Nat.le_of_ble_eq_true rfl) (by omega) rfl (ef_X12_sign (d := d + 2) (h := h) g hk16) rfl ?_
              change am_At _ _ _ 357 [_, _, _, _] [] _ _
              cases hyp
              exact am_vret dX12_clause_357 rfl
        · have hc6n := hc6
          replace hyp := it_neg hc6n hyp
          by_cases hc17 : v1 = (1 : Int32)
          · refine am_tabIn (86) 157 dX12_clause_71 (by rw [hc17]; decide) (by rw [hc17]; decide) (by rw [hc17]; rfl) rfl ?_
            replace hyp := it_pos hc17 hyp
            refine am_aload_n dX12_clause_157 rfl ?_
            refine am_getR 12 15 61 dX12_clause_158 fg_X12_34 (sh_54 g) (by decide) rfl (rf_54_15 g) ?_
            refine am_aload_n dX12_clause_161 rfl ?_
            refine am_getR 12 11 57 dX12_clause_162 fg_X12_20 (sh_54 g) (by decide) rfl (rf_54_11 g) ?_
            refine am_iconst 1 (v := 1) dX12_clause_165 (by decide) ?_
            refine am_iald dX12_clause_166 (am_ia.one (sh_57 g)) (am_lit rfl) ?_
            obtain ⟨hg18, hyp⟩ := gd_some hyp
            refine am_aald dX12_clause_167 (sh_61 g) (am_lit hg18) ?_
            refine am_astore_n dX12_clause_168 (am_lb rfl) ?_
            change am_At _ _ _ 169 [_, _, _, _] [] _ _
            refine am_aload_n dX12_clause_169 rfl ?_
            refine am_iconst 0 (v := 0) dX12_clause_170 (by decide) ?_
            refine am_aload_n dX12_clause_171 rfl ?_
            refine am_iconst 0 (v := 0) dX12_clause_172 (by decide) ?_
            refine am_bipush 9 (v := 9) dX12_clause_173 (by decide) ?_
            obtain ⟨⟨v19, M19⟩, hk19, hyp⟩ := bd_some hyp
            try dsimp only at hyp
            refine am_callV [_, _] dX12_clause_175 ml_X12_171 vm_X12_number (sh_54 g) rfl (fun _ => Nat.le_of_ble_eq_true rfl) (by omega) rfl (ef_X12_number (d := d + 2) (h := h) g hk19) rfl ?_
            change am_At _ _ _ 178 [_, _, _, _] [_, _, _] _ _
            refine am_iast dX12_clause_178 (am_ia.row (sh_61 g) (by omega) (am_vlt (am_lit hg18))) (am_lit rfl) ?_
            refine am_aload_n dX12_clause_179 rfl ?_
            refine am_iconst 1 (v := 1) dX12_clause_180 (by decide) ?_
            refine am_aload_n dX12_clause_181 rfl ?_
            refine am_iconst 0 (v := 0) dX12_clause_182 (by decide) ?_
            refine am_bipush 95 (v := 95) dX12_clause_183 (by decide) ?_
            obtain ⟨⟨v20, M20⟩, hk20, hyp⟩ := bd_some hyp
            try dsimp only at hyp
            refine am_callV [_, _] dX12_clause_185 ml_X12_171 vm_X12_number (sh_54 g) rfl (fun _ => Nat.le_of_ble_eq_true rfl) (by omega) rfl (ef_X12_number (d := d + 2) (h := h) g hk20) rfl ?_
            change am_At _ _ _ 188 [_, _, _, _] [_, _, _] _ _
            refine am_iast dX12_clause_188 (am_ia.row (sh_61 g) (by omega) (am_vlt (am_lit hg18))) (am_lit rfl) ?_
            refine am_goto (136) 325 dX12_clause_189 rfl ?_
            refine am_iload_n dX12_clause_325 rfl ?_
            refine am_iconst 3 (v := 3) dX12_clause_326 (by decide) ?_
            refine am_icmp_ge (24) 351 dX12_clause_327 rfl ?_ ?_
            · intro hc21
              have hc21 : (3 : Int32) ≤ v1 := hc21
              replace hyp := it_pos hc21 hyp
              refine am_aload_n dX12_clause_351 rfl ?_
              refine am_bipush 59 (v := 59) dX12_clause_352 (by decide) ?_
              obtain ⟨M22, hk22, hyp⟩ := bd_some hyp
              try dsimp only at hyp
              refine am_callV [_] dX12_clause_354 ml_X12_175 vm_X12_sign (sh_54 g) rfl (fun _ => Nat.le_of_ble_eq_true rfl) (by omega) rfl (ef_X12_sign (d := d + 2) (h := h) g hk22) rfl ?_
              change am_At _ _ _ 357 [_, _, _, _] [] _ _
              cases hyp
              exact am_vret dX12_clause_357 rfl
            · intro hc21n
              have hc21n : ¬ ((3 : Int32) ≤ v1) := hc21n
              replace hyp := it_neg hc21n hyp
              refine am_aload_n dX12_clause_330 rfl ?_
              refine am_getR 12 11 57 dX12_clause_331 fg_X12_20 (sh_54 g) (by decide) rfl (rf_54_11 g) ?_
              refine am_iload_n dX12_clause_334 rfl ?_
              refine am_dup2 dX12_clause_335 (fun _ => rfl) (fun _ => rfl) ?_
              obtain ⟨hg23, hyp⟩ := gd_some hyp
              refine am_iald dX12_clause_336 (am_ia.one (sh_57 g)) (am_lit hg23) ?_
              refine am_aload_n dX12_clause_337 rfl ?_
              refine am_getI 12 5 dX12_clause_338 fg_X12_119 (sh_54 g) (by decide) rfl ?_
              refine am_if_ne (7) 348 dX12_clause_341 rfl ?_ ?_
              · intro hc24n
                have hc24n : ¬ ((M20 54 0 5) = 0) := hc24n
                replace hyp := it_neg hc24n hyp
                refine am_iconst 0 (v := 0) dX12_clause_348 (by decide) ?_
                refine am_iadd dX12_clause_349 ?_
                refine am_iast dX12_clause_350 (am_ia.one (sh_57 g)) (am_lit hg23) ?_
                refine am_aload_n dX12_clause_351 rfl ?_
                refine am_bipush 59 (v := 59) dX12_clause_352 (by decide) ?_
                obtain ⟨M25, hk25, hyp⟩ := bd_some hyp
                try dsimp only at hyp
                refine am_callV [_] dX12_clause_354 ml_X12_175 vm_X12_sign (sh_54 g) rfl (fun _ => Nat.le_of_ble_eq_true rfl) (by omega) rfl (ef_X12_sign (d := d + 2) (h := h) g hk25) rfl ?_
                change am_At _ _ _ 357 [_, _, _, _] [] _ _
                cases hyp
                exact am_vret dX12_clause_357 rfl
              · intro hc24
                have hc24 : (M20 54 0 5) = 0 := hc24
                replace hyp := it_pos hc24 hyp
                refine am_iconst 1 (v := 1) dX12_clause_344 (by decide) ?_
                refine am_goto (4) 349 dX12_clause_345 rfl ?_
                refine am_iadd dX12_clause_349 ?_
                refine am_iast dX12_clause_350 (am_ia.one (sh_57 g)) (am_lit hg23) ?_
                refine am_aload_n dX12_clause_351 rfl ?_
                refine am_bipush 59 (v := 59) dX12_clause_352 (by decide) ?_
                obtain ⟨M26, hk26, hyp⟩ := bd_some hyp
                try dsimp only at hyp
                refine am_callV [_] dX12_clause_354 ml_X12_175 vm_X12_sign (sh_54 g) rfl (fun _ => Nat.le_of_ble_eq_true rfl) (by omega) rfl (ef_X12_sign (d := d + 2) (h := h) g hk26) rfl ?_
                change am_At _ _ _ 357 [_, _, _, _] [] _ _
                cases hyp
                exact am_vret dX12_clause_357 rfl
          · have hc17n := hc17
            replace hyp := it_neg hc17n hyp
            by_cases hc27 : v1 = (2 : Int32)
            · refine am_tabIn (121) 192 dX12_clause_71 (by rw [hc27]; decide) (by rw [hc27]; decide) (by rw [hc27]; rfl) rfl ?_
              replace hyp := it_pos hc27 hyp
              refine am_aload_n dX12_clause_192 rfl ?_
              refine am_getR 12 17 63 dX12_clause_193 fg_X12_40 (sh_54 g) (by decide) rfl (rf_54_17 g) ?_
              refine am_aload_n dX12_clause_196 rfl ?_
              refine am_getR 12 11 57 dX12_clause_197 fg_X12_20 (sh_54 g) (by decide) rfl (rf_54_11 g) ?_
              refine am_iconst 2 (v := 2) dX12_clause_200 (by decide) ?_
              refine am_iald dX12_clause_201 (am_ia.one (sh_57 g)) (am_lit rfl) ?_
              obtain ⟨hg28, hyp⟩ := gd_some hyp
              refine am_aald dX12_clause_202 (sh_63 g) (am_lit hg28) ?_
              refine am_astore_n dX12_clause_203 (am_lb rfl) ?_
              change am_At _ _ _ 204 [_, _, _, _] [] _ _
              refine am_aload_n dX12_clause_204 rfl ?_
              refine am_iconst 0 (v := 0) dX12_clause_205 (by decide) ?_
              refine am_aload_n dX12_clause_206 rfl ?_
              refine am_iconst 0 (v := 0) dX12_clause_207 (by decide) ?_
              refine am_aload_n dX12_clause_208 rfl ?_
              refine am_getR 12 11 57 dX12_clause_209 fg_X12_20 (sh_54 g) (by decide) rfl (rf_54_11 g) ?_
              refine am_iconst 0 (v := 0) dX12_clause_212 (by decide) ?_
              refine am_iald dX12_clause_213 (am_ia.one (sh_57 g)) (am_lit rfl) ?_
              refine am_iconst 1 (v := 1) dX12_clause_214 (by decide) ?_
              refine am_isub dX12_clause_215 ?_
              obtain ⟨⟨v29, M29⟩, hk29, hyp⟩ := bd_some hyp
              try dsimp only at hyp
              refine am_callV [_, _] dX12_clause_216 ml_X12_171 vm_X12_number (sh_54 g) rfl (fun _ => Nat.le_of_ble_eq_true rfl) (by omega) rfl (ef_X12_number (d := d + 2) (h := h) g hk29) rfl ?_
              change am_At _ _ _ 219 [_, _, _, _] [_, _, _] _ _
              refine am_iast dX12_clause_219 (am_ia.row (sh_63 g) (by omega) (am_vlt (am_lit hg28))) (am_lit rfl) ?_
              refine am_aload_n dX12_clause_220 rfl ?_
              refine am_iconst 1 (v := 1) dX12_clause_221 (by decide) ?_
              refine am_aload_n dX12_clause_222 rfl ?_
              refine am_aload_n dX12_clause_223 rfl ?_
              refine am_iconst 0 (v := 0) dX12_clause_224 (by decide) ?_
              refine am_iald dX12_clause_225 (am_ia.row (sh_63 g) (by omega) (am_vlt (am_lit hg28))) (am_lit rfl) ?_
              refine am_aload_n dX12_clause_226 rfl ?_
              refine am_getR 12 11 57 dX12_clause_227 fg_X12_20 (sh_54 g) (by decide) rfl (rf_54_11 g) ?_
              refine am_iconst 0 (v := 0) dX12_clause_230 (by decide) ?_
              refine am_iald dX12_clause_231 (am_ia.one (sh_57 g)) (am_lit rfl) ?_
              refine am_iconst 1 (v := 1) dX12_clause_232 (by decide) ?_
              refine am_isub dX12_clause_233 ?_
              obtain ⟨⟨v30, M30⟩, hk30, hyp⟩ := bd_some hyp
              try dsimp only at hyp
              refine am_callV [_, _] dX12_clause_234 ml_X12_171 vm_X12_number (sh_54 g) rfl (fun _ => Nat.le_of_ble_eq_true rfl) (by omega) rfl (ef_X12_number (d := d + 2) (h := h) g hk30) rfl ?_
              change am_At _ _ _ 237 [_, _, _, _] [_, _, _] _ _
              refine am_iast dX12_clause_237 (am_ia.row (sh_63 g) (by omega) (am_vlt (am_lit hg28))) (am_lit rfl) ?_
              refine am_aload_n dX12_clause_238 rfl ?_
              refine am_iconst 2 (v := 2) dX12_clause_239 (by decide) ?_
              refine am_aload_n dX12_clause_240 rfl ?_
              refine am_iconst 1 (v := 1) dX12_clause_241 (by decide) ?_
              refine am_bipush 40 (v := 40) dX12_clause_242 (by decide) ?_
              obtain ⟨⟨v31, M31⟩, hk31, hyp⟩ := bd_some hyp
              try dsimp only at hyp
              refine am_callV [_, _] dX12_clause_244 ml_X12_171 vm_X12_number (sh_54 g) rfl (fun _ => Nat.le_of_ble_eq_true rfl) (by omega) rfl (ef_X12_number (d := d + 2) (h := h) g hk31) rfl ?_
              change am_At _ _ _ 247 [_, _, _, _] [_, _, _] _ _
              refine am_iast dX12_clause_247 (am_ia.row (sh_63 g) (by omega) (am_vlt (am_lit hg28))) (am_lit rfl) ?_
              refine am_goto (77) 325 dX12_clause_248 rfl ?_
              refine am_iload_n dX12_clause_325 rfl ?_
              refine am_iconst 3 (v := 3) dX12_clause_326 (by decide) ?_
              refine am_icmp_ge (24) 351 dX12_clause_327 rfl ?_ ?_
              · intro hc32
                have hc32 : (3 : Int32) ≤ v1 := hc32
                replace hyp := it_pos hc32 hyp
                refine am_aload_n dX12_clause_351 rfl ?_
                refine am_bipush 59 (v := 59) dX12_clause_352 (by decide) ?_
                obtain ⟨M33, hk33, hyp⟩ := bd_some hyp
                try dsimp only at hyp
                refine am_callV [_] dX12_clause_354 ml_X12_175 vm_X12_sign (sh_54 g) rfl (fun _ => Nat.le_of_ble_eq_true rfl) (by omega) rfl (ef_X12_sign (d := d + 2) (h := h) g hk33) rfl ?_
                change am_At _ _ _ 357 [_, _, _, _] [] _ _
                cases hyp
                exact am_vret dX12_clause_357 rfl
              · intro hc32n
                have hc32n : ¬ ((3 : Int32) ≤ v1) := hc32n
                replace hyp := it_neg hc32n hyp
                refine am_aload_n dX12_clause_330 rfl ?_
                refine am_getR 12 11 57 dX12_clause_331 fg_X12_20 (sh_54 g) (by decide) rfl (rf_54_11 g) ?_
                refine am_iload_n dX12_clause_334 rfl ?_
                refine am_dup2 dX12_clause_335 (fun _ => rfl) (fun _ => rfl) ?_
                obtain ⟨hg34, hyp⟩ := gd_some hyp
                refine am_iald dX12_clause_336 (am_ia.one (sh_57 g)) (am_lit hg34) ?_
                refine am_aload_n dX12_clause_337 rfl ?_
                refine am_getI 12 5 dX12_clause_338 fg_X12_119 (sh_54 g) (by decide) rfl ?_
                refine am_if_ne (7) 348 dX12_clause_341 rfl ?_ ?_
                · intro hc35n
                  have hc35n : ¬ ((M31 54 0 5) = 0) := hc35n
                  replace hyp := it_neg hc35n hyp
                  refine am_iconst 0 (v := 0) dX12_clause_348 (by decide) ?_
                  refine am_iadd dX12_clause_349 ?_
                  refine am_iast dX12_clause_350 (am_ia.one (sh_57 g)) (am_lit hg34) ?_
                  refine am_aload_n dX12_clause_351 rfl ?_
                  refine am_bipush 59 (v := 59) dX12_clause_352 (by decide) ?_
                  obtain ⟨M36, hk36, hyp⟩ := bd_some hyp
                  try dsimp only at hyp
                  refine am_callV [_] dX12_clause_354 ml_X12_175 vm_X12_sign (sh_54 g) rfl (fun _ => Nat.le_of_ble_eq_true rfl) (by omega) rfl (ef_X12_sign (d := d + 2) (h := h) g hk36) rfl ?_
                  change am_At _ _ _ 357 [_, _, _, _] [] _ _
                  cases hyp
                  exact am_vret dX12_clause_357 rfl
                · intro hc35
                  have hc35 : (M31 54 0 5) = 0 := hc35
                  replace hyp := it_pos hc35 hyp
                  refine am_iconst 1 (v := 1) dX12_clause_344 (by decide) ?_
                  refine am_goto (4) 349 dX12_clause_345 rfl ?_
                  refine am_iadd dX12_clause_349 ?_
                  refine am_iast dX12_clause_350 (am_ia.one (sh_57 g)) (am_lit hg34) ?_
                  refine am_aload_n dX12_clause_351 rfl ?_
                  refine am_bipush 59 (v := 59) dX12_clause_352 (by decide) ?_
                  obtain ⟨M37, hk37, hyp⟩ := bd_some hyp
                  try dsimp only at hyp
                  refine am_callV [_] dX12_clause_354 ml_X12_175 vm_X12_sign (sh_54 g) rfl (fun _ => Nat.le_of_ble_eq_true rfl) (by omega) rfl (ef_X12_sign (d := d + 2) (h := h) g hk37) rfl ?_
                  change am_At _ _ _ 357 [_, _, _, _] [] _ _
                  cases hyp
                  exact am_vret dX12_clause_357 rfl
            · have hc27n := hc27
              replace hyp := it_neg hc27n hyp
              by_cases hc38 : v1 = (3 : Int32)
              · refine am_tabIn (221) 292 dX12_clause_71 (by rw [hc38]; decide) (by rw [hc38]; decide) (by rw [hc38]; rfl) rfl ?_
                replace hyp := it_pos hc38 hyp
                refine am_aload_n dX12_clause_292 rfl ?_
                refine am_iload_n dX12_clause_293 rfl ?_
                refine am_iconst 3 (v := 3) dX12_clause_294 (by decide) ?_
                refine am_icmp_neF (7) 302 dX12_clause_295 rfl hc38 ?_
                refine am_iconst 1 (v := 1) dX12_clause_298 (by decide) ?_
                refine am_goto (4) 303 dX12_clause_299 rfl ?_
                refine am_iconst 4 (v := 4) dX12_clause_303 (by decide) ?_
                obtain ⟨⟨v39, M39⟩, hk39, hyp⟩ := bd_some hyp
                try dsimp only at hyp
                refine am_callV [_, _] dX12_clause_304 ml_X12_171 vm_X12_number (sh_54 g) rfl (fun _ => Nat.le_of_ble_eq_true rfl) (by omega) rfl (ef_X12_number (d := d + 2) (h := h) g hk39) rfl ?_
                change am_At _ _ _ 307 [_, _, _, _] [_] _ _
                refine am_istore_n dX12_clause_307 (am_lb rfl) ?_
                change am_At _ _ _ 308 [_, _, _, _] [] _ _
                refine am_aload_n dX12_clause_308 rfl ?_
                refine am_getI 12 5 dX12_clause_309 fg_X12_119 (sh_54 g) (by decide) rfl ?_
                refine am_if_ne (13) 325 dX12_clause_312 rfl ?_ ?_
                · intro hc40n
                  have hc40n : ¬ ((M39 54 0 5) = 0) := hc40n
                  replace hyp := it_neg hc40n hyp
                  refine am_iload_n dX12_clause_325 rfl ?_
                  refine am_iconst 3 (v := 3) dX12_clause_326 (by decide) ?_
                  refine am_icmp_ge (24) 351 dX12_clause_327 rfl ?_ ?_
                  · intro hc41
                    have hc41 : (3 : Int32) ≤ v1 := hc41
                    replace hyp := it_pos hc41 hyp
                    refine am_aload_n dX12_clause_351 rfl ?_
                    refine am_bipush 59 (v := 59) dX12_clause_352 (by decide) ?_
                    obtain ⟨M42, hk42, hyp⟩ := bd_some hyp
                    try dsimp only at hyp
                    refine am_callV [_] dX12_clause_354 ml_X12_175 vm_X12_sign (sh_54 g) rfl (fun _ => Nat.le_of_ble_eq_true rfl) (by omega) rfl (ef_X12_sign (d := d + 2) (h := h) g hk42) rfl ?_
                    change am_At _ _ _ 357 [_, _, _, _] [] _ _
                    cases hyp
                    exact am_vret dX12_clause_357 rfl
                  · intro hc41n
                    have hc41n : ¬ ((3 : Int32) ≤ v1) := hc41n
                    replace hyp := it_neg hc41n hyp
                    refine am_aload_n dX12_clause_330 rfl ?_
                    refine am_getR 12 11 57 dX12_clause_331 fg_X12_20 (sh_54 g) (by decide) rfl (rf_54_11 g) ?_
                    refine am_iload_n dX12_clause_334 rfl ?_
                    refine am_dup2 dX12_clause_335 (fun _ => rfl) (fun _ => rfl) ?_
                    obtain ⟨hg43, hyp⟩ := gd_some hyp
                    refine am_iald dX12_clause_336 (am_ia.one (sh_57 g)) (am_lit hg43) ?_
                    refine am_aload_n dX12_clause_337 rfl ?_
                    refine am_getI 12 5 dX12_clause_338 fg_X12_119 (sh_54 g) (by decide) rfl ?_
                    refine am_if_neT (7) 348 dX12_clause_341 rfl hc40n ?_
                    refine am_iconst 0 (v := 0) dX12_clause_348 (by decide) ?_
                    refine am_iadd dX12_clause_349 ?_
                    refine am_iast dX12_clause_350 (am_ia.one (sh_57 g)) (am_lit hg43) ?_
                    refine am_aload_n dX12_clause_351 rfl ?_
                    refine am_bipush 59 (v := 59) dX12_clause_352 (by decide) ?_
                    obtain ⟨M44, hk44, hyp⟩ := bd_some hyp
                    try dsimp only at hyp
                    refine am_callV [_] dX12_clause_354 ml_X12_175 vm_X12_sign (sh_54 g) rfl (fun _ => Nat.le_of_ble_eq_true rfl) (by omega) rfl (ef_X12_sign (d := d + 2) (h := h) g hk44) rfl ?_
                    change am_At _ _ _ 357 [_, _, _, _] [] _ _
                    cases hyp
                    exact am_vret dX12_clause_357 rfl
                · intro hc40
                  have hc40 : (M39 54 0 5) = 0 := hc40
                  replace hyp := it_pos hc40 hyp
                  refine am_aload_n dX12_clause_315 rfl ?_
                  refine am_getR 12 11 57 dX12_clause_316 fg_X12_20 (sh_54 g) (by decide) rfl (rf_54_11 g) ?_
                  refine am_iload_n dX12_clause_319 rfl ?_
                  refine am_iload_n dX12_clause_320 rfl ?_
                  obtain ⟨hg45, hyp⟩ := gd_some hyp
                  refine am_iast dX12_clause_321 (am_ia.one (sh_57 g)) (am_lit hg45) ?_
                  refine am_goto (3) 325 dX12_clause_322 rfl ?_
                  refine am_iload_n dX12_clause_325 rfl ?_
                  refine am_iconst 3 (v := 3) dX12_clause_326 (by decide) ?_
                  refine am_icmp_ge (24) 351 dX12_clause_327 rfl ?_ ?_
                  · intro hc46
                    have hc46 : (3 : Int32) ≤ v1 := hc46
                    replace hyp := it_pos hc46 hyp
                    refine am_aload_n dX12_clause_351 rfl ?_
                    refine am_bipush 59 (v := 59) dX12_clause_352 (by decide) ?_
                    obtain ⟨M47, hk47, hyp⟩ := bd_some hyp
                    try dsimp only at hyp
                    refine am_callV [_] dX12_clause_354 ml_X12_175 vm_X12_sign (sh_54 g) rfl (fun _ => Nat.le_of_ble_eq_true rfl) (by omega) rfl (ef_X12_sign (d := d + 2) (h := h) g hk47) rfl ?_
                    change am_At _ _ _ 357 [_, _, _, _] [] _ _
                    cases hyp
                    exact am_vret dX12_clause_357 rfl
                  · intro hc46n
                    have hc46n : ¬ ((3 : Int32) ≤ v1) := hc46n
                    replace hyp := it_neg hc46n hyp
                    refine am_aload_n dX12_clause_330 rfl ?_
                    refine am_getR 12 11 57 dX12_clause_331 fg_X12_20 (sh_54 g) (by decide) rfl (rf_54_11 g) ?_
                    refine am_iload_n dX12_clause_334 rfl ?_
                    refine am_dup2 dX12_clause_335 (fun _ => rfl) (fun _ => rfl) ?_
                    refine am_iald dX12_clause_336 (am_ia.one (sh_57 g)) (am_lit hg45) ?_
                    refine am_aload_n dX12_clause_337 rfl ?_
                    refine am_getI 12 5 dX12_clause_338 fg_X12_119 (sh_54 g) (by decide) rfl ?_
                    refine am_if_neF (7) 348 dX12_clause_341 rfl hc40 ?_
                    refine am_iconst 1 (v := 1) dX12_clause_344 (by decide) ?_
                    refine am_goto (4) 349 dX12_clause_345 rfl ?_
                    refine am_iadd dX12_clause_349 ?_
                    refine am_iast dX12_clause_350 (am_ia.one (sh_57 g)) (am_lit hg45) ?_
                    refine am_aload_n dX12_clause_351 rfl ?_
                    refine am_bipush 59 (v := 59) dX12_clause_352 (by decide) ?_
                    obtain ⟨M48, hk48, hyp⟩ := bd_some hyp
                    try dsimp only at hyp
                    refine am_callV [_] dX12_clause_354 ml_X12_175 vm_X12_sign (sh_54 g) rfl (fun _ => Nat.le_of_ble_eq_true rfl) (by omega) rfl (ef_X12_sign (d := d + 2) (h := h) g hk48) rfl ?_
                    change am_At _ _ _ 357 [_, _, _, _] [] _ _
                    cases hyp
                    exact am_vret dX12_clause_357 rfl
              · have hc38n := hc38
                replace hyp := it_neg hc38n hyp
                by_cases hc49 : v1 = (4 : Int32)
                · refine am_tabIn (221) 292 dX12_clause_71 (by rw [hc49]; decide) (by rw [hc49]; decide) (by rw [hc49]; rfl) rfl ?_
                  replace hyp := it_pos hc49 hyp
                  refine am_aload_n dX12_clause_292 rfl ?_
                  refine am_iload_n dX12_clause_293 rfl ?_
                  refine am_iconst 3 (v := 3) dX12_clause_294 (by decide) ?_
                  refine am_icmp_neT (7) 302 dX12_clause_295 rfl hc38n ?_
                  refine am_iconst 0 (v := 0) dX12_clause_302 (by decide) ?_
                  refine am_iconst 4 (v := 4) dX12_clause_303 (by decide) ?_
                  obtain ⟨⟨v50, M50⟩, hk50, hyp⟩ := bd_some hyp
                  try dsimp only at hyp
                  refine am_callV [_, _] dX12_clause_304 ml_X12_171 vm_X12_number (sh_54 g) rfl (fun _ => Nat.le_of_ble_eq_true rfl) (by omega) rfl (ef_X12_number (d := d + 2) (h := h) g hk50) rfl ?_
                  change am_At _ _ _ 307 [_, _, _, _] [_] _ _
                  refine am_istore_n dX12_clause_307 (am_lb rfl) ?_
                  change am_At _ _ _ 308 [_, _, _, _] [] _ _
                  refine am_aload_n dX12_clause_308 rfl ?_
                  refine am_getI 12 5 dX12_clause_309 fg_X12_119 (sh_54 g) (by decide) rfl ?_
                  refine am_if_ne (13) 325 dX12_clause_312 rfl ?_ ?_
                  · intro hc51n
                    have hc51n : ¬ ((M50 54 0 5) = 0) := hc51n
                    replace hyp := it_neg hc51n hyp
                    refine am_iload_n dX12_clause_325 rfl ?_
                    refine am_iconst 3 (v := 3) dX12_clause_326 (by decide) ?_
                    refine am_icmp_ge (24) 351 dX12_clause_327 rfl ?_ ?_
                    · intro hc52
                      have hc52 : (3 : Int32) ≤ v1 := hc52
                      replace hyp := it_pos hc52 hyp
                      refine am_aload_n dX12_clause_351 rfl ?_
                      refine am_bipush 59 (v := 59) dX12_clause_352 (by decide) ?_
                      obtain ⟨M53, hk53, hyp⟩ := bd_some hyp
                      try dsimp only at hyp
                      refine am_callV [_] dX12_clause_354 ml_X12_175 vm_X12_sign (sh_54 g) rfl (fun _ => Nat.le_of_ble_eq_true rfl) (by omega) rfl (ef_X12_sign (d := d + 2) (h := h) g hk53) rfl ?_
                      change am_At _ _ _ 357 [_, _, _, _] [] _ _
                      cases hyp
                      exact am_vret dX12_clause_357 rfl
                    · intro hc52n
                      have hc52n : ¬ ((3 : Int32) ≤ v1) := hc52n
                      replace hyp := it_neg hc52n hyp
                      refine am_aload_n dX12_clause_330 rfl ?_
                      refine am_getR 12 11 57 dX12_clause_331 fg_X12_20 (sh_54 g) (by decide) rfl (rf_54_11 g) ?_
                      refine am_iload_n dX12_clause_334 rfl ?_
                      refine am_dup2 dX12_clause_335 (fun _ => rfl) (fun _ => rfl) ?_
                      obtain ⟨hg54, hyp⟩ := gd_some hyp
                      refine am_iald dX12_clause_336 (am_ia.one (sh_57 g)) (am_lit hg54) ?_
                      refine am_aload_n dX12_clause_337 rfl ?_
                      refine am_getI 12 5 dX12_clause_338 fg_X12_119 (sh_54 g) (by decide) rfl ?_
                      refine am_if_neT (7) 348 dX12_clause_341 rfl hc51n ?_
                      refine am_iconst 0 (v := 0) dX12_clause_348 (by decide) ?_
                      refine am_iadd dX12_clause_349 ?_
                      refine am_iast dX12_clause_350 (am_ia.one (sh_57 g)) (am_lit hg54) ?_
                      refine am_aload_n dX12_clause_351 rfl ?_
                      refine am_bipush 59 (v := 59) dX12_clause_352 (by decide) ?_
                      obtain ⟨M55, hk55, hyp⟩ := bd_some hyp
                      try dsimp only at hyp
                      refine am_callV [_] dX12_clause_354 ml_X12_175 vm_X12_sign (sh_54 g) rfl (fun _ => Nat.le_of_ble_eq_true rfl) (by omega) rfl (ef_X12_sign (d := d + 2) (h := h) g hk55) rfl ?_
                      change am_At _ _ _ 357 [_, _, _, _] [] _ _
                      cases hyp
                      exact am_vret dX12_clause_357 rfl
                  · intro hc51
                    have hc51 : (M50 54 0 5) = 0 := hc51
                    replace hyp := it_pos hc51 hyp
                    refine am_aload_n dX12_clause_315 rfl ?_
                    refine am_getR 12 11 57 dX12_clause_316 fg_X12_20 (sh_54 g) (by decide) rfl (rf_54_11 g) ?_
                    refine am_iload_n dX12_clause_319 rfl ?_
                    refine am_iload_n dX12_clause_320 rfl ?_
                    obtain ⟨hg56, hyp⟩ := gd_some hyp
                    refine am_iast dX12_clause_321 (am_ia.one (sh_57 g)) (am_lit hg56) ?_
                    refine am_goto (3) 325 dX12_clause_322 rfl ?_
                    refine am_iload_n dX12_clause_325 rfl ?_
                    refine am_iconst 3 (v := 3) dX12_clause_326 (by decide) ?_
                    refine am_icmp_ge (24) 351 dX12_clause_327 rfl ?_ ?_
                    · intro hc57
                      have hc57 : (3 : Int32) ≤ v1 := hc57
                      replace hyp := it_pos hc57 hyp
                      refine am_aload_n dX12_clause_351 rfl ?_
                      refine am_bipush 59 (v := 59) dX12_clause_352 (by decide) ?_
                      obtain ⟨M58, hk58, hyp⟩ := bd_some hyp
                      try dsimp only at hyp
                      refine am_callV [_] dX12_clause_354 ml_X12_175 vm_X12_sign (sh_54 g) rfl (fun _ => Nat.le_of_ble_eq_true rfl) (by omega) rfl (ef_X12_sign (d := d + 2) (h := h) g hk58) rfl ?_
                      change am_At _ _ _ 357 [_, _, _, _] [] _ _
                      cases hyp
                      exact am_vret dX12_clause_357 rfl
                    · intro hc57n
                      have hc57n : ¬ ((3 : Int32) ≤ v1) := hc57n
                      replace hyp := it_neg hc57n hyp
                      refine am_aload_n dX12_clause_330 rfl ?_
                      refine am_getR 12 11 57 dX12_clause_331 fg_X12_20 (sh_54 g) (by decide) rfl (rf_54_11 g) ?_
                      refine am_iload_n dX12_clause_334 rfl ?_
                      refine am_dup2 dX12_clause_335 (fun _ => rfl) (fun _ => rfl) ?_
                      refine am_iald dX12_clause_336 (am_ia.one (sh_57 g)) (am_lit hg56) ?_
                      refine am_aload_n dX12_clause_337 rfl ?_
                      refine am_getI 12 5 dX12_clause_338 fg_X12_119 (sh_54 g) (by decide) rfl ?_
                      refine am_if_neF (7) 348 dX12_clause_341 rfl hc51 ?_
                      refine am_iconst 1 (v := 1) dX12_clause_344 (by decide) ?_
                      refine am_goto (4) 349 dX12_clause_345 rfl ?_
                      refine am_iadd dX12_clause_349 ?_
                      refine am_iast dX12_clause_350 (am_ia.one (sh_57 g)) (am_lit hg56) ?_
                      refine am_aload_n dX12_clause_351 rfl ?_
                      refine am_bipush 59 (v := 59) dX12_clause_352 (by decide) ?_
                      obtain ⟨M59, hk59, hyp⟩ := bd_some hyp
                      try dsimp only at hyp
                      refine am_callV [_] dX12_clause_354 ml_X12_175 vm_X12_sign (sh_54 g) rfl (fun _ => Nat.le_of_ble_eq_true rfl) (by omega) rfl (ef_X12_sign (d := d + 2) (h := h) g hk59) rfl ?_
                      change am_At _ _ _ 357 [_, _, _, _] [] _ _
                      cases hyp
                      exact am_vret dX12_clause_357 rfl
                · have hc49n := hc49
                  replace hyp := it_neg hc49n hyp
                  by_cases hc60 : v1 = (5 : Int32)
                  · refine am_tabIn (180) 251 dX12_clause_71 (by rw [hc60]; decide) (by rw [hc60]; decide) (by rw [hc60]; rfl) rfl ?_
                    replace hyp := it_pos hc60 hyp
                    refine am_aload_n dX12_clause_251 rfl ?_
                    refine am_iconst 0 (v := 0) dX12_clause_252 (by decide) ?_
                    refine am_aload_n dX12_clause_253 rfl ?_
                    refine am_getR 12 11 57 dX12_clause_254 fg_X12_20 (sh_54 g) (by decide) rfl (rf_54_11 g) ?_
                    refine am_iconst 0 (v := 0) dX12_clause_257 (by decide) ?_
                    refine am_iald dX12_clause_258 (am_ia.one (sh_57 g)) (am_lit rfl) ?_
                    refine am_iconst 1 (v := 1) dX12_clause_259 (by decide) ?_
                    refine am_isub dX12_clause_260 ?_
                    obtain ⟨⟨v61, M61⟩, hk61, hyp⟩ := bd_some hyp
                    try dsimp only at hyp
                    refine am_callV [_, _] dX12_clause_261 ml_X12_171 vm_X12_number (sh_54 g) rfl (fun _ => Nat.le_of_ble_eq_true rfl) (by omega) rfl (ef_X12_number (d := d + 2) (h := h) g hk61) rfl ?_
                    change am_At _ _ _ 264 [_, _, _, _] [_] _ _
                    refine am_istore_n dX12_clause_264 (am_lb rfl) ?_
                    change am_At _ _ _ 265 [_, _, _, _] [] _ _
                    refine am_aload_n dX12_clause_265 rfl ?_
                    refine am_iconst 0 (v := 0) dX12_clause_266 (by decide) ?_
                    refine am_bipush 40 (v := 40) dX12_clause_267 (by decide) ?_
                    obtain ⟨⟨v62, M62⟩, hk62, hyp⟩ := bd_some hyp
                    try dsimp only at hyp
                    refine am_callV [_, _] dX12_clause_269 ml_X12_171 vm_X12_number (sh_54 g) rfl (fun _ => Nat.le_of_ble_eq_true rfl) (by omega) rfl (ef_X12_number (d := d + 2) (h := h) g hk62) rfl ?_
                    change am_At _ _ _ 272 [_, _, _, _] [_] _ _
                    refine am_istore_n dX12_clause_272 (am_lb rfl) ?_
                    change am_At _ _ _ 273 [_, _, _, _] [] _ _
                    refine am_aload_n dX12_clause_273 rfl ?_
                    refine am_getI 12 5 dX12_clause_274 fg_X12_119 (sh_54 g) (by decide) rfl ?_
                    refine am_if_ne (48) 325 dX12_clause_277 rfl ?_ ?_
                    · intro hc63n
                      have hc63n : ¬ ((M62 54 0 5) = 0) := hc63n
                      replace hyp := it_neg hc63n hyp
                      refine am_iload_n dX12_clause_325 rfl ?_
                      refine am_iconst 3 (v := 3) dX12_clause_326 (by decide) ?_
                      refine am_icmp_ge (24) 351 dX12_clause_327 rfl ?_ ?_
                      · intro hc64
                        have hc64 : (3 : Int32) ≤ v1 := hc64
                        replace hyp := it_pos hc64 hyp
                        refine am_aload_n dX12_clause_351 rfl ?_
                        refine am_bipush 59 (v := 59) dX12_clause_352 (by decide) ?_
                        obtain ⟨M65, hk65, hyp⟩ := bd_some hyp
                        try dsimp only at hyp
                        refine am_callV [_] dX12_clause_354 ml_X12_175 vm_X12_sign (sh_54 g) rfl (fun _ => Nat.le_of_ble_eq_true rfl) (by omega) rfl (ef_X12_sign (d := d + 2) (h := h) g hk65) rfl ?_
                        change am_At _ _ _ 357 [_, _, _, _] [] _ _
                        cases hyp
                        exact am_vret dX12_clause_357 rfl
                      · intro hc64n
                        have hc64n : ¬ ((3 : Int32) ≤ v1) := hc64n
                        replace hyp := it_neg hc64n hyp
                        refine am_aload_n dX12_clause_330 rfl ?_
                        refine am_getR 12 11 57 dX12_clause_331 fg_X12_20 (sh_54 g) (by decide) rfl (rf_54_11 g) ?_
                        refine am_iload_n dX12_clause_334 rfl ?_
                        refine am_dup2 dX12_clause_335 (fun _ => rfl) (fun _ => rfl) ?_
                        obtain ⟨hg66, hyp⟩ := gd_some hyp
                        refine am_iald dX12_clause_336 (am_ia.one (sh_57 g)) (am_lit hg66) ?_
                        refine am_aload_n dX12_clause_337 rfl ?_
                        refine am_getI 12 5 dX12_clause_338 fg_X12_119 (sh_54 g) (by decide) rfl ?_
                        refine am_if_neT (7) 348 dX12_clause_341 rfl hc63n ?_
                        refine am_iconst 0 (v := 0) dX12_clause_348 (by decide) ?_
                        refine am_iadd dX12_clause_349 ?_
                        refine am_iast dX12_clause_350 (am_ia.one (sh_57 g)) (am_lit hg66) ?_
                        refine am_aload_n dX12_clause_351 rfl ?_
                        refine am_bipush 59 (v := 59) dX12_clause_352 (by decide) ?_
                        obtain ⟨M67, hk67, hyp⟩ := bd_some hyp
                        try dsimp only at hyp
                        refine am_callV [_] dX12_clause_354 ml_X12_175 vm_X12_sign (sh_54 g) rfl (fun _ => Nat.le_of_ble_eq_true rfl) (by omega) rfl (ef_X12_sign (d := d + 2) (h := h) g hk67) rfl ?_
                        change am_At _ _ _ 357 [_, _, _, _] [] _ _
                        cases hyp
                        exact am_vret dX12_clause_357 rfl
                    · intro hc63
                      have hc63 : (M62 54 0 5) = 0 := hc63
                      replace hyp := it_pos hc63 hyp
                      refine am_aload_n dX12_clause_280 rfl ?_
                      refine am_getR 12 13 59 dX12_clause_281 fg_X12_28 (sh_54 g) (by decide) rfl (rf_54_13 g) ?_
                      refine am_iload_n dX12_clause_284 rfl ?_
                      obtain ⟨hg68, hyp⟩ := gd_some hyp
                      refine am_aald dX12_clause_285 (sh_59 g) (am_lit hg68) ?_
                      refine am_iconst 3 (v := 3) dX12_clause_286 (by decide) ?_
                      refine am_iload_n dX12_clause_287 rfl ?_
                      refine am_iast dX12_clause_288 (am_ia.row (sh_59 g) (by omega) (am_vlt (am_lit hg68))) (am_lit rfl) ?_
                      refine am_goto (36) 325 dX12_clause_289 rfl ?_
                      refine am_iload_n dX12_clause_325 rfl ?_
                      refine am_iconst 3 (v := 3) dX12_clause_326 (by decide) ?_
                      refine am_icmp_ge (24) 351 dX12_clause_327 rfl ?_ ?_
                      · intro hc69
                        have hc69 : (3 : Int32) ≤ v1 := hc69
                        replace hyp := it_pos hc69 hyp
                        refine am_aload_n dX12_clause_351 rfl ?_
                        refine am_bipush 59 (v := 59) dX12_clause_352 (by decide) ?_
                        obtain ⟨M70, hk70, hyp⟩ := bd_some hyp
                        try dsimp only at hyp
                        refine am_callV [_] dX12_clause_354 ml_X12_175 vm_X12_sign (sh_54 g) rfl (fun _ => Nat.le_of_ble_eq_true rfl) (by omega) rfl (ef_X12_sign (d := d + 2) (h := h) g hk70) rfl ?_
                        change am_At _ _ _ 357 [_, _, _, _] [] _ _
                        cases hyp
                        exact am_vret dX12_clause_357 rfl
                      · intro hc69n
                        have hc69n : ¬ ((3 : Int32) ≤ v1) := hc69n
                        replace hyp := it_neg hc69n hyp
                        refine am_aload_n dX12_clause_330 rfl ?_
                        refine am_getR 12 11 57 dX12_clause_331 fg_X12_20 (sh_54 g) (by decide) rfl (rf_54_11 g) ?_
                        refine am_iload_n dX12_clause_334 rfl ?_
                        refine am_dup2 dX12_clause_335 (fun _ => rfl) (fun _ => rfl) ?_
                        obtain ⟨hg71, hyp⟩ := gd_some hyp
                        refine am_iald dX12_clause_336 (am_ia.one (sh_57 g)) (am_lit hg71) ?_
                        refine am_aload_n dX12_clause_337 rfl ?_
                        refine am_getI 12 5 dX12_clause_338 fg_X12_119 (sh_54 g) (by decide) rfl ?_
                        refine am_if_neF (7) 348 dX12_clause_341 rfl hc63 ?_
                        refine am_iconst 1 (v := 1) dX12_clause_344 (by decide) ?_
                        refine am_goto (4) 349 dX12_clause_345 rfl ?_
                        refine am_iadd dX12_clause_349 ?_
                        refine am_iast dX12_clause_350 (am_ia.one (sh_57 g)) (am_lit hg71) ?_
                        refine am_aload_n dX12_clause_351 rfl ?_
                        refine am_bipush 59 (v := 59) dX12_clause_352 (by decide) ?_
                        obtain ⟨M72, hk72, hyp⟩ := bd_some hyp
                        try dsimp only at hyp
                        refine am_callV [_] dX12_clause_354 ml_X12_175 vm_X12_sign (sh_54 g) rfl (fun _ => Nat.le_of_ble_eq_true rfl) (by omega) rfl (ef_X12_sign (d := d + 2) (h := h) g hk72) rfl ?_
                        change am_At _ _ _ 357 [_, _, _, _] [] _ _
                        cases hyp
                        exact am_vret dX12_clause_357 rfl
                  · have hc60n := hc60
                    replace hyp := it_neg hc60n hyp
                    refine am_tabOut 292 dX12_clause_71 (by have q0 := lv_neT (a := 0) hc6n (by decide); have q1 := lv_neT (a := 1) hc17n (by decide); have q2 := lv_neT (a := 2) hc27n (by decide); have q3 := lv_neT (a := 3) hc38n (by decide); have q4 := lv_neT (a := 4) hc49n (by decide); have q5 := lv_neT (a := 5) hc60n (by decide); omega) rfl ?_
                    refine am_aload_n dX12_clause_292 rfl ?_
                    refine am_iload_n dX12_clause_293 rfl ?_
                    refine am_iconst 3 (v := 3) dX12_clause_294 (by decide) ?_
                    refine am_icmp_neT (7) 302 dX12_clause_295 rfl hc38n ?_
                    refine am_iconst 0 (v := 0) dX12_clause_302 (by decide) ?_
                    refine am_iconst 4 (v := 4) dX12_clause_303 (by decide) ?_
                    obtain ⟨⟨v73, M73⟩, hk73, hyp⟩ := bd_some hyp
                    try dsimp only at hyp
                    refine am_callV [_, _] dX12_clause_304 ml_X12_171 vm_X12_number (sh_54 g) rfl (fun _ => Nat.le_of_ble_eq_true rfl) (by omega) rfl (ef_X12_number (d := d + 2) (h := h) g hk73) rfl ?_
                    change am_At _ _ _ 307 [_, _, _, _] [_] _ _
                    refine am_istore_n dX12_clause_307 (am_lb rfl) ?_
                    change am_At _ _ _ 308 [_, _, _, _] [] _ _
                    refine am_aload_n dX12_clause_308 rfl ?_
                    refine am_getI 12 5 dX12_clause_309 fg_X12_119 (sh_54 g) (by decide) rfl ?_
                    refine am_if_ne (13) 325 dX12_clause_312 rfl ?_ ?_
                    · intro hc74n
                      have hc74n : ¬ ((M73 54 0 5) = 0) := hc74n
                      replace hyp := it_neg hc74n hyp
                      refine am_iload_n dX12_clause_325 rfl ?_
                      refine am_iconst 3 (v := 3) dX12_clause_326 (by decide) ?_
                      refine am_icmp_ge (24) 351 dX12_clause_327 rfl ?_ ?_
                      · intro hc75
                        have hc75 : (3 : Int32) ≤ v1 := hc75
                        replace hyp := it_pos hc75 hyp
                        refine am_aload_n dX12_clause_351 rfl ?_
                        refine am_bipush 59 (v := 59) dX12_clause_352 (by decide) ?_
                        obtain ⟨M76, hk76, hyp⟩ := bd_some hyp
                        try dsimp only at hyp
                        refine am_callV [_] dX12_clause_354 ml_X12_175 vm_X12_sign (sh_54 g) rfl (fun _ => Nat.le_of_ble_eq_true rfl) (by omega) rfl (ef_X12_sign (d := d + 2) (h := h) g hk76) rfl ?_
                        change am_At _ _ _ 357 [_, _, _, _] [] _ _
                        cases hyp
                        exact am_vret dX12_clause_357 rfl
                      · intro hc75n
                        have hc75n : ¬ ((3 : Int32) ≤ v1) := hc75n
                        replace hyp := it_neg hc75n hyp
                        refine am_aload_n dX12_clause_330 rfl ?_
                        refine am_getR 12 11 57 dX12_clause_331 fg_X12_20 (sh_54 g) (by decide) rfl (rf_54_11 g) ?_
                        refine am_iload_n dX12_clause_334 rfl ?_
                        refine am_dup2 dX12_clause_335 (fun _ => rfl) (fun _ => rfl) ?_
                        obtain ⟨hg77, hyp⟩ := gd_some hyp
                        refine am_iald dX12_clause_336 (am_ia.one (sh_57 g)) (am_lit hg77) ?_
                        refine am_aload_n dX12_clause_337 rfl ?_
                        refine am_getI 12 5 dX12_clause_338 fg_X12_119 (sh_54 g) (by decide) rfl ?_
                        refine am_if_neT (7) 348 dX12_clause_341 rfl hc74n ?_
                        refine am_iconst 0 (v := 0) dX12_clause_348 (by decide) ?_
                        refine am_iadd dX12_clause_349 ?_
                        refine am_iast dX12_clause_350 (am_ia.one (sh_57 g)) (am_lit hg77) ?_
                        refine am_aload_n dX12_clause_351 rfl ?_
                        refine am_bipush 59 (v := 59) dX12_clause_352 (by decide) ?_
                        obtain ⟨M78, hk78, hyp⟩ := bd_some hyp
                        try dsimp only at hyp
                        refine am_callV [_] dX12_clause_354 ml_X12_175 vm_X12_sign (sh_54 g) rfl (fun _ => Nat.le_of_ble_eq_true rfl) (by omega) rfl (ef_X12_sign (d := d + 2) (h := h) g hk78) rfl ?_
                        change am_At _ _ _ 357 [_, _, _, _] [] _ _
                        cases hyp
                        exact am_vret dX12_clause_357 rfl
                    · intro hc74
                      have hc74 : (M73 54 0 5) = 0 := hc74
                      replace hyp := it_pos hc74 hyp
                      refine am_aload_n dX12_clause_315 rfl ?_
                      refine am_getR 12 11 57 dX12_clause_316 fg_X12_20 (sh_54 g) (by decide) rfl (rf_54_11 g) ?_
                      refine am_iload_n dX12_clause_319 rfl ?_
                      refine am_iload_n dX12_clause_320 rfl ?_
                      obtain ⟨hg79, hyp⟩ := gd_some hyp
                      refine am_iast dX12_clause_321 (am_ia.one (sh_57 g)) (am_lit hg79) ?_
                      refine am_goto (3) 325 dX12_clause_322 rfl ?_
                      refine am_iload_n dX12_clause_325 rfl ?_
                      refine am_iconst 3 (v := 3) dX12_clause_326 (by decide) ?_
                      refine am_icmp_ge (24) 351 dX12_clause_327 rfl ?_ ?_
                      · intro hc80
                        have hc80 : (3 : Int32) ≤ v1 := hc80
                        replace hyp := it_pos hc80 hyp
                        refine am_aload_n dX12_clause_351 rfl ?_
                        refine am_bipush 59 (v := 59) dX12_clause_352 (by decide) ?_
                        obtain ⟨M81, hk81, hyp⟩ := bd_some hyp
                        try dsimp only at hyp
                        refine am_callV [_] dX12_clause_354 ml_X12_175 vm_X12_sign (sh_54 g) rfl (fun _ => Nat.le_of_ble_eq_true rfl) (by omega) rfl (ef_X12_sign (d := d + 2) (h := h) g hk81) rfl ?_
                        change am_At _ _ _ 357 [_, _, _, _] [] _ _
                        cases hyp
                        exact am_vret dX12_clause_357 rfl
                      · intro hc80n
                        have hc80n : ¬ ((3 : Int32) ≤ v1) := hc80n
                        replace hyp := it_neg hc80n hyp
                        refine am_aload_n dX12_clause_330 rfl ?_
                        refine am_getR 12 11 57 dX12_clause_331 fg_X12_20 (sh_54 g) (by decide) rfl (rf_54_11 g) ?_
                        refine am_iload_n dX12_clause_334 rfl ?_
                        refine am_dup2 dX12_clause_335 (fun _ => rfl) (fun _ => rfl) ?_
                        refine am_iald dX12_clause_336 (am_ia.one (sh_57 g)) (am_lit hg79) ?_
                        refine am_aload_n dX12_clause_337 rfl ?_
                        refine am_getI 12 5 dX12_clause_338 fg_X12_119 (sh_54 g) (by decide) rfl ?_
                        refine am_if_neF (7) 348 dX12_clause_341 rfl hc74 ?_
                        refine am_iconst 1 (v := 1) dX12_clause_344 (by decide) ?_
                        refine am_goto (4) 349 dX12_clause_345 rfl ?_
                        refine am_iadd dX12_clause_349 ?_
                        refine am_iast dX12_clause_350 (am_ia.one (sh_57 g)) (am_lit hg79) ?_
                        refine am_aload_n dX12_clause_351 rfl ?_
                        refine am_bipush 59 (v := 59) dX12_clause_352 (by decide) ?_
                        obtain ⟨M82, hk82, hyp⟩ := bd_some hyp
                        try dsimp only at hyp
                        refine am_callV [_] dX12_clause_354 ml_X12_175 vm_X12_sign (sh_54 g) rfl (fun _ => Nat.le_of_ble_eq_true rfl) (by omega) rfl (ef_X12_sign (d := d + 2) (h := h) g hk82) rfl ?_
                        change am_At _ _ _ 357 [_, _, _, _] [] _ _
                        cases hyp
                        exact am_vret dX12_clause_357 rfl
      · intro hc4n
        have hc4n : ¬ (((f_X12_wrong (3 : Int32) (M1 54 0 4) M1) 54 0 5) = 0) := hc4n
        replace hyp := it_neg hc4n hyp
        cases hyp
        exact am_vret dX12_clause_55 rfl
    · intro hc3n
      have hc3n : ¬ ((M1 54 0 7) = (60 : Int32)) := hc3n
      replace hyp := it_neg hc3n hyp
      refine am_aload_n dX12_clause_31 rfl ?_
      refine am_iload_n dX12_clause_32 rfl ?_
      refine am_callV [_] dX12_clause_33 ml_X12_168 vm_X12_isFull (sh_54 g) rfl (fun _ => Nat.le_of_ble_eq_true rfl) (by omega) rfl (ef_X12_isFull (d := d + 4) (h := h) g (x1 := v1) (M := M1) rfl) rfl ?_
      change am_At _ _ _ 36 [_, _, _, _] [_] _ _
      refine am_if_eq (12) 48 dX12_clause_36 rfl ?_ ?_
      · intro hc83
        have hc83 : (f_X12_isFull v1 M1) = 0 := hc83
        replace hyp := it_pos hc83 hyp
        refine am_aload_n dX12_clause_48 rfl ?_
        refine am_getI 12 5 dX12_clause_49 fg_X12_119 (sh_54 g) (by decide) rfl ?_
        refine am_if_eq (4) 56 dX12_clause_52 rfl ?_ ?_
        · intro hc84
          have hc84 : (M1 54 0 5) = 0 := hc84
          replace hyp := it_pos hc84 hyp
          refine am_aload_n dX12_clause_56 rfl ?_
          obtain ⟨M85, hk85, hyp⟩ := bd_some hyp
          try dsimp only at hyp
          refine am_callV [] dX12_clause_57 ml_X12_156 vm_X12_skipWord (sh_54 g) rfl (fun _ => Nat.le_of_ble_eq_true rfl) (by omega) rfl (ef_X12_skipWord (d := d + 3) (h := h) g hk85) rfl ?_
          change am_At _ _ _ 60 [_, _, _, _] [] _ _
          refine am_aload_n dX12_clause_60 rfl ?_
          refine am_dup dX12_clause_61 (fun _ => rfl) ?_
          refine am_getI 12 7 dX12_clause_62 fg_X12_159 (sh_54 g) (by decide) rfl ?_
          refine am_iconst 1 (v := 1) dX12_clause_65 (by decide) ?_
          refine am_iadd dX12_clause_66 ?_
          refine am_putI 12 7 dX12_clause_67 (Or.inl fp_X12_159) (sh_54 g) (by decide) rfl rfl rfl ?_
          refine am_iload_n dX12_clause_70 rfl ?_
          by_cases hc86 : v1 = (0 : Int32)
          · refine am_tabIn (37) 108 dX12_clause_71 (by rw [hc86]; decide) (by rw [hc86]; decide) (by rw [hc86]; rfl) rfl ?_
            replace hyp := it_pos hc86 hyp
            refine am_aload_n dX12_clause_108 rfl ?_
            refine am_getR 12 13 59 dX12_clause_109 fg_X12_28 (sh_54 g) (by decide) rfl (rf_54_13 g) ?_
            refine am_aload_n dX12_clause_112 rfl ?_
            refine am_getR 12 11 57 dX12_clause_113 fg_X12_20 (sh_54 g) (by decide) rfl (rf_54_11 g) ?_
            refine am_iconst 0 (v := 0) dX12_clause_116 (by decide) ?_
            refine am_iald dX12_clause_117 (am_ia.one (sh_57 g)) (am_lit rfl) ?_
            obtain ⟨hg87, hyp⟩ := gd_some hyp
            refine am_aald dX12_clause_118 (sh_59 g) (am_lit hg87) ?_
            refine am_astore_n dX12_clause_119 (am_lb rfl) ?_
            change am_At _ _ _ 120 [_, _, _, _] [] _ _
            refine am_aload_n dX12_clause_120 rfl ?_
            refine am_iconst 0 (v := 0) dX12_clause_121 (by decide) ?_
            refine am_aload_n dX12_clause_122 rfl ?_
            refine am_iconst 0 (v := 0) dX12_clause_123 (by decide) ?_
            refine am_bipush 9 (v := 9) dX12_clause_124 (by decide) ?_
            obtain ⟨⟨v88, M88⟩, hk88, hyp⟩ := bd_some hyp
            try dsimp only at hyp
            refine am_callV [_, _] dX12_clause_126 ml_X12_171 vm_X12_number (sh_54 g) rfl (fun _ => Nat.le_of_ble_eq_true rfl) (by omega) rfl (ef_X12_number (d := d + 2) (h := h) g hk88) rfl ?_
            change am_At _ _ _ 129 [_, _, _, _] [_, _, _] _ _
            refine am_iast dX12_clause_129 (am_ia.row (sh_59 g) (by omega) (am_vlt (am_lit hg87))) (am_lit rfl) ?_
            refine am_aload_n dX12_clause_130 rfl ?_
            refine am_iconst 1 (v := 1) dX12_clause_131 (by decide) ?_
            refine am_aload_n dX12_clause_132 rfl ?_
            refine am_iconst 0 (v := 0) dX12_clause_133 (by decide) ?_
            refine am_bipush 20 (v := 20) dX12_clause_134 (by decide) ?_
            obtain ⟨⟨v89, M89⟩, hk89, hyp⟩ := bd_some hyp
            try dsimp only at hyp
            refine am_callV [_, _] dX12_clause_136 ml_X12_171 vm_X12_number (sh_54 g) rfl (fun _ => Nat.le_of_ble_eq_true rfl) (by omega) rfl (ef_X12_number (d := d + 2) (h := h) g hk89) rfl ?_
            change am_At _ _ _ 139 [_, _, _, _] [_, _, _] _ _
            refine am_iast dX12_clause_139 (am_ia.row (sh_59 g) (by omega) (am_vlt (am_lit hg87))) (am_lit rfl) ?_
            refine am_aload_n dX12_clause_140 rfl ?_
            refine am_iconst 2 (v := 2) dX12_clause_141 (by decide) ?_
            refine am_aload_n dX12_clause_142 rfl ?_
            refine am_iconst 0 (v := 0) dX12_clause_143 (by decide) ?_
            refine am_bipush 9 (v := 9) dX12_clause_144 (by decide) ?_
            obtain ⟨⟨v90, M90⟩, hk90, hyp⟩ := bd_some hyp
            try dsimp only at hyp
            refine am_callV [_, _] dX12_clause_146 ml_X12_171 vm_X12_number (sh_54 g) rfl (fun _ => Nat.le_of_ble_eq_true rfl) (by omega) rfl (ef_X12_number (d := d + 2) (h := h) g hk90) rfl ?_
            change am_At _ _ _ 149 [_, _, _, _] [_, _, _] _ _
            refine am_iast dX12_clause_149 (am_ia.row (sh_59 g) (by omega) (am_vlt (am_lit hg87))) (am_lit rfl) ?_
            refine am_aload_n dX12_clause_150 rfl ?_
            refine am_iconst 3 (v := 3) dX12_clause_151 (by decide) ?_
            refine am_iconst 0 (v := 0) dX12_clause_152 (by decide) ?_
            refine am_iast dX12_clause_153 (am_ia.row (sh_59 g) (by omega) (am_vlt (am_lit hg87))) (am_lit rfl) ?_
            refine am_goto (171) 325 dX12_clause_154 rfl ?_
            refine am_iload_n dX12_clause_325 rfl ?_
            refine am_iconst 3 (v := 3) dX12_clause_326 (by decide) ?_
            refine am_icmp_ge (24) 351 dX12_clause_327 rfl ?_ ?_
            · intro hc91
              have hc91 : (3 : Int32) ≤ v1 := hc91
              replace hyp := it_pos hc91 hyp
              refine am_aload_n dX12_clause_351 rfl ?_
              refine am_bipush 59 (v := 59) dX12_clause_352 (by decide) ?_
              obtain ⟨M92, hk92, hyp⟩ := bd_some hyp
              try dsimp only at hyp
              refine am_callV [_] dX12_clause_354 ml_X12_175 vm_X12_sign (sh_54 g) rfl (fun _ => Nat.le_of_ble_eq_true rfl) (by omega) rfl (ef_X12_sign (d := d + 2) (h := h) g hk92) rfl ?_
              change am_At _ _ _ 357 [_, _, _, _] [] _ _
              cases hyp
              exact am_vret dX12_clause_357 rfl
            · intro hc91n
              have hc91n : ¬ ((3 : Int32) ≤ v1) := hc91n
              replace hyp := it_neg hc91n hyp
              refine am_aload_n dX12_clause_330 rfl ?_
              refine am_getR 12 11 57 dX12_clause_331 fg_X12_20 (sh_54 g) (by decide) rfl (rf_54_11 g) ?_
              refine am_iload_n dX12_clause_334 rfl ?_
              refine am_dup2 dX12_clause_335 (fun _ => rfl) (fun _ => rfl) ?_
              obtain ⟨hg93, hyp⟩ := gd_some hyp
              refine am_iald dX12_clause_336 (am_ia.one (sh_57 g)) (am_lit hg93) ?_
              refine am_aload_n dX12_clause_337 rfl ?_
              refine am_getI 12 5 dX12_clause_338 fg_X12_119 (sh_54 g) (by decide) rfl ?_
              refine am_if_ne (7) 348 dX12_clause_341 rfl ?_ ?_
              · intro hc94n
                have hc94n : ¬ ((M90 54 0 5) = 0) := hc94n
                replace hyp := it_neg hc94n hyp
                refine am_iconst 0 (v := 0) dX12_clause_348 (by decide) ?_
                refine am_iadd dX12_clause_349 ?_
                refine am_iast dX12_clause_350 (am_ia.one (sh_57 g)) (am_lit hg93) ?_
                refine am_aload_n dX12_clause_351 rfl ?_
                refine am_bipush 59 (v := 59) dX12_clause_352 (by decide) ?_
                obtain ⟨M95, hk95, hyp⟩ := bd_some hyp
                try dsimp only at hyp
                refine am_callV [_] dX12_clause_354 ml_X12_175 vm_X12_sign (sh_54 g) rfl (fun _ => Nat.le_of_ble_eq_true rfl) (by omega) rfl (ef_X12_sign (d := d + 2) (h := h) g hk95) rfl ?_
                change am_At _ _ _ 357 [_, _, _, _] [] _ _
                cases hyp
                exact am_vret dX12_clause_357 rfl
              · intro hc94
                have hc94 : (M90 54 0 5) = 0 := hc94
                replace hyp := it_pos hc94 hyp
                refine am_iconst 1 (v := 1) dX12_clause_344 (by decide) ?_
                refine am_goto (4) 349 dX12_clause_345 rfl ?_
                refine am_iadd dX12_clause_349 ?_
                refine am_iast dX12_clause_350 (am_ia.one (sh_57 g)) (am_lit hg93) ?_
                refine am_aload_n dX12_clause_351 rfl ?_
                refine am_bipush 59 (v := 59) dX12_clause_352 (by decide) ?_
                obtain ⟨M96, hk96, hyp⟩ := bd_some hyp
                try dsimp only at hyp
                refine am_callV [_] dX12_clause_354 ml_X12_175 vm_X12_sign (sh_54 g) rfl (fun _ => Nat.le_of_ble_eq_true rfl) (by omega) rfl (ef_X12_sign (d := d + 2) (h := h) g hk96) rfl ?_
                change am_At _ _ _ 357 [_, _, _, _] [] _ _
                cases hyp
                exact am_vret dX12_clause_357 rfl
          · have hc86n := hc86
            replace hyp := it_neg hc86n hyp
            by_cases hc97 : v1 = (1 : Int32)
            · refine am_tabIn (86) 157 dX12_clause_71 (by rw [hc97]; decide) (by rw [hc97]; decide) (by rw [hc97]; rfl) rfl ?_
              replace hyp := it_pos hc97 hyp
              refine am_aload_n dX12_clause_157 rfl ?_
              refine am_getR 12 15 61 dX12_clause_158 fg_X12_34 (sh_54 g) (by decide) rfl (rf_54_15 g) ?_
              refine am_aload_n dX12_clause_161 rfl ?_
              refine am_getR 12 11 57 dX12_clause_162 fg_X12_20 (sh_54 g) (by decide) rfl (rf_54_11 g) ?_
              refine am_iconst 1 (v := 1) dX12_clause_165 (by decide) ?_
              refine am_iald dX12_clause_166 (am_ia.one (sh_57 g)) (am_lit rfl) ?_
              obtain ⟨hg98, hyp⟩ := gd_some hyp
              refine am_aald dX12_clause_167 (sh_61 g) (am_lit hg98) ?_
              refine am_astore_n dX12_clause_168 (am_lb rfl) ?_
              change am_At _ _ _ 169 [_, _, _, _] [] _ _
              refine am_aload_n dX12_clause_169 rfl ?_
              refine am_iconst 0 (v := 0) dX12_clause_170 (by decide) ?_
              refine am_aload_n dX12_clause_171 rfl ?_
              refine am_iconst 0 (v := 0) dX12_clause_172 (by decide) ?_
              refine am_bipush 9 (v := 9) dX12_clause_173 (by decide) ?_
              obtain ⟨⟨v99, M99⟩, hk99, hyp⟩ := bd_some hyp
              try dsimp only at hyp
              refine am_callV [_, _] dX12_clause_175 ml_X12_171 vm_X12_number (sh_54 g) rfl (fun _ => Nat.le_of_ble_eq_true rfl) (by omega) rfl (ef_X12_number (d := d + 2) (h := h) g hk99) rfl ?_
              change am_At _ _ _ 178 [_, _, _, _] [_, _, _] _ _
              refine am_iast dX12_clause_178 (am_ia.row (sh_61 g) (by omega) (am_vlt (am_lit hg98))) (am_lit rfl) ?_
              refine am_aload_n dX12_clause_179 rfl ?_
              refine am_iconst 1 (v := 1) dX12_clause_180 (by decide) ?_
              refine am_aload_n dX12_clause_181 rfl ?_
              refine am_iconst 0 (v := 0) dX12_clause_182 (by decide) ?_
              refine am_bipush 95 (v := 95) dX12_clause_183 (by decide) ?_
              obtain ⟨⟨v100, M100⟩, hk100, hyp⟩ := bd_some hyp
              try dsimp only at hyp
              refine am_callV [_, _] dX12_clause_185 ml_X12_171 vm_X12_number (sh_54 g) rfl (fun _ => Nat.le_of_ble_eq_true rfl) (by omega) rfl (ef_X12_number (d := d + 2) (h := h) g hk100) rfl ?_
              change am_At _ _ _ 188 [_, _, _, _] [_, _, _] _ _
              refine am_iast dX12_clause_188 (am_ia.row (sh_61 g) (by omega) (am_vlt (am_lit hg98))) (am_lit rfl) ?_
              refine am_goto (136) 325 dX12_clause_189 rfl ?_
              refine am_iload_n dX12_clause_325 rfl ?_
              refine am_iconst 3 (v := 3) dX12_clause_326 (by decide) ?_
              refine am_icmp_ge (24) 351 dX12_clause_327 rfl ?_ ?_
              · intro hc101
                have hc101 : (3 : Int32) ≤ v1 := hc101
                replace hyp := it_pos hc101 hyp
                refine am_aload_n dX12_clause_351 rfl ?_
                refine am_bipush 59 (v := 59) dX12_clause_352 (by decide) ?_
                obtain ⟨M102, hk102, hyp⟩ := bd_some hyp
                try dsimp only at hyp
                refine am_callV [_] dX12_clause_354 ml_X12_175 vm_X12_sign (sh_54 g) rfl (fun _ => Nat.le_of_ble_eq_true rfl) (by omega) rfl (ef_X12_sign (d := d + 2) (h := h) g hk102) rfl ?_
                change am_At _ _ _ 357 [_, _, _, _] [] _ _
                cases hyp
                exact am_vret dX12_clause_357 rfl
              · intro hc101n
                have hc101n : ¬ ((3 : Int32) ≤ v1) := hc101n
                replace hyp := it_neg hc101n hyp
                refine am_aload_n dX12_clause_330 rfl ?_
                refine am_getR 12 11 57 dX12_clause_331 fg_X12_20 (sh_54 g) (by decide) rfl (rf_54_11 g) ?_
                refine am_iload_n dX12_clause_334 rfl ?_
                refine am_dup2 dX12_clause_335 (fun _ => rfl) (fun _ => rfl) ?_
                obtain ⟨hg103, hyp⟩ := gd_some hyp
                refine am_iald dX12_clause_336 (am_ia.one (sh_57 g)) (am_lit hg103) ?_
                refine am_aload_n dX12_clause_337 rfl ?_
                refine am_getI 12 5 dX12_clause_338 fg_X12_119 (sh_54 g) (by decide) rfl ?_
                refine am_if_ne (7) 348 dX12_clause_341 rfl ?_ ?_
                · intro hc104n
                  have hc104n : ¬ ((M100 54 0 5) = 0) := hc104n
                  replace hyp := it_neg hc104n hyp
                  refine am_iconst 0 (v := 0) dX12_clause_348 (by decide) ?_
                  refine am_iadd dX12_clause_349 ?_
                  refine am_iast dX12_clause_350 (am_ia.one (sh_57 g)) (am_lit hg103) ?_
                  refine am_aload_n dX12_clause_351 rfl ?_
                  refine am_bipush 59 (v := 59) dX12_clause_352 (by decide) ?_
                  obtain ⟨M105, hk105, hyp⟩ := bd_some hyp
                  try dsimp only at hyp
                  refine am_callV [_] dX12_clause_354 ml_X12_175 vm_X12_sign (sh_54 g) rfl (fun _ => Nat.le_of_ble_eq_true rfl) (by omega) rfl (ef_X12_sign (d := d + 2) (h := h) g hk105) rfl ?_
                  change am_At _ _ _ 357 [_, _, _, _] [] _ _
                  cases hyp
                  exact am_vret dX12_clause_357 rfl
                · intro hc104
                  have hc104 : (M100 54 0 5) = 0 := hc104
                  replace hyp := it_pos hc104 hyp
                  refine am_iconst 1 (v := 1) dX12_clause_344 (by decide) ?_
                  refine am_goto (4) 349 dX12_clause_345 rfl ?_
                  refine am_iadd dX12_clause_349 ?_
                  refine am_iast dX12_clause_350 (am_ia.one (sh_57 g)) (am_lit hg103) ?_
                  refine am_aload_n dX12_clause_351 rfl ?_
                  refine am_bipush 59 (v := 59) dX12_clause_352 (by decide) ?_
                  obtain ⟨M106, hk106, hyp⟩ := bd_some hyp
                  try dsimp only at hyp
                  refine am_callV [_] dX12_clause_354 ml_X12_175 vm_X12_sign (sh_54 g) rfl (fun _ => Nat.le_of_ble_eq_true rfl) (by omega) rfl (ef_X12_sign (d := d + 2) (h := h) g hk106) rfl ?_
                  change am_At _ _ _ 357 [_, _, _, _] [] _ _
                  cases hyp
                  exact am_vret dX12_clause_357 rfl
            · have hc97n := hc97
              replace hyp := it_neg hc97n hyp
              by_cases hc107 : v1 = (2 : Int32)
              · refine am_tabIn (121) 192 dX12_clause_71 (by rw [hc107]; decide) (by rw [hc107]; decide) (by rw [hc107]; rfl) rfl ?_
                replace hyp := it_pos hc107 hyp
                refine am_aload_n dX12_clause_192 rfl ?_
                refine am_getR 12 17 63 dX12_clause_193 fg_X12_40 (sh_54 g) (by decide) rfl (rf_54_17 g) ?_
                refine am_aload_n dX12_clause_196 rfl ?_
                refine am_getR 12 11 57 dX12_clause_197 fg_X12_20 (sh_54 g) (by decide) rfl (rf_54_11 g) ?_
                refine am_iconst 2 (v := 2) dX12_clause_200 (by decide) ?_
                refine am_iald dX12_clause_201 (am_ia.one (sh_57 g)) (am_lit rfl) ?_
                obtain ⟨hg108, hyp⟩ := gd_some hyp
                refine am_aald dX12_clause_202 (sh_63 g) (am_lit hg108) ?_
                refine am_astore_n dX12_clause_203 (am_lb rfl) ?_
                change am_At _ _ _ 204 [_, _, _, _] [] _ _
                refine am_aload_n dX12_clause_204 rfl ?_
                refine am_iconst 0 (v := 0) dX12_clause_205 (by decide) ?_
                refine am_aload_n dX12_clause_206 rfl ?_
                refine am_iconst 0 (v := 0) dX12_clause_207 (by decide) ?_
                refine am_aload_n dX12_clause_208 rfl ?_
                refine am_getR 12 11 57 dX12_clause_209 fg_X12_20 (sh_54 g) (by decide) rfl (rf_54_11 g) ?_
                refine am_iconst 0 (v := 0) dX12_clause_212 (by decide) ?_
                refine am_iald dX12_clause_213 (am_ia.one (sh_57 g)) (am_lit rfl) ?_
                refine am_iconst 1 (v := 1) dX12_clause_214 (by decide) ?_
                refine am_isub dX12_clause_215 ?_
                obtain ⟨⟨v109, M109⟩, hk109, hyp⟩ := bd_some hyp
                try dsimp only at hyp
                refine am_callV [_, _] dX12_clause_216 ml_X12_171 vm_X12_number (sh_54 g) rfl (fun _ => Nat.le_of_ble_eq_true rfl) (by omega) rfl (ef_X12_number (d := d + 2) (h := h) g hk109) rfl ?_
                change am_At _ _ _ 219 [_, _, _, _] [_, _, _] _ _
                refine am_iast dX12_clause_219 (am_ia.row (sh_63 g) (by omega) (am_vlt (am_lit hg108))) (am_lit rfl) ?_
                refine am_aload_n dX12_clause_220 rfl ?_
                refine am_iconst 1 (v := 1) dX12_clause_221 (by decide) ?_
                refine am_aload_n dX12_clause_222 rfl ?_
                refine am_aload_n dX12_clause_223 rfl ?_
                refine am_iconst 0 (v := 0) dX12_clause_224 (by decide) ?_
                refine am_iald dX12_clause_225 (am_ia.row (sh_63 g) (by omega) (am_vlt (am_lit hg108))) (am_lit rfl) ?_
                refine am_aload_n dX12_clause_226 rfl ?_
                refine am_getR 12 11 57 dX12_clause_227 fg_X12_20 (sh_54 g) (by decide) rfl (rf_54_11 g) ?_
                refine am_iconst 0 (v := 0) dX12_clause_230 (by decide) ?_
                refine am_iald dX12_clause_231 (am_ia.one (sh_57 g)) (am_lit rfl) ?_
                refine am_iconst 1 (v := 1) dX12_clause_232 (by decide) ?_
                refine am_isub dX12_clause_233 ?_
                obtain ⟨⟨v110, M110⟩, hk110, hyp⟩ := bd_some hyp
                try dsimp only at hyp
                refine am_callV [_, _] dX12_clause_234 ml_X12_171 vm_X12_number (sh_54 g) rfl (fun _ => Nat.le_of_ble_eq_true rfl) (by omega) rfl (ef_X12_number (d := d + 2) (h := h) g hk110) rfl ?_
                change am_At _ _ _ 237 [_, _, _, _] [_, _, _] _ _
                refine am_iast dX12_clause_237 (am_ia.row (sh_63 g) (by omega) (am_vlt (am_lit hg108))) (am_lit rfl) ?_
                refine am_aload_n dX12_clause_238 rfl ?_
                refine am_iconst 2 (v := 2) dX12_clause_239 (by decide) ?_
                refine am_aload_n dX12_clause_240 rfl ?_
                refine am_iconst 1 (v := 1) dX12_clause_241 (by decide) ?_
                refine am_bipush 40 (v := 40) dX12_clause_242 (by decide) ?_
                obtain ⟨⟨v111, M111⟩, hk111, hyp⟩ := bd_some hyp
                try dsimp only at hyp
                refine am_callV [_, _] dX12_clause_244 ml_X12_171 vm_X12_number (sh_54 g) rfl (fun _ => Nat.le_of_ble_eq_true rfl) (by omega) rfl (ef_X12_number (d := d + 2) (h := h) g hk111) rfl ?_
                change am_At _ _ _ 247 [_, _, _, _] [_, _, _] _ _
                refine am_iast dX12_clause_247 (am_ia.row (sh_63 g) (by omega) (am_vlt (am_lit hg108))) (am_lit rfl) ?_
                refine am_goto (77) 325 dX12_clause_248 rfl ?_
                refine am_iload_n dX12_clause_325 rfl ?_
                refine am_iconst 3 (v := 3) dX12_clause_326 (by decide) ?_
                refine am_icmp_ge (24) 351 dX12_clause_327 rfl ?_ ?_
                · intro hc112
                  have hc112 : (3 : Int32) ≤ v1 := hc112
                  replace hyp := it_pos hc112 hyp
                  refine am_aload_n dX12_clause_351 rfl ?_
                  refine am_bipush 59 (v := 59) dX12_clause_352 (by decide) ?_
                  obtain ⟨M113, hk113, hyp⟩ := bd_some hyp
                  try dsimp only at hyp
                  refine am_callV [_] dX12_clause_354 ml_X12_175 vm_X12_sign (sh_54 g) rfl (fun _ => Nat.le_of_ble_eq_true rfl) (by omega) rfl (ef_X12_sign (d := d + 2) (h := h) g hk113) rfl ?_
                  change am_At _ _ _ 357 [_, _, _, _] [] _ _
                  cases hyp
                  exact am_vret dX12_clause_357 rfl
                · intro hc112n
                  have hc112n : ¬ ((3 : Int32) ≤ v1) := hc112n
                  replace hyp := it_neg hc112n hyp
                  refine am_aload_n dX12_clause_330 rfl ?_
                  refine am_getR 12 11 57 dX12_clause_331 fg_X12_20 (sh_54 g) (by decide) rfl (rf_54_11 g) ?_
                  refine am_iload_n dX12_clause_334 rfl ?_
                  refine am_dup2 dX12_clause_335 (fun _ => rfl) (fun _ => rfl) ?_
                  obtain ⟨hg114, hyp⟩ := gd_some hyp
                  refine am_iald dX12_clause_336 (am_ia.one (sh_57 g)) (am_lit hg114) ?_
                  refine am_aload_n dX12_clause_337 rfl ?_
                  refine am_getI 12 5 dX12_clause_338 fg_X12_119 (sh_54 g) (by decide) rfl ?_
                  refine am_if_ne (7) 348 dX12_clause_341 rfl ?_ ?_
                  · intro hc115n
                    have hc115n : ¬ ((M111 54 0 5) = 0) := hc115n
                    replace hyp := it_neg hc115n hyp
                    refine am_iconst 0 (v := 0) dX12_clause_348 (by decide) ?_
                    refine am_iadd dX12_clause_349 ?_
                    refine am_iast dX12_clause_350 (am_ia.one (sh_57 g)) (am_lit hg114) ?_
                    refine am_aload_n dX12_clause_351 rfl ?_
                    refine am_bipush 59 (v := 59) dX12_clause_352 (by decide) ?_
                    obtain ⟨M116, hk116, hyp⟩ := bd_some hyp
                    try dsimp only at hyp
                    refine am_callV [_] dX12_clause_354 ml_X12_175 vm_X12_sign (sh_54 g) rfl (fun _ => Nat.le_of_ble_eq_true rfl) (by omega) rfl (ef_X12_sign (d := d + 2) (h := h) g hk116) rfl ?_
                    change am_At _ _ _ 357 [_, _, _, _] [] _ _
                    cases hyp
                    exact am_vret dX12_clause_357 rfl
                  · intro hc115
                    have hc115 : (M111 54 0 5) = 0 := hc115
                    replace hyp := it_pos hc115 hyp
                    refine am_iconst 1 (v := 1) dX12_clause_344 (by decide) ?_
                    refine am_goto (4) 349 dX12_clause_345 rfl ?_
                    refine am_iadd dX12_clause_349 ?_
                    refine am_iast dX12_clause_350 (am_ia.one (sh_57 g)) (am_lit hg114) ?_
                    refine am_aload_n dX12_clause_351 rfl ?_
                    refine am_bipush 59 (v := 59) dX12_clause_352 (by decide) ?_
                    obtain ⟨M117, hk117, hyp⟩ := bd_some hyp
                    try dsimp only at hyp
                    refine am_callV [_] dX12_clause_354 ml_X12_175 vm_X12_sign (sh_54 g) rfl (fun _ => Nat.le_of_ble_eq_true rfl) (by omega) rfl (ef_X12_sign (d := d + 2) (h := h) g hk117) rfl ?_
                    change am_At _ _ _ 357 [_, _, _, _] [] _ _
                    cases hyp
                    exact am_vret dX12_clause_357 rfl
              · have hc107n := hc107
                replace hyp := it_neg hc107n hyp
                by_cases hc118 : v1 = (3 : Int32)
                · refine am_tabIn (221) 292 dX12_clause_71 (by rw [hc118]; decide) (by rw [hc118]; decide) (by rw [hc118]; rfl) rfl ?_
                  replace hyp := it_pos hc118 hyp
                  refine am_aload_n dX12_clause_292 rfl ?_
                  refine am_iload_n dX12_clause_293 rfl ?_
                  refine am_iconst 3 (v := 3) dX12_clause_294 (by decide) ?_
                  refine am_icmp_neF (7) 302 dX12_clause_295 rfl hc118 ?_
                  refine am_iconst 1 (v := 1) dX12_clause_298 (by decide) ?_
                  refine am_goto (4) 303 dX12_clause_299 rfl ?_
                  refine am_iconst 4 (v := 4) dX12_clause_303 (by decide) ?_
                  obtain ⟨⟨v119, M119⟩, hk119, hyp⟩ := bd_some hyp
                  try dsimp only at hyp
                  refine am_callV [_, _] dX12_clause_304 ml_X12_171 vm_X12_number (sh_54 g) rfl (fun _ => Nat.le_of_ble_eq_true rfl) (by omega) rfl (ef_X12_number (d := d + 2) (h := h) g hk119) rfl ?_
                  change am_At _ _ _ 307 [_, _, _, _] [_] _ _
                  refine am_istore_n dX12_clause_307 (am_lb rfl) ?_
                  change am_At _ _ _ 308 [_, _, _, _] [] _ _
                  refine am_aload_n dX12_clause_308 rfl ?_
                  refine am_getI 12 5 dX12_clause_309 fg_X12_119 (sh_54 g) (by decide) rfl ?_
                  refine am_if_ne (13) 325 dX12_clause_312 rfl ?_ ?_
                  · intro hc120n
                    have hc120n : ¬ ((M119 54 0 5) = 0) := hc120n
                    replace hyp := it_neg hc120n hyp
                    refine am_iload_n dX12_clause_325 rfl ?_
                    refine am_iconst 3 (v := 3) dX12_clause_326 (by decide) ?_
                    refine am_icmp_ge (24) 351 dX12_clause_327 rfl ?_ ?_
                    · intro hc121
                      have hc121 : (3 : Int32) ≤ v1 := hc121
                      replace hyp := it_pos hc121 hyp
                      refine am_aload_n dX12_clause_351 rfl ?_
                      refine am_bipush 59 (v := 59) dX12_clause_352 (by decide) ?_
                      obtain ⟨M122, hk122, hyp⟩ := bd_some hyp
                      try dsimp only at hyp
                      refine am_callV [_] dX12_clause_354 ml_X12_175 vm_X12_sign (sh_54 g) rfl (fun _ => Nat.le_of_ble_eq_true rfl) (by omega) rfl (ef_X12_sign (d := d + 2) (h := h) g hk122) rfl ?_
                      change am_At _ _ _ 357 [_, _, _, _] [] _ _
                      cases hyp
                      exact am_vret dX12_clause_357 rfl
                    · intro hc121n
                      have hc121n : ¬ ((3 : Int32) ≤ v1) := hc121n
                      replace hyp := it_neg hc121n hyp
                      refine am_aload_n dX12_clause_330 rfl ?_
                      refine am_getR 12 11 57 dX12_clause_331 fg_X12_20 (sh_54 g) (by decide) rfl (rf_54_11 g) ?_
                      refine am_iload_n dX12_clause_334 rfl ?_
                      refine am_dup2 dX12_clause_335 (fun _ => rfl) (fun _ => rfl) ?_
                      obtain ⟨hg123, hyp⟩ := gd_some hyp
                      refine am_iald dX12_clause_336 (am_ia.one (sh_57 g)) (am_lit hg123) ?_
                      refine am_aload_n dX12_clause_337 rfl ?_
                      refine am_getI 12 5 dX12_clause_338 fg_X12_119 (sh_54 g) (by decide) rfl ?_
                      refine am_if_neT (7) 348 dX12_clause_341 rfl hc120n ?_
                      refine am_iconst 0 (v := 0) dX12_clause_348 (by decide) ?_
                      refine am_iadd dX12_clause_349 ?_
                      refine am_iast dX12_clause_350 (am_ia.one (sh_57 g)) (am_lit hg123) ?_
                      refine am_aload_n dX12_clause_351 rfl ?_
                      refine am_bipush 59 (v := 59) dX12_clause_352 (by decide) ?_
                      obtain ⟨M124, hk124, hyp⟩ := bd_some hyp
                      try dsimp only at hyp
                      refine am_callV [_] dX12_clause_354 ml_X12_175 vm_X12_sign (sh_54 g) rfl (fun _ => Nat.le_of_ble_eq_true rfl) (by omega) rfl (ef_X12_sign (d := d + 2) (h := h) g hk124) rfl ?_
                      change am_At _ _ _ 357 [_, _, _, _] [] _ _
                      cases hyp
                      exact am_vret dX12_clause_357 rfl
                  · intro hc120
                    have hc120 : (M119 54 0 5) = 0 := hc120
                    replace hyp := it_pos hc120 hyp
                    refine am_aload_n dX12_clause_315 rfl ?_
                    refine am_getR 12 11 57 dX12_clause_316 fg_X12_20 (sh_54 g) (by decide) rfl (rf_54_11 g) ?_
                    refine am_iload_n dX12_clause_319 rfl ?_
                    refine am_iload_n dX12_clause_320 rfl ?_
                    obtain ⟨hg125, hyp⟩ := gd_some hyp
                    refine am_iast dX12_clause_321 (am_ia.one (sh_57 g)) (am_lit hg125) ?_
                    refine am_goto (3) 325 dX12_clause_322 rfl ?_
                    refine am_iload_n dX12_clause_325 rfl ?_
                    refine am_iconst 3 (v := 3) dX12_clause_326 (by decide) ?_
                    refine am_icmp_ge (24) 351 dX12_clause_327 rfl ?_ ?_
                    · intro hc126
                      have hc126 : (3 : Int32) ≤ v1 := hc126
                      replace hyp := it_pos hc126 hyp
                      refine am_aload_n dX12_clause_351 rfl ?_
                      refine am_bipush 59 (v := 59) dX12_clause_352 (by decide) ?_
                      obtain ⟨M127, hk127, hyp⟩ := bd_some hyp
                      try dsimp only at hyp
                      refine am_callV [_] dX12_clause_354 ml_X12_175 vm_X12_sign (sh_54 g) rfl (fun _ => Nat.le_of_ble_eq_true rfl) (by omega) rfl (ef_X12_sign (d := d + 2) (h := h) g hk127) rfl ?_
                      change am_At _ _ _ 357 [_, _, _, _] [] _ _
                      cases hyp
                      exact am_vret dX12_clause_357 rfl
                    · intro hc126n
                      have hc126n : ¬ ((3 : Int32) ≤ v1) := hc126n
                      replace hyp := it_neg hc126n hyp
                      refine am_aload_n dX12_clause_330 rfl ?_
                      refine am_getR 12 11 57 dX12_clause_331 fg_X12_20 (sh_54 g) (by decide) rfl (rf_54_11 g) ?_
                      refine am_iload_n dX12_clause_334 rfl ?_
                      refine am_dup2 dX12_clause_335 (fun _ => rfl) (fun _ => rfl) ?_
                      refine am_iald dX12_clause_336 (am_ia.one (sh_57 g)) (am_lit hg125) ?_
                      refine am_aload_n dX12_clause_337 rfl ?_
                      refine am_getI 12 5 dX12_clause_338 fg_X12_119 (sh_54 g) (by decide) rfl ?_
                      refine am_if_neF (7) 348 dX12_clause_341 rfl hc120 ?_
                      refine am_iconst 1 (v := 1) dX12_clause_344 (by decide) ?_
                      refine am_goto (4) 349 dX12_clause_345 rfl ?_
                      refine am_iadd dX12_clause_349 ?_
                      refine am_iast dX12_clause_350 (am_ia.one (sh_57 g)) (am_lit hg125) ?_
                      refine am_aload_n dX12_clause_351 rfl ?_
                      refine am_bipush 59 (v := 59) dX12_clause_352 (by decide) ?_
                      obtain ⟨M128, hk128, hyp⟩ := bd_some hyp
                      try dsimp only at hyp
                      refine am_callV [_] dX12_clause_354 ml_X12_175 vm_X12_sign (sh_54 g) rfl (fun _ => Nat.le_of_ble_eq_true rfl) (by omega) rfl (ef_X12_sign (d := d + 2) (h := h) g hk128) rfl ?_
                      change am_At _ _ _ 357 [_, _, _, _] [] _ _
                      cases hyp
                      exact am_vret dX12_clause_357 rfl
                · have hc118n := hc118
                  replace hyp := it_neg hc118n hyp
                  by_cases hc129 : v1 = (4 : Int32)
                  · refine am_tabIn (221) 292 dX12_clause_71 (by rw [hc129]; decide) (by rw [hc129]; decide) (by rw [hc129]; rfl) rfl ?_
                    replace hyp := it_pos hc129 hyp
                    refine am_aload_n dX12_clause_292 rfl ?_
                    refine am_iload_n dX12_clause_293 rfl ?_
                    refine am_iconst 3 (v := 3) dX12_clause_294 (by decide) ?_
                    refine am_icmp_neT (7) 302 dX12_clause_295 rfl hc118n ?_
                    refine am_iconst 0 (v := 0) dX12_clause_302 (by decide) ?_
                    refine am_iconst 4 (v := 4) dX12_clause_303 (by decide) ?_
                    obtain ⟨⟨v130, M130⟩, hk130, hyp⟩ := bd_some hyp
                    try dsimp only at hyp
                    refine am_callV [_, _] dX12_clause_304 ml_X12_171 vm_X12_number (sh_54 g) rfl (fun _ => Nat.le_of_ble_eq_true rfl) (by omega) rfl (ef_X12_number (d := d + 2) (h := h) g hk130) rfl ?_
                    change am_At _ _ _ 307 [_, _, _, _] [_] _ _
                    refine am_istore_n dX12_clause_307 (am_lb rfl) ?_
                    change am_At _ _ _ 308 [_, _, _, _] [] _ _
                    refine am_aload_n dX12_clause_308 rfl ?_
                    refine am_getI 12 5 dX12_clause_309 fg_X12_119 (sh_54 g) (by decide) rfl ?_
                    refine am_if_ne (13) 325 dX12_clause_312 rfl ?_ ?_
                    · intro hc131n
                      have hc131n : ¬ ((M130 54 0 5) = 0) := hc131n
                      replace hyp := it_neg hc131n hyp
                      refine am_iload_n dX12_clause_325 rfl ?_
                      refine am_iconst 3 (v := 3) dX12_clause_326 (by decide) ?_
                      refine am_icmp_ge (24) 351 dX12_clause_327 rfl ?_ ?_
                      · intro hc132
                        have hc132 : (3 : Int32) ≤ v1 := hc132
                        replace hyp := it_pos hc132 hyp
                        refine am_aload_n dX12_clause_351 rfl ?_
                        refine am_bipush 59 (v := 59) dX12_clause_352 (by decide) ?_
                        obtain ⟨M133, hk133, hyp⟩ := bd_some hyp
                        try dsimp only at hyp
                        refine am_callV [_] dX12_clause_354 ml_X12_175 vm_X12_sign (sh_54 g) rfl (fun _ => Nat.le_of_ble_eq_true rfl) (by omega) rfl (ef_X12_sign (d := d + 2) (h := h) g hk133) rfl ?_
                        change am_At _ _ _ 357 [_, _, _, _] [] _ _
                        cases hyp
                        exact am_vret dX12_clause_357 rfl
                      · intro hc132n
                        have hc132n : ¬ ((3 : Int32) ≤ v1) := hc132n
                        replace hyp := it_neg hc132n hyp
                        refine am_aload_n dX12_clause_330 rfl ?_
                        refine am_getR 12 11 57 dX12_clause_331 fg_X12_20 (sh_54 g) (by decide) rfl (rf_54_11 g) ?_
                        refine am_iload_n dX12_clause_334 rfl ?_
                        refine am_dup2 dX12_clause_335 (fun _ => rfl) (fun _ => rfl) ?_
                        obtain ⟨hg134, hyp⟩ := gd_some hyp
                        refine am_iald dX12_clause_336 (am_ia.one (sh_57 g)) (am_lit hg134) ?_
                        refine am_aload_n dX12_clause_337 rfl ?_
                        refine am_getI 12 5 dX12_clause_338 fg_X12_119 (sh_54 g) (by decide) rfl ?_
                        refine am_if_neT (7) 348 dX12_clause_341 rfl hc131n ?_
                        refine am_iconst 0 (v := 0) dX12_clause_348 (by decide) ?_
                        refine am_iadd dX12_clause_349 ?_
                        refine am_iast dX12_clause_350 (am_ia.one (sh_57 g)) (am_lit hg134) ?_
                        refine am_aload_n dX12_clause_351 rfl ?_
                        refine am_bipush 59 (v := 59) dX12_clause_352 (by decide) ?_
                        obtain ⟨M135, hk135, hyp⟩ := bd_some hyp
                        try dsimp only at hyp
                        refine am_callV [_] dX12_clause_354 ml_X12_175 vm_X12_sign (sh_54 g) rfl (fun _ => Nat.le_of_ble_eq_true rfl) (by omega) rfl (ef_X12_sign (d := d + 2) (h := h) g hk135) rfl ?_
                        change am_At _ _ _ 357 [_, _, _, _] [] _ _
                        cases hyp
                        exact am_vret dX12_clause_357 rfl
                    · intro hc131
                      have hc131 : (M130 54 0 5) = 0 := hc131
                      replace hyp := it_pos hc131 hyp
                      refine am_aload_n dX12_clause_315 rfl ?_
                      refine am_getR 12 11 57 dX12_clause_316 fg_X12_20 (sh_54 g) (by decide) rfl (rf_54_11 g) ?_
                      refine am_iload_n dX12_clause_319 rfl ?_
                      refine am_iload_n dX12_clause_320 rfl ?_
                      obtain ⟨hg136, hyp⟩ := gd_some hyp
                      refine am_iast dX12_clause_321 (am_ia.one (sh_57 g)) (am_lit hg136) ?_
                      refine am_goto (3) 325 dX12_clause_322 rfl ?_
                      refine am_iload_n dX12_clause_325 rfl ?_
                      refine am_iconst 3 (v := 3) dX12_clause_326 (by decide) ?_
                      refine am_icmp_ge (24) 351 dX12_clause_327 rfl ?_ ?_
                      · intro hc137
                        have hc137 : (3 : Int32) ≤ v1 := hc137
                        replace hyp := it_pos hc137 hyp
                        refine am_aload_n dX12_clause_351 rfl ?_
                        refine am_bipush 59 (v := 59) dX12_clause_352 (by decide) ?_
                        obtain ⟨M138, hk138, hyp⟩ := bd_some hyp
                        try dsimp only at hyp
                        refine am_callV [_] dX12_clause_354 ml_X12_175 vm_X12_sign (sh_54 g) rfl (fun _ => Nat.le_of_ble_eq_true rfl) (by omega) rfl (ef_X12_sign (d := d + 2) (h := h) g hk138) rfl ?_
                        change am_At _ _ _ 357 [_, _, _, _] [] _ _
                        cases hyp
                        exact am_vret dX12_clause_357 rfl
                      · intro hc137n
                        have hc137n : ¬ ((3 : Int32) ≤ v1) := hc137n
                        replace hyp := it_neg hc137n hyp
                        refine am_aload_n dX12_clause_330 rfl ?_
                        refine am_getR 12 11 57 dX12_clause_331 fg_X12_20 (sh_54 g) (by decide) rfl (rf_54_11 g) ?_
                        refine am_iload_n dX12_clause_334 rfl ?_
                        refine am_dup2 dX12_clause_335 (fun _ => rfl) (fun _ => rfl) ?_
                        refine am_iald dX12_clause_336 (am_ia.one (sh_57 g)) (am_lit hg136) ?_
                        refine am_aload_n dX12_clause_337 rfl ?_
                        refine am_getI 12 5 dX12_clause_338 fg_X12_119 (sh_54 g) (by decide) rfl ?_
                        refine am_if_neF (7) 348 dX12_clause_341 rfl hc131 ?_
                        refine am_iconst 1 (v := 1) dX12_clause_344 (by decide) ?_
                        refine am_goto (4) 349 dX12_clause_345 rfl ?_
                        refine am_iadd dX12_clause_349 ?_
                        refine am_iast dX12_clause_350 (am_ia.one (sh_57 g)) (am_lit hg136) ?_
                        refine am_aload_n dX12_clause_351 rfl ?_
                        refine am_bipush 59 (v := 59) dX12_clause_352 (by decide) ?_
                        obtain ⟨M139, hk139, hyp⟩ := bd_some hyp
                        try dsimp only at hyp
                        refine am_callV [_] dX12_clause_354 ml_X12_175 vm_X12_sign (sh_54 g) rfl (fun _ => Nat.le_of_ble_eq_true rfl) (by omega) rfl (ef_X12_sign (d := d + 2) (h := h) g hk139) rfl ?_
                        change am_At _ _ _ 357 [_, _, _, _] [] _ _
                        cases hyp
                        exact am_vret dX12_clause_357 rfl
                  · have hc129n := hc129
                    replace hyp := it_neg hc129n hyp
                    by_cases hc140 : v1 = (5 : Int32)
                    · refine am_tabIn (180) 251 dX12_clause_71 (by rw [hc140]; decide) (by rw [hc140]; decide) (by rw [hc140]; rfl) rfl ?_
                      replace hyp := it_pos hc140 hyp
                      refine am_aload_n dX12_clause_251 rfl ?_
                      refine am_iconst 0 (v := 0) dX12_clause_252 (by decide) ?_
                      refine am_aload_n dX12_clause_253 rfl ?_
                      refine am_getR 12 11 57 dX12_clause_254 fg_X12_20 (sh_54 g) (by decide) rfl (rf_54_11 g) ?_
                      refine am_iconst 0 (v := 0) dX12_clause_257 (by decide) ?_
                      refine am_iald dX12_clause_258 (am_ia.one (sh_57 g)) (am_lit rfl) ?_
                      refine am_iconst 1 (v := 1) dX12_clause_259 (by decide) ?_
                      refine am_isub dX12_clause_260 ?_
                      obtain ⟨⟨v141, M141⟩, hk141, hyp⟩ := bd_some hyp
                      try dsimp only at hyp
                      refine am_callV [_, _] dX12_clause_261 ml_X12_171 vm_X12_number (sh_54 g) rfl (fun _ => Nat.le_of_ble_eq_true rfl) (by omega) rfl (ef_X12_number (d := d + 2) (h := h) g hk141) rfl ?_
                      change am_At _ _ _ 264 [_, _, _, _] [_] _ _
                      refine am_istore_n dX12_clause_264 (am_lb rfl) ?_
                      change am_At _ _ _ 265 [_, _, _, _] [] _ _
                      refine am_aload_n dX12_clause_265 rfl ?_
                      refine am_iconst 0 (v := 0) dX12_clause_266 (by decide) ?_
                      refine am_bipush 40 (v := 40) dX12_clause_267 (by decide) ?_
                      obtain ⟨⟨v142, M142⟩, hk142, hyp⟩ := bd_some hyp
                      try dsimp only at hyp
                      refine am_callV [_, _] dX12_clause_269 ml_X12_171 vm_X12_number (sh_54 g) rfl (fun _ => Nat.le_of_ble_eq_true rfl) (by omega) rfl (ef_X12_number (d := d + 2) (h := h) g hk142) rfl ?_
                      change am_At _ _ _ 272 [_, _, _, _] [_] _ _
                      refine am_istore_n dX12_clause_272 (am_lb rfl) ?_
                      change am_At _ _ _ 273 [_, _, _, _] [] _ _
                      refine am_aload_n dX12_clause_273 rfl ?_
                      refine am_getI 12 5 dX12_clause_274 fg_X12_119 (sh_54 g) (by decide) rfl ?_
                      refine am_if_ne (48) 325 dX12_clause_277 rfl ?_ ?_
                      · intro hc143n
                        have hc143n : ¬ ((M142 54 0 5) = 0) := hc143n
                        replace hyp := it_neg hc143n hyp
                        refine am_iload_n dX12_clause_325 rfl ?_
                        refine am_iconst 3 (v := 3) dX12_clause_326 (by decide) ?_
                        refine am_icmp_ge (24) 351 dX12_clause_327 rfl ?_ ?_
                        · intro hc144
                          have hc144 : (3 : Int32) ≤ v1 := hc144
                          replace hyp := it_pos hc144 hyp
                          refine am_aload_n dX12_clause_351 rfl ?_
                          refine am_bipush 59 (v := 59) dX12_clause_352 (by decide) ?_
                          obtain ⟨M145, hk145, hyp⟩ := bd_some hyp
                          try dsimp only at hyp
                          refine am_callV [_] dX12_clause_354 ml_X12_175 vm_X12_sign (sh_54 g) rfl (fun _ => Nat.le_of_ble_eq_true rfl) (by omega) rfl (ef_X12_sign (d := d + 2) (h := h) g hk145) rfl ?_
                          change am_At _ _ _ 357 [_, _, _, _] [] _ _
                          cases hyp
                          exact am_vret dX12_clause_357 rfl
                        · intro hc144n
                          have hc144n : ¬ ((3 : Int32) ≤ v1) := hc144n
                          replace hyp := it_neg hc144n hyp
                          refine am_aload_n dX12_clause_330 rfl ?_
                          refine am_getR 12 11 57 dX12_clause_331 fg_X12_20 (sh_54 g) (by decide) rfl (rf_54_11 g) ?_
                          refine am_iload_n dX12_clause_334 rfl ?_
                          refine am_dup2 dX12_clause_335 (fun _ => rfl) (fun _ => rfl) ?_
                          obtain ⟨hg146, hyp⟩ := gd_some hyp
                          refine am_iald dX12_clause_336 (am_ia.one (sh_57 g)) (am_lit hg146) ?_
                          refine am_aload_n dX12_clause_337 rfl ?_
                          refine am_getI 12 5 dX12_clause_338 fg_X12_119 (sh_54 g) (by decide) rfl ?_
                          refine am_if_neT (7) 348 dX12_clause_341 rfl hc143n ?_
                          refine am_iconst 0 (v := 0) dX12_clause_348 (by decide) ?_
                          refine am_iadd dX12_clause_349 ?_
                          refine am_iast dX12_clause_350 (am_ia.one (sh_57 g)) (am_lit hg146) ?_
                          refine am_aload_n dX12_clause_351 rfl ?_
                          refine am_bipush 59 (v := 59) dX12_clause_352 (by decide) ?_
                          obtain ⟨M147, hk147, hyp⟩ := bd_some hyp
                          try dsimp only at hyp
                          refine am_callV [_] dX12_clause_354 ml_X12_175 vm_X12_sign (sh_54 g) rfl (fun _ => Nat.le_of_ble_eq_true rfl) (by omega) rfl (ef_X12_sign (d := d + 2) (h := h) g hk147) rfl ?_
                          change am_At _ _ _ 357 [_, _, _, _] [] _ _
                          cases hyp
                          exact am_vret dX12_clause_357 rfl
                      · intro hc143
                        have hc143 : (M142 54 0 5) = 0 := hc143
                        replace hyp := it_pos hc143 hyp
                        refine am_aload_n dX12_clause_280 rfl ?_
                        refine am_getR 12 13 59 dX12_clause_281 fg_X12_28 (sh_54 g) (by decide) rfl (rf_54_13 g) ?_
                        refine am_iload_n dX12_clause_284 rfl ?_
                        obtain ⟨hg148, hyp⟩ := gd_some hyp
                        refine am_aald dX12_clause_285 (sh_59 g) (am_lit hg148) ?_
                        refine am_iconst 3 (v := 3) dX12_clause_286 (by decide) ?_
                        refine am_iload_n dX12_clause_287 rfl ?_
                        refine am_iast dX12_clause_288 (am_ia.row (sh_59 g) (by omega) (am_vlt (am_lit hg148))) (am_lit rfl) ?_
                        refine am_goto (36) 325 dX12_clause_289 rfl ?_
                        refine am_iload_n dX12_clause_325 rfl ?_
                        refine am_iconst 3 (v := 3) dX12_clause_326 (by decide) ?_
                        refine am_icmp_ge (24) 351 dX12_clause_327 rfl ?_ ?_
                        · intro hc149
                          have hc149 : (3 : Int32) ≤ v1 := hc149
                          replace hyp := it_pos hc149 hyp
                          refine am_aload_n dX12_clause_351 rfl ?_
                          refine am_bipush 59 (v := 59) dX12_clause_352 (by decide) ?_
                          obtain ⟨M150, hk150, hyp⟩ := bd_some hyp
                          try dsimp only at hyp
                          refine am_callV [_] dX12_clause_354 ml_X12_175 vm_X12_sign (sh_54 g) rfl (fun _ => Nat.le_of_ble_eq_true rfl) (by omega) rfl (ef_X12_sign (d := d + 2) (h := h) g hk150) rfl ?_
                          change am_At _ _ _ 357 [_, _, _, _] [] _ _
                          cases hyp
                          exact am_vret dX12_clause_357 rfl
                        · intro hc149n
                          have hc149n : ¬ ((3 : Int32) ≤ v1) := hc149n
                          replace hyp := it_neg hc149n hyp
                          refine am_aload_n dX12_clause_330 rfl ?_
                          refine am_getR 12 11 57 dX12_clause_331 fg_X12_20 (sh_54 g) (by decide) rfl (rf_54_11 g) ?_
                          refine am_iload_n dX12_clause_334 rfl ?_
                          refine am_dup2 dX12_clause_335 (fun _ => rfl) (fun _ => rfl) ?_
                          obtain ⟨hg151, hyp⟩ := gd_some hyp
                          refine am_iald dX12_clause_336 (am_ia.one (sh_57 g)) (am_lit hg151) ?_
                          refine am_aload_n dX12_clause_337 rfl ?_
                          refine am_getI 12 5 dX12_clause_338 fg_X12_119 (sh_54 g) (by decide) rfl ?_
                          refine am_if_neF (7) 348 dX12_clause_341 rfl hc143 ?_
                          refine am_iconst 1 (v := 1) dX12_clause_344 (by decide) ?_
                          refine am_goto (4) 349 dX12_clause_345 rfl ?_
                          refine am_iadd dX12_clause_349 ?_
                          refine am_iast dX12_clause_350 (am_ia.one (sh_57 g)) (am_lit hg151) ?_
                          refine am_aload_n dX12_clause_351 rfl ?_
                          refine am_bipush 59 (v := 59) dX12_clause_352 (by decide) ?_
                          obtain ⟨M152, hk152, hyp⟩ := bd_some hyp
                          try dsimp only at hyp
                          refine am_callV [_] dX12_clause_354 ml_X12_175 vm_X12_sign (sh_54 g) rfl (fun _ => Nat.le_of_ble_eq_true rfl) (by omega) rfl (ef_X12_sign (d := d + 2) (h := h) g hk152) rfl ?_
                          change am_At _ _ _ 357 [_, _, _, _] [] _ _
                          cases hyp
                          exact am_vret dX12_clause_357 rfl
                    · have hc140n := hc140
                      replace hyp := it_neg hc140n hyp
                      refine am_tabOut 292 dX12_clause_71 (by have q0 := lv_neT (a := 0) hc86n (by decide); have q1 := lv_neT (a := 1) hc97n (by decide); have q2 := lv_neT (a := 2) hc107n (by decide); have q3 := lv_neT (a := 3) hc118n (by decide); have q4 := lv_neT (a := 4) hc129n (by decide); have q5 := lv_neT (a := 5) hc140n (by decide); omega) rfl ?_
                      refine am_aload_n dX12_clause_292 rfl ?_
                      refine am_iload_n dX12_clause_293 rfl ?_
                      refine am_iconst 3 (v := 3) dX12_clause_294 (by decide) ?_
                      refine am_icmp_neT (7) 302 dX12_clause_295 rfl hc118n ?_
                      refine am_iconst 0 (v := 0) dX12_clause_302 (by decide) ?_
                      refine am_iconst 4 (v := 4) dX12_clause_303 (by decide) ?_
                      obtain ⟨⟨v153, M153⟩, hk153, hyp⟩ := bd_some hyp
                      try dsimp only at hyp
                      refine am_callV [_, _] dX12_clause_304 ml_X12_171 vm_X12_number (sh_54 g) rfl (fun _ => Nat.le_of_ble_eq_true rfl) (by omega) rfl (ef_X12_number (d := d + 2) (h := h) g hk153) rfl ?_
                      change am_At _ _ _ 307 [_, _, _, _] [_] _ _
                      refine am_istore_n dX12_clause_307 (am_lb rfl) ?_
                      change am_At _ _ _ 308 [_, _, _, _] [] _ _
                      refine am_aload_n dX12_clause_308 rfl ?_
                      refine am_getI 12 5 dX12_clause_309 fg_X12_119 (sh_54 g) (by decide) rfl ?_
                      refine am_if_ne (13) 325 dX12_clause_312 rfl ?_ ?_
                      · intro hc154n
                        have hc154n : ¬ ((M153 54 0 5) = 0) := hc154n
                        replace hyp := it_neg hc154n hyp
                        refine am_iload_n dX12_clause_325 rfl ?_
                        refine am_iconst 3 (v := 3) dX12_clause_326 (by decide) ?_
                        refine am_icmp_ge (24) 351 dX12_clause_327 rfl ?_ ?_
                        · intro hc155
                          have hc155 : (3 : Int32) ≤ v1 := hc155
                          replace hyp := it_pos hc155 hyp
                          refine am_aload_n dX12_clause_351 rfl ?_
                          refine am_bipush 59 (v := 59) dX12_clause_352 (by decide) ?_
                          obtain ⟨M156, hk156, hyp⟩ := bd_some hyp
                          try dsimp only at hyp
                          refine am_callV [_] dX12_clause_354 ml_X12_175 vm_X12_sign (sh_54 g) rfl (fun _ => Nat.le_of_ble_eq_true rfl) (by omega) rfl (ef_X12_sign (d := d + 2) (h := h) g hk156) rfl ?_
                          change am_At _ _ _ 357 [_, _, _, _] [] _ _
                          cases hyp
                          exact am_vret dX12_clause_357 rfl
                        · intro hc155n
                          have hc155n : ¬ ((3 : Int32) ≤ v1) := hc155n
                          replace hyp := it_neg hc155n hyp
                          refine am_aload_n dX12_clause_330 rfl ?_
                          refine am_getR 12 11 57 dX12_clause_331 fg_X12_20 (sh_54 g) (by decide) rfl (rf_54_11 g) ?_
                          refine am_iload_n dX12_clause_334 rfl ?_
                          refine am_dup2 dX12_clause_335 (fun _ => rfl) (fun _ => rfl) ?_
                          obtain ⟨hg157, hyp⟩ := gd_some hyp
                          refine am_iald dX12_clause_336 (am_ia.one (sh_57 g)) (am_lit hg157) ?_
                          refine am_aload_n dX12_clause_337 rfl ?_
                          refine am_getI 12 5 dX12_clause_338 fg_X12_119 (sh_54 g) (by decide) rfl ?_
                          refine am_if_neT (7) 348 dX12_clause_341 rfl hc154n ?_
                          refine am_iconst 0 (v := 0) dX12_clause_348 (by decide) ?_
                          refine am_iadd dX12_clause_349 ?_
                          refine am_iast dX12_clause_350 (am_ia.one (sh_57 g)) (am_lit hg157) ?_
                          refine am_aload_n dX12_clause_351 rfl ?_
                          refine am_bipush 59 (v := 59) dX12_clause_352 (by decide) ?_
                          obtain ⟨M158, hk158, hyp⟩ := bd_some hyp
                          try dsimp only at hyp
                          refine am_callV [_] dX12_clause_354 ml_X12_175 vm_X12_sign (sh_54 g) rfl (fun _ => Nat.le_of_ble_eq_true rfl) (by omega) rfl (ef_X12_sign (d := d + 2) (h := h) g hk158) rfl ?_
                          change am_At _ _ _ 357 [_, _, _, _] [] _ _
                          cases hyp
                          exact am_vret dX12_clause_357 rfl
                      · intro hc154
                        have hc154 : (M153 54 0 5) = 0 := hc154
                        replace hyp := it_pos hc154 hyp
                        refine am_aload_n dX12_clause_315 rfl ?_
                        refine am_getR 12 11 57 dX12_clause_316 fg_X12_20 (sh_54 g) (by decide) rfl (rf_54_11 g) ?_
                        refine am_iload_n dX12_clause_319 rfl ?_
                        refine am_iload_n dX12_clause_320 rfl ?_
                        obtain ⟨hg159, hyp⟩ := gd_some hyp
                        refine am_iast dX12_clause_321 (am_ia.one (sh_57 g)) (am_lit hg159) ?_
                        refine am_goto (3) 325 dX12_clause_322 rfl ?_
                        refine am_iload_n dX12_clause_325 rfl ?_
                        refine am_iconst 3 (v := 3) dX12_clause_326 (by decide) ?_
                        refine am_icmp_ge (24) 351 dX12_clause_327 rfl ?_ ?_
                        · intro hc160
                          have hc160 : (3 : Int32) ≤ v1 := hc160
                          replace hyp := it_pos hc160 hyp
                          refine am_aload_n dX12_clause_351 rfl ?_
                          refine am_bipush 59 (v := 59) dX12_clause_352 (by decide) ?_
                          obtain ⟨M161, hk161, hyp⟩ := bd_some hyp
                          try dsimp only at hyp
                          refine am_callV [_] dX12_clause_354 ml_X12_175 vm_X12_sign (sh_54 g) rfl (fun _ => Nat.le_of_ble_eq_true rfl) (by omega) rfl (ef_X12_sign (d := d + 2) (h := h) g hk161) rfl ?_
                          change am_At _ _ _ 357 [_, _, _, _] [] _ _
                          cases hyp
                          exact am_vret dX12_clause_357 rfl
                        · intro hc160n
                          have hc160n : ¬ ((3 : Int32) ≤ v1) := hc160n
                          replace hyp := it_neg hc160n hyp
                          refine am_aload_n dX12_clause_330 rfl ?_
                          refine am_getR 12 11 57 dX12_clause_331 fg_X12_20 (sh_54 g) (by decide) rfl (rf_54_11 g) ?_
                          refine am_iload_n dX12_clause_334 rfl ?_
                          refine am_dup2 dX12_clause_335 (fun _ => rfl) (fun _ => rfl) ?_
                          refine am_iald dX12_clause_336 (am_ia.one (sh_57 g)) (am_lit hg159) ?_
                          refine am_aload_n dX12_clause_337 rfl ?_
                          refine am_getI 12 5 dX12_clause_338 fg_X12_119 (sh_54 g) (by decide) rfl ?_
                          refine am_if_neF (7) 348 dX12_clause_341 rfl hc154 ?_
                          refine am_iconst 1 (v := 1) dX12_clause_344 (by decide) ?_
                          refine am_goto (4) 349 dX12_clause_345 rfl ?_
                          refine am_iadd dX12_clause_349 ?_
                          refine am_iast dX12_clause_350 (am_ia.one (sh_57 g)) (am_lit hg159) ?_
                          refine am_aload_n dX12_clause_351 rfl ?_
                          refine am_bipush 59 (v := 59) dX12_clause_352 (by decide) ?_
                          obtain ⟨M162, hk162, hyp⟩ := bd_some hyp
                          try dsimp only at hyp
                          refine am_callV [_] dX12_clause_354 ml_X12_175 vm_X12_sign (sh_54 g) rfl (fun _ => Nat.le_of_ble_eq_true rfl) (by omega) rfl (ef_X12_sign (d := d + 2) (h := h) g hk162) rfl ?_
                          change am_At _ _ _ 357 [_, _, _, _] [] _ _
                          cases hyp
                          exact am_vret dX12_clause_357 rfl
        · intro hc84n
          have hc84n : ¬ ((M1 54 0 5) = 0) := hc84n
          replace hyp := it_neg hc84n hyp
          cases hyp
          exact am_vret dX12_clause_55 rfl
      · intro hc83n
        have hc83n : ¬ ((f_X12_isFull v1 M1) = 0) := hc83n
        replace hyp := it_neg hc83n hyp
        refine am_aload_n dX12_clause_39 rfl ?_
        refine am_iconst 3 (v := 3) dX12_clause_40 (by decide) ?_
        refine am_aload_n dX12_clause_41 rfl ?_
        refine am_getI 12 4 dX12_clause_42 fg_X12_112 (sh_54 g) (by decide) rfl ?_
        refine am_callV [_, _] dX12_clause_45 ml_X12_132 vm_X12_wrong (sh_54 g) rfl (fun _ => Nat.le_of_ble_eq_true rfl) (by omega) rfl (ef_X12_wrong (d := d + 4) (h := h) g (x1 := (3 : Int32)) (x2 := (M1 54 0 4)) (M := M1) rfl) rfl ?_
        change am_At _ _ _ 48 [_, _, _, _] [] _ _
        refine am_aload_n dX12_clause_48 rfl ?_
        refine am_getI 12 5 dX12_clause_49 fg_X12_119 (sh_54 g) (by decide) rfl ?_
        refine am_if_eq (4) 56 dX12_clause_52 rfl ?_ ?_
        · intro hc163
          have hc163 : ((f_X12_wrong (3 : Int32) (M1 54 0 4) M1) 54 0 5) = 0 := hc163
          replace hyp := it_pos hc163 hyp
          refine am_aload_n dX12_clause_56 rfl ?_
          obtain ⟨M164, hk164, hyp⟩ := bd_some hyp
          try dsimp only at hyp
          refine am_callV [] dX12_clause_57 ml_X12_156 vm_X12_skipWord (sh_54 g) rfl (fun _ => Nat.le_of_ble_eq_true rfl) (by omega) rfl (ef_X12_skipWord (d := d + 3) (h := h) g hk164) rfl ?_
          change am_At _ _ _ 60 [_, _, _, _] [] _ _
          refine am_aload_n dX12_clause_60 rfl ?_
          refine am_dup dX12_clause_61 (fun _ => rfl) ?_
          refine am_getI 12 7 dX12_clause_62 fg_X12_159 (sh_54 g) (by decide) rfl ?_
          refine am_iconst 1 (v := 1) dX12_clause_65 (by decide) ?_
          refine am_iadd dX12_clause_66 ?_
          refine am_putI 12 7 dX12_clause_67 (Or.inl fp_X12_159) (sh_54 g) (by decide) rfl rfl rfl ?_
          refine am_iload_n dX12_clause_70 rfl ?_
          by_cases hc165 : v1 = (0 : Int32)
          · refine am_tabIn (37) 108 dX12_clause_71 (by rw [hc165]; decide) (by rw [hc165]; decide) (by rw [hc165]; rfl) rfl ?_
            replace hyp := it_pos hc165 hyp
            refine am_aload_n dX12_clause_108 rfl ?_
            refine am_getR 12 13 59 dX12_clause_109 fg_X12_28 (sh_54 g) (by decide) rfl (rf_54_13 g) ?_
            refine am_aload_n dX12_clause_112 rfl ?_
            refine am_getR 12 11 57 dX12_clause_113 fg_X12_20 (sh_54 g) (by decide) rfl (rf_54_11 g) ?_
            refine am_iconst 0 (v := 0) dX12_clause_116 (by decide) ?_
            refine am_iald dX12_clause_117 (am_ia.one (sh_57 g)) (am_lit rfl) ?_
            obtain ⟨hg166, hyp⟩ := gd_some hyp
            refine am_aald dX12_clause_118 (sh_59 g) (am_lit hg166) ?_
            refine am_astore_n dX12_clause_119 (am_lb rfl) ?_
            change am_At _ _ _ 120 [_, _, _, _] [] _ _
            refine am_aload_n dX12_clause_120 rfl ?_
            refine am_iconst 0 (v := 0) dX12_clause_121 (by decide) ?_
            refine am_aload_n dX12_clause_122 rfl ?_
            refine am_iconst 0 (v := 0) dX12_clause_123 (by decide) ?_
            refine am_bipush 9 (v := 9) dX12_clause_124 (by decide) ?_
            obtain ⟨⟨v167, M167⟩, hk167, hyp⟩ := bd_some hyp
            try dsimp only at hyp
            refine am_callV [_, _] dX12_clause_126 ml_X12_171 vm_X12_number (sh_54 g) rfl (fun _ => Nat.le_of_ble_eq_true rfl) (by omega) rfl (ef_X12_number (d := d + 2) (h := h) g hk167) rfl ?_
            change am_At _ _ _ 129 [_, _, _, _] [_, _, _] _ _
            refine am_iast dX12_clause_129 (am_ia.row (sh_59 g) (by omega) (am_vlt (am_lit hg166))) (am_lit rfl) ?_
            refine am_aload_n dX12_clause_130 rfl ?_
            refine am_iconst 1 (v := 1) dX12_clause_131 (by decide) ?_
            refine am_aload_n dX12_clause_132 rfl ?_
            refine am_iconst 0 (v := 0) dX12_clause_133 (by decide) ?_
            refine am_bipush 20 (v := 20) dX12_clause_134 (by decide) ?_
            obtain ⟨⟨v168, M168⟩, hk168, hyp⟩ := bd_some hyp
            try dsimp only at hyp
            refine am_callV [_, _] dX12_clause_136 ml_X12_171 vm_X12_number (sh_54 g) rfl (fun _ => Nat.le_of_ble_eq_true rfl) (by omega) rfl (ef_X12_number (d := d + 2) (h := h) g hk168) rfl ?_
            change am_At _ _ _ 139 [_, _, _, _] [_, _, _] _ _
            refine am_iast dX12_clause_139 (am_ia.row (sh_59 g) (by omega) (am_vlt (am_lit hg166))) (am_lit rfl) ?_
            refine am_aload_n dX12_clause_140 rfl ?_
            refine am_iconst 2 (v := 2) dX12_clause_141 (by decide) ?_
            refine am_aload_n dX12_clause_142 rfl ?_
            refine am_iconst 0 (v := 0) dX12_clause_143 (by decide) ?_
            refine am_bipush 9 (v := 9) dX12_clause_144 (by decide) ?_
            obtain ⟨⟨v169, M169⟩, hk169, hyp⟩ := bd_some hyp
            try dsimp only at hyp
            refine am_callV [_, _] dX12_clause_146 ml_X12_171 vm_X12_number (sh_54 g) rfl (fun _ => Nat.le_of_ble_eq_true rfl) (by omega) rfl (ef_X12_number (d := d + 2) (h := h) g hk169) rfl ?_
            change am_At _ _ _ 149 [_, _, _, _] [_, _, _] _ _
            refine am_iast dX12_clause_149 (am_ia.row (sh_59 g) (by omega) (am_vlt (am_lit hg166))) (am_lit rfl) ?_
            refine am_aload_n dX12_clause_150 rfl ?_
            refine am_iconst 3 (v := 3) dX12_clause_151 (by decide) ?_
            refine am_iconst 0 (v := 0) dX12_clause_152 (by decide) ?_
            refine am_iast dX12_clause_153 (am_ia.row (sh_59 g) (by omega) (am_vlt (am_lit hg166))) (am_lit rfl) ?_
            refine am_goto (171) 325 dX12_clause_154 rfl ?_
            refine am_iload_n dX12_clause_325 rfl ?_
            refine am_iconst 3 (v := 3) dX12_clause_326 (by decide) ?_
            refine am_icmp_ge (24) 351 dX12_clause_327 rfl ?_ ?_
            · intro hc170
              have hc170 : (3 : Int32) ≤ v1 := hc170
              replace hyp := it_pos hc170 hyp
              refine am_aload_n dX12_clause_351 rfl ?_
              refine am_bipush 59 (v := 59) dX12_clause_352 (by decide) ?_
              obtain ⟨M171, hk171, hyp⟩ := bd_some hyp
              try dsimp only at hyp
              refine am_callV [_] dX12_clause_354 ml_X12_175 vm_X12_sign (sh_54 g) rfl (fun _ => Nat.le_of_ble_eq_true rfl) (by omega) rfl (ef_X12_sign (d := d + 2) (h := h) g hk171) rfl ?_
              change am_At _ _ _ 357 [_, _, _, _] [] _ _
              cases hyp
              exact am_vret dX12_clause_357 rfl
            · intro hc170n
              have hc170n : ¬ ((3 : Int32) ≤ v1) := hc170n
              replace hyp := it_neg hc170n hyp
              refine am_aload_n dX12_clause_330 rfl ?_
              refine am_getR 12 11 57 dX12_clause_331 fg_X12_20 (sh_54 g) (by decide) rfl (rf_54_11 g) ?_
              refine am_iload_n dX12_clause_334 rfl ?_
              refine am_dup2 dX12_clause_335 (fun _ => rfl) (fun _ => rfl) ?_
              obtain ⟨hg172, hyp⟩ := gd_some hyp
              refine am_iald dX12_clause_336 (am_ia.one (sh_57 g)) (am_lit hg172) ?_
              refine am_aload_n dX12_clause_337 rfl ?_
              refine am_getI 12 5 dX12_clause_338 fg_X12_119 (sh_54 g) (by decide) rfl ?_
              refine am_if_ne (7) 348 dX12_clause_341 rfl ?_ ?_
              · intro hc173n
                have hc173n : ¬ ((M169 54 0 5) = 0) := hc173n
                replace hyp := it_neg hc173n hyp
                refine am_iconst 0 (v := 0) dX12_clause_348 (by decide) ?_
                refine am_iadd dX12_clause_349 ?_
                refine am_iast dX12_clause_350 (am_ia.one (sh_57 g)) (am_lit hg172) ?_
                refine am_aload_n dX12_clause_351 rfl ?_
                refine am_bipush 59 (v := 59) dX12_clause_352 (by decide) ?_
                obtain ⟨M174, hk174, hyp⟩ := bd_some hyp
                try dsimp only at hyp
                refine am_callV [_] dX12_clause_354 ml_X12_175 vm_X12_sign (sh_54 g) rfl (fun _ => Nat.le_of_ble_eq_true rfl) (by omega) rfl (ef_X12_sign (d := d + 2) (h := h) g hk174) rfl ?_
                change am_At _ _ _ 357 [_, _, _, _] [] _ _
                cases hyp
                exact am_vret dX12_clause_357 rfl
              · intro hc173
                have hc173 : (M169 54 0 5) = 0 := hc173
                replace hyp := it_pos hc173 hyp
                refine am_iconst 1 (v := 1) dX12_clause_344 (by decide) ?_
                refine am_goto (4) 349 dX12_clause_345 rfl ?_
                refine am_iadd dX12_clause_349 ?_
                refine am_iast dX12_clause_350 (am_ia.one (sh_57 g)) (am_lit hg172) ?_
                refine am_aload_n dX12_clause_351 rfl ?_
                refine am_bipush 59 (v := 59) dX12_clause_352 (by decide) ?_
                obtain ⟨M175, hk175, hyp⟩ := bd_some hyp
                try dsimp only at hyp
                refine am_callV [_] dX12_clause_354 ml_X12_175 vm_X12_sign (sh_54 g) rfl (fun _ => Nat.le_of_ble_eq_true rfl) (by omega) rfl (ef_X12_sign (d := d + 2) (h := h) g hk175) rfl ?_
                change am_At _ _ _ 357 [_, _, _, _] [] _ _
                cases hyp
                exact am_vret dX12_clause_357 rfl
          · have hc165n := hc165
            replace hyp := it_neg hc165n hyp
            by_cases hc176 : v1 = (1 : Int32)
            · refine am_tabIn (86) 157 dX12_clause_71 (by rw [hc176]; decide) (by rw [hc176]; decide) (by rw [hc176]; rfl) rfl ?_
              replace hyp := it_pos hc176 hyp
              refine am_aload_n dX12_clause_157 rfl ?_
              refine am_getR 12 15 61 dX12_clause_158 fg_X12_34 (sh_54 g) (by decide) rfl (rf_54_15 g) ?_
              refine am_aload_n dX12_clause_161 rfl ?_
              refine am_getR 12 11 57 dX12_clause_162 fg_X12_20 (sh_54 g) (by decide) rfl (rf_54_11 g) ?_
              refine am_iconst 1 (v := 1) dX12_clause_165 (by decide) ?_
              refine am_iald dX12_clause_166 (am_ia.one (sh_57 g)) (am_lit rfl) ?_
              obtain ⟨hg177, hyp⟩ := gd_some hyp
              refine am_aald dX12_clause_167 (sh_61 g) (am_lit hg177) ?_
              refine am_astore_n dX12_clause_168 (am_lb rfl) ?_
              change am_At _ _ _ 169 [_, _, _, _] [] _ _
              refine am_aload_n dX12_clause_169 rfl ?_
              refine am_iconst 0 (v := 0) dX12_clause_170 (by decide) ?_
              refine am_aload_n dX12_clause_171 rfl ?_
              refine am_iconst 0 (v := 0) dX12_clause_172 (by decide) ?_
              refine am_bipush 9 (v := 9) dX12_clause_173 (by decide) ?_
              obtain ⟨⟨v178, M178⟩, hk178, hyp⟩ := bd_some hyp
              try dsimp only at hyp
              refine am_callV [_, _] dX12_clause_175 ml_X12_171 vm_X12_number (sh_54 g) rfl (fun _ => Nat.le_of_ble_eq_true rfl) (by omega) rfl (ef_X12_number (d := d + 2) (h := h) g hk178) rfl ?_
              change am_At _ _ _ 178 [_, _, _, _] [_, _, _] _ _
              refine am_iast dX12_clause_178 (am_ia.row (sh_61 g) (by omega) (am_vlt (am_lit hg177))) (am_lit rfl) ?_
              refine am_aload_n dX12_clause_179 rfl ?_
              refine am_iconst 1 (v := 1) dX12_clause_180 (by decide) ?_
              refine am_aload_n dX12_clause_181 rfl ?_
              refine am_iconst 0 (v := 0) dX12_clause_182 (by decide) ?_
              refine am_bipush 95 (v := 95) dX12_clause_183 (by decide) ?_
              obtain ⟨⟨v179, M179⟩, hk179, hyp⟩ := bd_some hyp
              try dsimp only at hyp
              refine am_callV [_, _] dX12_clause_185 ml_X12_171 vm_X12_number (sh_54 g) rfl (fun _ => Nat.le_of_ble_eq_true rfl) (by omega) rfl (ef_X12_number (d := d + 2) (h := h) g hk179) rfl ?_
              change am_At _ _ _ 188 [_, _, _, _] [_, _, _] _ _
              refine am_iast dX12_clause_188 (am_ia.row (sh_61 g) (by omega) (am_vlt (am_lit hg177))) (am_lit rfl) ?_
              refine am_goto (136) 325 dX12_clause_189 rfl ?_
              refine am_iload_n dX12_clause_325 rfl ?_
              refine am_iconst 3 (v := 3) dX12_clause_326 (by decide) ?_
              refine am_icmp_ge (24) 351 dX12_clause_327 rfl ?_ ?_
              · intro hc180
                have hc180 : (3 : Int32) ≤ v1 := hc180
                replace hyp := it_pos hc180 hyp
                refine am_aload_n dX12_clause_351 rfl ?_
                refine am_bipush 59 (v := 59) dX12_clause_352 (by decide) ?_
                obtain ⟨M181, hk181, hyp⟩ := bd_some hyp
                try dsimp only at hyp
                refine am_callV [_] dX12_clause_354 ml_X12_175 vm_X12_sign (sh_54 g) rfl (fun _ => Nat.le_of_ble_eq_true rfl) (by omega) rfl (ef_X12_sign (d := d + 2) (h := h) g hk181) rfl ?_
                change am_At _ _ _ 357 [_, _, _, _] [] _ _
                cases hyp
                exact am_vret dX12_clause_357 rfl
              · intro hc180n
                have hc180n : ¬ ((3 : Int32) ≤ v1) := hc180n
                replace hyp := it_neg hc180n hyp
                refine am_aload_n dX12_clause_330 rfl ?_
                refine am_getR 12 11 57 dX12_clause_331 fg_X12_20 (sh_54 g) (by decide) rfl (rf_54_11 g) ?_
                refine am_iload_n dX12_clause_334 rfl ?_
                refine am_dup2 dX12_clause_335 (fun _ => rfl) (fun _ => rfl) ?_
                obtain ⟨hg182, hyp⟩ := gd_some hyp
                refine am_iald dX12_clause_336 (am_ia.one (sh_57 g)) (am_lit hg182) ?_
                refine am_aload_n dX12_clause_337 rfl ?_
                refine am_getI 12 5 dX12_clause_338 fg_X12_119 (sh_54 g) (by decide) rfl ?_
                refine am_if_ne (7) 348 dX12_clause_341 rfl ?_ ?_
                · intro hc183n
                  have hc183n : ¬ ((M179 54 0 5) = 0) := hc183n
                  replace hyp := it_neg hc183n hyp
                  refine am_iconst 0 (v := 0) dX12_clause_348 (by decide) ?_
                  refine am_iadd dX12_clause_349 ?_
                  refine am_iast dX12_clause_350 (am_ia.one (sh_57 g)) (am_lit hg182) ?_
                  refine am_aload_n dX12_clause_351 rfl ?_
                  refine am_bipush 59 (v := 59) dX12_clause_352 (by decide) ?_
                  obtain ⟨M184, hk184, hyp⟩ := bd_some hyp
                  try dsimp only at hyp
                  refine am_callV [_] dX12_clause_354 ml_X12_175 vm_X12_sign (sh_54 g) rfl (fun _ => Nat.le_of_ble_eq_true rfl) (by omega) rfl (ef_X12_sign (d := d + 2) (h := h) g hk184) rfl ?_
                  change am_At _ _ _ 357 [_, _, _, _] [] _ _
                  cases hyp
                  exact am_vret dX12_clause_357 rfl
                · intro hc183
                  have hc183 : (M179 54 0 5) = 0 := hc183
                  replace hyp := it_pos hc183 hyp
                  refine am_iconst 1 (v := 1) dX12_clause_344 (by decide) ?_
                  refine am_goto (4) 349 dX12_clause_345 rfl ?_
                  refine am_iadd dX12_clause_349 ?_
                  refine am_iast dX12_clause_350 (am_ia.one (sh_57 g)) (am_lit hg182) ?_
                  refine am_aload_n dX12_clause_351 rfl ?_
                  refine am_bipush 59 (v := 59) dX12_clause_352 (by decide) ?_
                  obtain ⟨M185, hk185, hyp⟩ := bd_some hyp
                  try dsimp only at hyp
                  refine am_callV [_] dX12_clause_354 ml_X12_175 vm_X12_sign (sh_54 g) rfl (fun _ => Nat.le_of_ble_eq_true rfl) (by omega) rfl (ef_X12_sign (d := d + 2) (h := h) g hk185) rfl ?_
                  change am_At _ _ _ 357 [_, _, _, _] [] _ _
                  cases hyp
                  exact am_vret dX12_clause_357 rfl
            · have hc176n := hc176
              replace hyp := it_neg hc176n hyp
              by_cases hc186 : v1 = (2 : Int32)
              · refine am_tabIn (121) 192 dX12_clause_71 (by rw [hc186]; decide) (by rw [hc186]; decide) (by rw [hc186]; rfl) rfl ?_
                replace hyp := it_pos hc186 hyp
                refine am_aload_n dX12_clause_192 rfl ?_
                refine am_getR 12 17 63 dX12_clause_193 fg_X12_40 (sh_54 g) (by decide) rfl (rf_54_17 g) ?_
                refine am_aload_n dX12_clause_196 rfl ?_
                refine am_getR 12 11 57 dX12_clause_197 fg_X12_20 (sh_54 g) (by decide) rfl (rf_54_11 g) ?_
                refine am_iconst 2 (v := 2) dX12_clause_200 (by decide) ?_
                refine am_iald dX12_clause_201 (am_ia.one (sh_57 g)) (am_lit rfl) ?_
                obtain ⟨hg187, hyp⟩ := gd_some hyp
                refine am_aald dX12_clause_202 (sh_63 g) (am_lit hg187) ?_
                refine am_astore_n dX12_clause_203 (am_lb rfl) ?_
                change am_At _ _ _ 204 [_, _, _, _] [] _ _
                refine am_aload_n dX12_clause_204 rfl ?_
                refine am_iconst 0 (v := 0) dX12_clause_205 (by decide) ?_
                refine am_aload_n dX12_clause_206 rfl ?_
                refine am_iconst 0 (v := 0) dX12_clause_207 (by decide) ?_
                refine am_aload_n dX12_clause_208 rfl ?_
                refine am_getR 12 11 57 dX12_clause_209 fg_X12_20 (sh_54 g) (by decide) rfl (rf_54_11 g) ?_
                refine am_iconst 0 (v := 0) dX12_clause_212 (by decide) ?_
                refine am_iald dX12_clause_213 (am_ia.one (sh_57 g)) (am_lit rfl) ?_
                refine am_iconst 1 (v := 1) dX12_clause_214 (by decide) ?_
                refine am_isub dX12_clause_215 ?_
                obtain ⟨⟨v188, M188⟩, hk188, hyp⟩ := bd_some hyp
                try dsimp only at hyp
                refine am_callV [_, _] dX12_clause_216 ml_X12_171 vm_X12_number (sh_54 g) rfl (fun _ => Nat.le_of_ble_eq_true rfl) (by omega) rfl (ef_X12_number (d := d + 2) (h := h) g hk188) rfl ?_
                change am_At _ _ _ 219 [_, _, _, _] [_, _, _] _ _
                refine am_iast dX12_clause_219 (am_ia.row (sh_63 g) (by omega) (am_vlt (am_lit hg187))) (am_lit rfl) ?_
                refine am_aload_n dX12_clause_220 rfl ?_
                refine am_iconst 1 (v := 1) dX12_clause_221 (by decide) ?_
                refine am_aload_n dX12_clause_222 rfl ?_
                refine am_aload_n dX12_clause_223 rfl ?_
                refine am_iconst 0 (v := 0) dX12_clause_224 (by decide) ?_
                refine am_iald dX12_clause_225 (am_ia.row (sh_63 g) (by omega) (am_vlt (am_lit hg187))) (am_lit rfl) ?_
                refine am_aload_n dX12_clause_226 rfl ?_
                refine am_getR 12 11 57 dX12_clause_227 fg_X12_20 (sh_54 g) (by decide) rfl (rf_54_11 g) ?_
                refine am_iconst 0 (v := 0) dX12_clause_230 (by decide) ?_
                refine am_iald dX12_clause_231 (am_ia.one (sh_57 g)) (am_lit rfl) ?_
                refine am_iconst 1 (v := 1) dX12_clause_232 (by decide) ?_
                refine am_isub dX12_clause_233 ?_
                obtain ⟨⟨v189, M189⟩, hk189, hyp⟩ := bd_some hyp
                try dsimp only at hyp
                refine am_callV [_, _] dX12_clause_234 ml_X12_171 vm_X12_number (sh_54 g) rfl (fun _ => Nat.le_of_ble_eq_true rfl) (by omega) rfl (ef_X12_number (d := d + 2) (h := h) g hk189) rfl ?_
                change am_At _ _ _ 237 [_, _, _, _] [_, _, _] _ _
                refine am_iast dX12_clause_237 (am_ia.row (sh_63 g) (by omega) (am_vlt (am_lit hg187))) (am_lit rfl) ?_
                refine am_aload_n dX12_clause_238 rfl ?_
                refine am_iconst 2 (v := 2) dX12_clause_239 (by decide) ?_
                refine am_aload_n dX12_clause_240 rfl ?_
                refine am_iconst 1 (v := 1) dX12_clause_241 (by decide) ?_
                refine am_bipush 40 (v := 40) dX12_clause_242 (by decide) ?_
                obtain ⟨⟨v190, M190⟩, hk190, hyp⟩ := bd_some hyp
                try dsimp only at hyp
                refine am_callV [_, _] dX12_clause_244 ml_X12_171 vm_X12_number (sh_54 g) rfl (fun _ => Nat.le_of_ble_eq_true rfl) (by omega) rfl (ef_X12_number (d := d + 2) (h := h) g hk190) rfl ?_
                change am_At _ _ _ 247 [_, _, _, _] [_, _, _] _ _
                refine am_iast dX12_clause_247 (am_ia.row (sh_63 g) (by omega) (am_vlt (am_lit hg187))) (am_lit rfl) ?_
                refine am_goto (77) 325 dX12_clause_248 rfl ?_
                refine am_iload_n dX12_clause_325 rfl ?_
                refine am_iconst 3 (v := 3) dX12_clause_326 (by decide) ?_
                refine am_icmp_ge (24) 351 dX12_clause_327 rfl ?_ ?_
                · intro hc191
                  have hc191 : (3 : Int32) ≤ v1 := hc191
                  replace hyp := it_pos hc191 hyp
                  refine am_aload_n dX12_clause_351 rfl ?_
                  refine am_bipush 59 (v := 59) dX12_clause_352 (by decide) ?_
                  obtain ⟨M192, hk192, hyp⟩ := bd_some hyp
                  try dsimp only at hyp
                  refine am_callV [_] dX12_clause_354 ml_X12_175 vm_X12_sign (sh_54 g) rfl (fun _ => Nat.le_of_ble_eq_true rfl) (by omega) rfl (ef_X12_sign (d := d + 2) (h := h) g hk192) rfl ?_
                  change am_At _ _ _ 357 [_, _, _, _] [] _ _
                  cases hyp
                  exact am_vret dX12_clause_357 rfl
                · intro hc191n
                  have hc191n : ¬ ((3 : Int32) ≤ v1) := hc191n
                  replace hyp := it_neg hc191n hyp
                  refine am_aload_n dX12_clause_330 rfl ?_
                  refine am_getR 12 11 57 dX12_clause_331 fg_X12_20 (sh_54 g) (by decide) rfl (rf_54_11 g) ?_
                  refine am_iload_n dX12_clause_334 rfl ?_
                  refine am_dup2 dX12_clause_335 (fun _ => rfl) (fun _ => rfl) ?_
                  obtain ⟨hg193, hyp⟩ := gd_some hyp
                  refine am_iald dX12_clause_336 (am_ia.one (sh_57 g)) (am_lit hg193) ?_
                  refine am_aload_n dX12_clause_337 rfl ?_
                  refine am_getI 12 5 dX12_clause_338 fg_X12_119 (sh_54 g) (by decide) rfl ?_
                  refine am_if_ne (7) 348 dX12_clause_341 rfl ?_ ?_
                  · intro hc194n
                    have hc194n : ¬ ((M190 54 0 5) = 0) := hc194n
                    replace hyp := it_neg hc194n hyp
                    refine am_iconst 0 (v := 0) dX12_clause_348 (by decide) ?_
                    refine am_iadd dX12_clause_349 ?_
                    refine am_iast dX12_clause_350 (am_ia.one (sh_57 g)) (am_lit hg193) ?_
                    refine am_aload_n dX12_clause_351 rfl ?_
                    refine am_bipush 59 (v := 59) dX12_clause_352 (by decide) ?_
                    obtain ⟨M195, hk195, hyp⟩ := bd_some hyp
                    try dsimp only at hyp
                    refine am_callV [_] dX12_clause_354 ml_X12_175 vm_X12_sign (sh_54 g) rfl (fun _ => Nat.le_of_ble_eq_true rfl) (by omega) rfl (ef_X12_sign (d := d + 2) (h := h) g hk195) rfl ?_
                    change am_At _ _ _ 357 [_, _, _, _] [] _ _
                    cases hyp
                    exact am_vret dX12_clause_357 rfl
                  · intro hc194
                    have hc194 : (M190 54 0 5) = 0 := hc194
                    replace hyp := it_pos hc194 hyp
                    refine am_iconst 1 (v := 1) dX12_clause_344 (by decide) ?_
                    refine am_goto (4) 349 dX12_clause_345 rfl ?_
                    refine am_iadd dX12_clause_349 ?_
                    refine am_iast dX12_clause_350 (am_ia.one (sh_57 g)) (am_lit hg193) ?_
                    refine am_aload_n dX12_clause_351 rfl ?_
                    refine am_bipush 59 (v := 59) dX12_clause_352 (by decide) ?_
                    obtain ⟨M196, hk196, hyp⟩ := bd_some hyp
                    try dsimp only at hyp
                    refine am_callV [_] dX12_clause_354 ml_X12_175 vm_X12_sign (sh_54 g) rfl (fun _ => Nat.le_of_ble_eq_true rfl) (by omega) rfl (ef_X12_sign (d := d + 2) (h := h) g hk196) rfl ?_
                    change am_At _ _ _ 357 [_, _, _, _] [] _ _
                    cases hyp
                    exact am_vret dX12_clause_357 rfl
              · have hc186n := hc186
                replace hyp := it_neg hc186n hyp
                by_cases hc197 : v1 = (3 : Int32)
                · refine am_tabIn (221) 292 dX12_clause_71 (by rw [hc197]; decide) (by rw [hc197]; decide) (by rw [hc197]; rfl) rfl ?_
                  replace hyp := it_pos hc197 hyp
                  refine am_aload_n dX12_clause_292 rfl ?_
                  refine am_iload_n dX12_clause_293 rfl ?_
                  refine am_iconst 3 (v := 3) dX12_clause_294 (by decide) ?_
                  refine am_icmp_neF (7) 302 dX12_clause_295 rfl hc197 ?_
                  refine am_iconst 1 (v := 1) dX12_clause_298 (by decide) ?_
                  refine am_goto (4) 303 dX12_clause_299 rfl ?_
                  refine am_iconst 4 (v := 4) dX12_clause_303 (by decide) ?_
                  obtain ⟨⟨v198, M198⟩, hk198, hyp⟩ := bd_some hyp
                  try dsimp only at hyp
                  refine am_callV [_, _] dX12_clause_304 ml_X12_171 vm_X12_number (sh_54 g) rfl (fun _ => Nat.le_of_ble_eq_true rfl) (by omega) rfl (ef_X12_number (d := d + 2) (h := h) g hk198) rfl ?_
                  change am_At _ _ _ 307 [_, _, _, _] [_] _ _
                  refine am_istore_n dX12_clause_307 (am_lb rfl) ?_
                  change am_At _ _ _ 308 [_, _, _, _] [] _ _
                  refine am_aload_n dX12_clause_308 rfl ?_
                  refine am_getI 12 5 dX12_clause_309 fg_X12_119 (sh_54 g) (by decide) rfl ?_
                  refine am_if_ne (13) 325 dX12_clause_312 rfl ?_ ?_
                  · intro hc199n
                    have hc199n : ¬ ((M198 54 0 5) = 0) := hc199n
                    replace hyp := it_neg hc199n hyp
                    refine am_iload_n dX12_clause_325 rfl ?_
                    refine am_iconst 3 (v := 3) dX12_clause_326 (by decide) ?_
                    refine am_icmp_ge (24) 351 dX12_clause_327 rfl ?_ ?_
                    · intro hc200
                      have hc200 : (3 : Int32) ≤ v1 := hc200
                      replace hyp := it_pos hc200 hyp
                      refine am_aload_n dX12_clause_351 rfl ?_
                      refine am_bipush 59 (v := 59) dX12_clause_352 (by decide) ?_
                      obtain ⟨M201, hk201, hyp⟩ := bd_some hyp
                      try dsimp only at hyp
                      refine am_callV [_] dX12_clause_354 ml_X12_175 vm_X12_sign (sh_54 g) rfl (fun _ => Nat.le_of_ble_eq_true rfl) (by omega) rfl (ef_X12_sign (d := d + 2) (h := h) g hk201) rfl ?_
                      change am_At _ _ _ 357 [_, _, _, _] [] _ _
                      cases hyp
                      exact am_vret dX12_clause_357 rfl
                    · intro hc200n
                      have hc200n : ¬ ((3 : Int32) ≤ v1) := hc200n
                      replace hyp := it_neg hc200n hyp
                      refine am_aload_n dX12_clause_330 rfl ?_
                      refine am_getR 12 11 57 dX12_clause_331 fg_X12_20 (sh_54 g) (by decide) rfl (rf_54_11 g) ?_
                      refine am_iload_n dX12_clause_334 rfl ?_
                      refine am_dup2 dX12_clause_335 (fun _ => rfl) (fun _ => rfl) ?_
                      obtain ⟨hg202, hyp⟩ := gd_some hyp
                      refine am_iald dX12_clause_336 (am_ia.one (sh_57 g)) (am_lit hg202) ?_
                      refine am_aload_n dX12_clause_337 rfl ?_
                      refine am_getI 12 5 dX12_clause_338 fg_X12_119 (sh_54 g) (by decide) rfl ?_
                      refine am_if_neT (7) 348 dX12_clause_341 rfl hc199n ?_
                      refine am_iconst 0 (v := 0) dX12_clause_348 (by decide) ?_
                      refine am_iadd dX12_clause_349 ?_
                      refine am_iast dX12_clause_350 (am_ia.one (sh_57 g)) (am_lit hg202) ?_
                      refine am_aload_n dX12_clause_351 rfl ?_
                      refine am_bipush 59 (v := 59) dX12_clause_352 (by decide) ?_
                      obtain ⟨M203, hk203, hyp⟩ := bd_some hyp
                      try dsimp only at hyp
                      refine am_callV [_] dX12_clause_354 ml_X12_175 vm_X12_sign (sh_54 g) rfl (fun _ => Nat.le_of_ble_eq_true rfl) (by omega) rfl (ef_X12_sign (d := d + 2) (h := h) g hk203) rfl ?_
                      change am_At _ _ _ 357 [_, _, _, _] [] _ _
                      cases hyp
                      exact am_vret dX12_clause_357 rfl
                  · intro hc199
                    have hc199 : (M198 54 0 5) = 0 := hc199
                    replace hyp := it_pos hc199 hyp
                    refine am_aload_n dX12_clause_315 rfl ?_
                    refine am_getR 12 11 57 dX12_clause_316 fg_X12_20 (sh_54 g) (by decide) rfl (rf_54_11 g) ?_
                    refine am_iload_n dX12_clause_319 rfl ?_
                    refine am_iload_n dX12_clause_320 rfl ?_
                    obtain ⟨hg204, hyp⟩ := gd_some hyp
                    refine am_iast dX12_clause_321 (am_ia.one (sh_57 g)) (am_lit hg204) ?_
                    refine am_goto (3) 325 dX12_clause_322 rfl ?_
                    refine am_iload_n dX12_clause_325 rfl ?_
                    refine am_iconst 3 (v := 3) dX12_clause_326 (by decide) ?_
                    refine am_icmp_ge (24) 351 dX12_clause_327 rfl ?_ ?_
                    · intro hc205
                      have hc205 : (3 : Int32) ≤ v1 := hc205
                      replace hyp := it_pos hc205 hyp
                      refine am_aload_n dX12_clause_351 rfl ?_
                      refine am_bipush 59 (v := 59) dX12_clause_352 (by decide) ?_
                      obtain ⟨M206, hk206, hyp⟩ := bd_some hyp
                      try dsimp only at hyp
                      refine am_callV [_] dX12_clause_354 ml_X12_175 vm_X12_sign (sh_54 g) rfl (fun _ => Nat.le_of_ble_eq_true rfl) (by omega) rfl (ef_X12_sign (d := d + 2) (h := h) g hk206) rfl ?_
                      change am_At _ _ _ 357 [_, _, _, _] [] _ _
                      cases hyp
                      exact am_vret dX12_clause_357 rfl
                    · intro hc205n
                      have hc205n : ¬ ((3 : Int32) ≤ v1) := hc205n
                      replace hyp := it_neg hc205n hyp
                      refine am_aload_n dX12_clause_330 rfl ?_
                      refine am_getR 12 11 57 dX12_clause_331 fg_X12_20 (sh_54 g) (by decide) rfl (rf_54_11 g) ?_
                      refine am_iload_n dX12_clause_334 rfl ?_
                      refine am_dup2 dX12_clause_335 (fun _ => rfl) (fun _ => rfl) ?_
                      refine am_iald dX12_clause_336 (am_ia.one (sh_57 g)) (am_lit hg204) ?_
                      refine am_aload_n dX12_clause_337 rfl ?_
                      refine am_getI 12 5 dX12_clause_338 fg_X12_119 (sh_54 g) (by decide) rfl ?_
                      refine am_if_neF (7) 348 dX12_clause_341 rfl hc199 ?_
                      refine am_iconst 1 (v := 1) dX12_clause_344 (by decide) ?_
                      refine am_goto (4) 349 dX12_clause_345 rfl ?_
                      refine am_iadd dX12_clause_349 ?_
                      refine am_iast dX12_clause_350 (am_ia.one (sh_57 g)) (am_lit hg204) ?_
                      refine am_aload_n dX12_clause_351 rfl ?_
                      refine am_bipush 59 (v := 59) dX12_clause_352 (by decide) ?_
                      obtain ⟨M207, hk207, hyp⟩ := bd_some hyp
                      try dsimp only at hyp
                      refine am_callV [_] dX12_clause_354 ml_X12_175 vm_X12_sign (sh_54 g) rfl (fun _ => Nat.le_of_ble_eq_true rfl) (by omega) rfl (ef_X12_sign (d := d + 2) (h := h) g hk207) rfl ?_
                      change am_At _ _ _ 357 [_, _, _, _] [] _ _
                      cases hyp
                      exact am_vret dX12_clause_357 rfl
                · have hc197n := hc197
                  replace hyp := it_neg hc197n hyp
                  by_cases hc208 : v1 = (4 : Int32)
                  · refine am_tabIn (221) 292 dX12_clause_71 (by rw [hc208]; decide) (by rw [hc208]; decide) (by rw [hc208]; rfl) rfl ?_
                    replace hyp := it_pos hc208 hyp
                    refine am_aload_n dX12_clause_292 rfl ?_
                    refine am_iload_n dX12_clause_293 rfl ?_
                    refine am_iconst 3 (v := 3) dX12_clause_294 (by decide) ?_
                    refine am_icmp_neT (7) 302 dX12_clause_295 rfl hc197n ?_
                    refine am_iconst 0 (v := 0) dX12_clause_302 (by decide) ?_
                    refine am_iconst 4 (v := 4) dX12_clause_303 (by decide) ?_
                    obtain ⟨⟨v209, M209⟩, hk209, hyp⟩ := bd_some hyp
                    try dsimp only at hyp
                    refine am_callV [_, _] dX12_clause_304 ml_X12_171 vm_X12_number (sh_54 g) rfl (fun _ => Nat.le_of_ble_eq_true rfl) (by omega) rfl (ef_X12_number (d := d + 2) (h := h) g hk209) rfl ?_
                    change am_At _ _ _ 307 [_, _, _, _] [_] _ _
                    refine am_istore_n dX12_clause_307 (am_lb rfl) ?_
                    change am_At _ _ _ 308 [_, _, _, _] [] _ _
                    refine am_aload_n dX12_clause_308 rfl ?_
                    refine am_getI 12 5 dX12_clause_309 fg_X12_119 (sh_54 g) (by decide) rfl ?_
                    refine am_if_ne (13) 325 dX12_clause_312 rfl ?_ ?_
                    · intro hc210n
                      have hc210n : ¬ ((M209 54 0 5) = 0) := hc210n
                      replace hyp := it_neg hc210n hyp
                      refine am_iload_n dX12_clause_325 rfl ?_
                      refine am_iconst 3 (v := 3) dX12_clause_326 (by decide) ?_
                      refine am_icmp_ge (24) 351 dX12_clause_327 rfl ?_ ?_
                      · intro hc211
                        have hc211 : (3 : Int32) ≤ v1 := hc211
                        replace hyp := it_pos hc211 hyp
                        refine am_aload_n dX12_clause_351 rfl ?_
                        refine am_bipush 59 (v := 59) dX12_clause_352 (by decide) ?_
                        obtain ⟨M212, hk212, hyp⟩ := bd_some hyp
                        try dsimp only at hyp
                        refine am_callV [_] dX12_clause_354 ml_X12_175 vm_X12_sign (sh_54 g) rfl (fun _ => Nat.le_of_ble_eq_true rfl) (by omega) rfl (ef_X12_sign (d := d + 2) (h := h) g hk212) rfl ?_
                        change am_At _ _ _ 357 [_, _, _, _] [] _ _
                        cases hyp
                        exact am_vret dX12_clause_357 rfl
                      · intro hc211n
                        have hc211n : ¬ ((3 : Int32) ≤ v1) := hc211n
                        replace hyp := it_neg hc211n hyp
                        refine am_aload_n dX12_clause_330 rfl ?_
                        refine am_getR 12 11 57 dX12_clause_331 fg_X12_20 (sh_54 g) (by decide) rfl (rf_54_11 g) ?_
                        refine am_iload_n dX12_clause_334 rfl ?_
                        refine am_dup2 dX12_clause_335 (fun _ => rfl) (fun _ => rfl) ?_
                        obtain ⟨hg213, hyp⟩ := gd_some hyp
                        refine am_iald dX12_clause_336 (am_ia.one (sh_57 g)) (am_lit hg213) ?_
                        refine am_aload_n dX12_clause_337 rfl ?_
                        refine am_getI 12 5 dX12_clause_338 fg_X12_119 (sh_54 g) (by decide) rfl ?_
                        refine am_if_neT (7) 348 dX12_clause_341 rfl hc210n ?_
                        refine am_iconst 0 (v := 0) dX12_clause_348 (by decide) ?_
                        refine am_iadd dX12_clause_349 ?_
                        refine am_iast dX12_clause_350 (am_ia.one (sh_57 g)) (am_lit hg213) ?_
                        refine am_aload_n dX12_clause_351 rfl ?_
                        refine am_bipush 59 (v := 59) dX12_clause_352 (by decide) ?_
                        obtain ⟨M214, hk214, hyp⟩ := bd_some hyp
                        try dsimp only at hyp
                        refine am_callV [_] dX12_clause_354 ml_X12_175 vm_X12_sign (sh_54 g) rfl (fun _ => Nat.le_of_ble_eq_true rfl) (by omega) rfl (ef_X12_sign (d := d + 2) (h := h) g hk214) rfl ?_
                        change am_At _ _ _ 357 [_, _, _, _] [] _ _
                        cases hyp
                        exact am_vret dX12_clause_357 rfl
                    · intro hc210
                      have hc210 : (M209 54 0 5) = 0 := hc210
                      replace hyp := it_pos hc210 hyp
                      refine am_aload_n dX12_clause_315 rfl ?_
                      refine am_getR 12 11 57 dX12_clause_316 fg_X12_20 (sh_54 g) (by decide) rfl (rf_54_11 g) ?_
                      refine am_iload_n dX12_clause_319 rfl ?_
                      refine am_iload_n dX12_clause_320 rfl ?_
                      obtain ⟨hg215, hyp⟩ := gd_some hyp
                      refine am_iast dX12_clause_321 (am_ia.one (sh_57 g)) (am_lit hg215) ?_
                      refine am_goto (3) 325 dX12_clause_322 rfl ?_
                      refine am_iload_n dX12_clause_325 rfl ?_
                      refine am_iconst 3 (v := 3) dX12_clause_326 (by decide) ?_
                      refine am_icmp_ge (24) 351 dX12_clause_327 rfl ?_ ?_
                      · intro hc216
                        have hc216 : (3 : Int32) ≤ v1 := hc216
                        replace hyp := it_pos hc216 hyp
                        refine am_aload_n dX12_clause_351 rfl ?_
                        refine am_bipush 59 (v := 59) dX12_clause_352 (by decide) ?_
                        obtain ⟨M217, hk217, hyp⟩ := bd_some hyp
                        try dsimp only at hyp
                        refine am_callV [_] dX12_clause_354 ml_X12_175 vm_X12_sign (sh_54 g) rfl (fun _ => Nat.le_of_ble_eq_true rfl) (by omega) rfl (ef_X12_sign (d := d + 2) (h := h) g hk217) rfl ?_
                        change am_At _ _ _ 357 [_, _, _, _] [] _ _
                        cases hyp
                        exact am_vret dX12_clause_357 rfl
                      · intro hc216n
                        have hc216n : ¬ ((3 : Int32) ≤ v1) := hc216n
                        replace hyp := it_neg hc216n hyp
                        refine am_aload_n dX12_clause_330 rfl ?_
                        refine am_getR 12 11 57 dX12_clause_331 fg_X12_20 (sh_54 g) (by decide) rfl (rf_54_11 g) ?_
                        refine am_iload_n dX12_clause_334 rfl ?_
                        refine am_dup2 dX12_clause_335 (fun _ => rfl) (fun _ => rfl) ?_
                        refine am_iald dX12_clause_336 (am_ia.one (sh_57 g)) (am_lit hg215) ?_
                        refine am_aload_n dX12_clause_337 rfl ?_
                        refine am_getI 12 5 dX12_clause_338 fg_X12_119 (sh_54 g) (by decide) rfl ?_
                        refine am_if_neF (7) 348 dX12_clause_341 rfl hc210 ?_
                        refine am_iconst 1 (v := 1) dX12_clause_344 (by decide) ?_
                        refine am_goto (4) 349 dX12_clause_345 rfl ?_
                        refine am_iadd dX12_clause_349 ?_
                        refine am_iast dX12_clause_350 (am_ia.one (sh_57 g)) (am_lit hg215) ?_
                        refine am_aload_n dX12_clause_351 rfl ?_
                        refine am_bipush 59 (v := 59) dX12_clause_352 (by decide) ?_
                        obtain ⟨M218, hk218, hyp⟩ := bd_some hyp
                        try dsimp only at hyp
                        refine am_callV [_] dX12_clause_354 ml_X12_175 vm_X12_sign (sh_54 g) rfl (fun _ => Nat.le_of_ble_eq_true rfl) (by omega) rfl (ef_X12_sign (d := d + 2) (h := h) g hk218) rfl ?_
                        change am_At _ _ _ 357 [_, _, _, _] [] _ _
                        cases hyp
                        exact am_vret dX12_clause_357 rfl
                  · have hc208n := hc208
                    replace hyp := it_neg hc208n hyp
                    by_cases hc219 : v1 = (5 : Int32)
                    · refine am_tabIn (180) 251 dX12_clause_71 (by rw [hc219]; decide) (by rw [hc219]; decide) (by rw [hc219]; rfl) rfl ?_
                      replace hyp := it_pos hc219 hyp
                      refine am_aload_n dX12_clause_251 rfl ?_
                      refine am_iconst 0 (v := 0) dX12_clause_252 (by decide) ?_
                      refine am_aload_n dX12_clause_253 rfl ?_
                      refine am_getR 12 11 57 dX12_clause_254 fg_X12_20 (sh_54 g) (by decide) rfl (rf_54_11 g) ?_
                      refine am_iconst 0 (v := 0) dX12_clause_257 (by decide) ?_
                      refine am_iald dX12_clause_258 (am_ia.one (sh_57 g)) (am_lit rfl) ?_
                      refine am_iconst 1 (v := 1) dX12_clause_259 (by decide) ?_
                      refine am_isub dX12_clause_260 ?_
                      obtain ⟨⟨v220, M220⟩, hk220, hyp⟩ := bd_some hyp
                      try dsimp only at hyp
                      refine am_callV [_, _] dX12_clause_261 ml_X12_171 vm_X12_number (sh_54 g) rfl (fun _ => Nat.le_of_ble_eq_true rfl) (by omega) rfl (ef_X12_number (d := d + 2) (h := h) g hk220) rfl ?_
                      change am_At _ _ _ 264 [_, _, _, _] [_] _ _
                      refine am_istore_n dX12_clause_264 (am_lb rfl) ?_
                      change am_At _ _ _ 265 [_, _, _, _] [] _ _
                      refine am_aload_n dX12_clause_265 rfl ?_
                      refine am_iconst 0 (v := 0) dX12_clause_266 (by decide) ?_
                      refine am_bipush 40 (v := 40) dX12_clause_267 (by decide) ?_
                      obtain ⟨⟨v221, M221⟩, hk221, hyp⟩ := bd_some hyp
                      try dsimp only at hyp
                      refine am_callV [_, _] dX12_clause_269 ml_X12_171 vm_X12_number (sh_54 g) rfl (fun _ => Nat.le_of_ble_eq_true rfl) (by omega) rfl (ef_X12_number (d := d + 2) (h := h) g hk221) rfl ?_
                      change am_At _ _ _ 272 [_, _, _, _] [_] _ _
                      refine am_istore_n dX12_clause_272 (am_lb rfl) ?_
                      change am_At _ _ _ 273 [_, _, _, _] [] _ _
                      refine am_aload_n dX12_clause_273 rfl ?_
                      refine am_getI 12 5 dX12_clause_274 fg_X12_119 (sh_54 g) (by decide) rfl ?_
                      refine am_if_ne (48) 325 dX12_clause_277 rfl ?_ ?_
                      · intro hc222n
                        have hc222n : ¬ ((M221 54 0 5) = 0) := hc222n
                        replace hyp := it_neg hc222n hyp
                        refine am_iload_n dX12_clause_325 rfl ?_
                        refine am_iconst 3 (v := 3) dX12_clause_326 (by decide) ?_
                        refine am_icmp_ge (24) 351 dX12_clause_327 rfl ?_ ?_
                        · intro hc223
                          have hc223 : (3 : Int32) ≤ v1 := hc223
                          replace hyp := it_pos hc223 hyp
                          refine am_aload_n dX12_clause_351 rfl ?_
                          refine am_bipush 59 (v := 59) dX12_clause_352 (by decide) ?_
                          obtain ⟨M224, hk224, hyp⟩ := bd_some hyp
                          try dsimp only at hyp
                          refine am_callV [_] dX12_clause_354 ml_X12_175 vm_X12_sign (sh_54 g) rfl (fun _ => Nat.le_of_ble_eq_true rfl) (by omega) rfl (ef_X12_sign (d := d + 2) (h := h) g hk224) rfl ?_
                          change am_At _ _ _ 357 [_, _, _, _] [] _ _
                          cases hyp
                          exact am_vret dX12_clause_357 rfl
                        · intro hc223n
                          have hc223n : ¬ ((3 : Int32) ≤ v1) := hc223n
                          replace hyp := it_neg hc223n hyp
                          refine am_aload_n dX12_clause_330 rfl ?_
                          refine am_getR 12 11 57 dX12_clause_331 fg_X12_20 (sh_54 g) (by decide) rfl (rf_54_11 g) ?_
                          refine am_iload_n dX12_clause_334 rfl ?_
                          refine am_dup2 dX12_clause_335 (fun _ => rfl) (fun _ => rfl) ?_
                          obtain ⟨hg225, hyp⟩ := gd_some hyp
                          refine am_iald dX12_clause_336 (am_ia.one (sh_57 g)) (am_lit hg225) ?_
                          refine am_aload_n dX12_clause_337 rfl ?_
                          refine am_getI 12 5 dX12_clause_338 fg_X12_119 (sh_54 g) (by decide) rfl ?_
                          refine am_if_neT (7) 348 dX12_clause_341 rfl hc222n ?_
                          refine am_iconst 0 (v := 0) dX12_clause_348 (by decide) ?_
                          refine am_iadd dX12_clause_349 ?_
                          refine am_iast dX12_clause_350 (am_ia.one (sh_57 g)) (am_lit hg225) ?_
                          refine am_aload_n dX12_clause_351 rfl ?_
                          refine am_bipush 59 (v := 59) dX12_clause_352 (by decide) ?_
                          obtain ⟨M226, hk226, hyp⟩ := bd_some hyp
                          try dsimp only at hyp
                          refine am_callV [_] dX12_clause_354 ml_X12_175 vm_X12_sign (sh_54 g) rfl (fun _ => Nat.le_of_ble_eq_true rfl) (by omega) rfl (ef_X12_sign (d := d + 2) (h := h) g hk226) rfl ?_
                          change am_At _ _ _ 357 [_, _, _, _] [] _ _
                          cases hyp
                          exact am_vret dX12_clause_357 rfl
                      · intro hc222
                        have hc222 : (M221 54 0 5) = 0 := hc222
                        replace hyp := it_pos hc222 hyp
                        refine am_aload_n dX12_clause_280 rfl ?_
                        refine am_getR 12 13 59 dX12_clause_281 fg_X12_28 (sh_54 g) (by decide) rfl (rf_54_13 g) ?_
                        refine am_iload_n dX12_clause_284 rfl ?_
                        obtain ⟨hg227, hyp⟩ := gd_some hyp
                        refine am_aald dX12_clause_285 (sh_59 g) (am_lit hg227) ?_
                        refine am_iconst 3 (v := 3) dX12_clause_286 (by decide) ?_
                        refine am_iload_n dX12_clause_287 rfl ?_
                        refine am_iast dX12_clause_288 (am_ia.row (sh_59 g) (by omega) (am_vlt (am_lit hg227))) (am_lit rfl) ?_
                        refine am_goto (36) 325 dX12_clause_289 rfl ?_
                        refine am_iload_n dX12_clause_325 rfl ?_
                        refine am_iconst 3 (v := 3) dX12_clause_326 (by decide) ?_
                        refine am_icmp_ge (24) 351 dX12_clause_327 rfl ?_ ?_
                        · intro hc228
                          have hc228 : (3 : Int32) ≤ v1 := hc228
                          replace hyp := it_pos hc228 hyp
                          refine am_aload_n dX12_clause_351 rfl ?_
                          refine am_bipush 59 (v := 59) dX12_clause_352 (by decide) ?_
                          obtain ⟨M229, hk229, hyp⟩ := bd_some hyp
                          try dsimp only at hyp
                          refine am_callV [_] dX12_clause_354 ml_X12_175 vm_X12_sign (sh_54 g) rfl (fun _ => Nat.le_of_ble_eq_true rfl) (by omega) rfl (ef_X12_sign (d := d + 2) (h := h) g hk229) rfl ?_
                          change am_At _ _ _ 357 [_, _, _, _] [] _ _
                          cases hyp
                          exact am_vret dX12_clause_357 rfl
                        · intro hc228n
                          have hc228n : ¬ ((3 : Int32) ≤ v1) := hc228n
                          replace hyp := it_neg hc228n hyp
                          refine am_aload_n dX12_clause_330 rfl ?_
                          refine am_getR 12 11 57 dX12_clause_331 fg_X12_20 (sh_54 g) (by decide) rfl (rf_54_11 g) ?_
                          refine am_iload_n dX12_clause_334 rfl ?_
                          refine am_dup2 dX12_clause_335 (fun _ => rfl) (fun _ => rfl) ?_
                          obtain ⟨hg230, hyp⟩ := gd_some hyp
                          refine am_iald dX12_clause_336 (am_ia.one (sh_57 g)) (am_lit hg230) ?_
                          refine am_aload_n dX12_clause_337 rfl ?_
                          refine am_getI 12 5 dX12_clause_338 fg_X12_119 (sh_54 g) (by decide) rfl ?_
                          refine am_if_neF (7) 348 dX12_clause_341 rfl hc222 ?_
                          refine am_iconst 1 (v := 1) dX12_clause_344 (by decide) ?_
                          refine am_goto (4) 349 dX12_clause_345 rfl ?_
                          refine am_iadd dX12_clause_349 ?_
                          refine am_iast dX12_clause_350 (am_ia.one (sh_57 g)) (am_lit hg230) ?_
                          refine am_aload_n dX12_clause_351 rfl ?_
                          refine am_bipush 59 (v := 59) dX12_clause_352 (by decide) ?_
                          obtain ⟨M231, hk231, hyp⟩ := bd_some hyp
                          try dsimp only at hyp
                          refine am_callV [_] dX12_clause_354 ml_X12_175 vm_X12_sign (sh_54 g) rfl (fun _ => Nat.le_of_ble_eq_true rfl) (by omega) rfl (ef_X12_sign (d := d + 2) (h := h) g hk231) rfl ?_
                          change am_At _ _ _ 357 [_, _, _, _] [] _ _
                          cases hyp
                          exact am_vret dX12_clause_357 rfl
                    · have hc219n := hc219
                      replace hyp := it_neg hc219n hyp
                      refine am_tabOut 292 dX12_clause_71 (by have q0 := lv_neT (a := 0) hc165n (by decide); have q1 := lv_neT (a := 1) hc176n (by decide); have q2 := lv_neT (a := 2) hc186n (by decide); have q3 := lv_neT (a := 3) hc197n (by decide); have q4 := lv_neT (a := 4) hc208n (by decide); have q5 := lv_neT (a := 5) hc219n (by decide); omega) rfl ?_
                      refine am_aload_n dX12_clause_292 rfl ?_
                      refine am_iload_n dX12_clause_293 rfl ?_
                      refine am_iconst 3 (v := 3) dX12_clause_294 (by decide) ?_
                      refine am_icmp_neT (7) 302 dX12_clause_295 rfl hc197n ?_
                      refine am_iconst 0 (v := 0) dX12_clause_302 (by decide) ?_
                      refine am_iconst 4 (v := 4) dX12_clause_303 (by decide) ?_
                      obtain ⟨⟨v232, M232⟩, hk232, hyp⟩ := bd_some hyp
                      try dsimp only at hyp
                      refine am_callV [_, _] dX12_clause_304 ml_X12_171 vm_X12_number (sh_54 g) rfl (fun _ => Nat.le_of_ble_eq_true rfl) (by omega) rfl (ef_X12_number (d := d + 2) (h := h) g hk232) rfl ?_
                      change am_At _ _ _ 307 [_, _, _, _] [_] _ _
                      refine am_istore_n dX12_clause_307 (am_lb rfl) ?_
                      change am_At _ _ _ 308 [_, _, _, _] [] _ _
                      refine am_aload_n dX12_clause_308 rfl ?_
                      refine am_getI 12 5 dX12_clause_309 fg_X12_119 (sh_54 g) (by decide) rfl ?_
                      refine am_if_ne (13) 325 dX12_clause_312 rfl ?_ ?_
                      · intro hc233n
                        have hc233n : ¬ ((M232 54 0 5) = 0) := hc233n
                        replace hyp := it_neg hc233n hyp
                        refine am_iload_n dX12_clause_325 rfl ?_
                        refine am_iconst 3 (v := 3) dX12_clause_326 (by decide) ?_
                        refine am_icmp_ge (24) 351 dX12_clause_327 rfl ?_ ?_
                        · intro hc234
                          have hc234 : (3 : Int32) ≤ v1 := hc234
                          replace hyp := it_pos hc234 hyp
                          refine am_aload_n dX12_clause_351 rfl ?_
                          refine am_bipush 59 (v := 59) dX12_clause_352 (by decide) ?_
                          obtain ⟨M235, hk235, hyp⟩ := bd_some hyp
                          try dsimp only at hyp
                          refine am_callV [_] dX12_clause_354 ml_X12_175 vm_X12_sign (sh_54 g) rfl (fun _ => Nat.le_of_ble_eq_true rfl) (by omega) rfl (ef_X12_sign (d := d + 2) (h := h) g hk235) rfl ?_
                          change am_At _ _ _ 357 [_, _, _, _] [] _ _
                          cases hyp
                          exact am_vret dX12_clause_357 rfl
                        · intro hc234n
                          have hc234n : ¬ ((3 : Int32) ≤ v1) := hc234n
                          replace hyp := it_neg hc234n hyp
                          refine am_aload_n dX12_clause_330 rfl ?_
                          refine am_getR 12 11 57 dX12_clause_331 fg_X12_20 (sh_54 g) (by decide) rfl (rf_54_11 g) ?_
                          refine am_iload_n dX12_clause_334 rfl ?_
                          refine am_dup2 dX12_clause_335 (fun _ => rfl) (fun _ => rfl) ?_
                          obtain ⟨hg236, hyp⟩ := gd_some hyp
                          refine am_iald dX12_clause_336 (am_ia.one (sh_57 g)) (am_lit hg236) ?_
                          refine am_aload_n dX12_clause_337 rfl ?_
                          refine am_getI 12 5 dX12_clause_338 fg_X12_119 (sh_54 g) (by decide) rfl ?_
                          refine am_if_neT (7) 348 dX12_clause_341 rfl hc233n ?_
                          refine am_iconst 0 (v := 0) dX12_clause_348 (by decide) ?_
                          refine am_iadd dX12_clause_349 ?_
                          refine am_iast dX12_clause_350 (am_ia.one (sh_57 g)) (am_lit hg236) ?_
                          refine am_aload_n dX12_clause_351 rfl ?_
                          refine am_bipush 59 (v := 59) dX12_clause_352 (by decide) ?_
                          obtain ⟨M237, hk237, hyp⟩ := bd_some hyp
                          try dsimp only at hyp
                          refine am_callV [_] dX12_clause_354 ml_X12_175 vm_X12_sign (sh_54 g) rfl (fun _ => Nat.le_of_ble_eq_true rfl) (by omega) rfl (ef_X12_sign (d := d + 2) (h := h) g hk237) rfl ?_
                          change am_At _ _ _ 357 [_, _, _, _] [] _ _
                          cases hyp
                          exact am_vret dX12_clause_357 rfl
                      · intro hc233
                        have hc233 : (M232 54 0 5) = 0 := hc233
                        replace hyp := it_pos hc233 hyp
                        refine am_aload_n dX12_clause_315 rfl ?_
                        refine am_getR 12 11 57 dX12_clause_316 fg_X12_20 (sh_54 g) (by decide) rfl (rf_54_11 g) ?_
                        refine am_iload_n dX12_clause_319 rfl ?_
                        refine am_iload_n dX12_clause_320 rfl ?_
                        obtain ⟨hg238, hyp⟩ := gd_some hyp
                        refine am_iast dX12_clause_321 (am_ia.one (sh_57 g)) (am_lit hg238) ?_
                        refine am_goto (3) 325 dX12_clause_322 rfl ?_
                        refine am_iload_n dX12_clause_325 rfl ?_
                        refine am_iconst 3 (v := 3) dX12_clause_326 (by decide) ?_
                        refine am_icmp_ge (24) 351 dX12_clause_327 rfl ?_ ?_
                        · intro hc239
                          have hc239 : (3 : Int32) ≤ v1 := hc239
                          replace hyp := it_pos hc239 hyp
                          refine am_aload_n dX12_clause_351 rfl ?_
                          refine am_bipush 59 (v := 59) dX12_clause_352 (by decide) ?_
                          obtain ⟨M240, hk240, hyp⟩ := bd_some hyp
                          try dsimp only at hyp
                          refine am_callV [_] dX12_clause_354 ml_X12_175 vm_X12_sign (sh_54 g) rfl (fun _ => Nat.le_of_ble_eq_true rfl) (by omega) rfl (ef_X12_sign (d := d + 2) (h := h) g hk240) rfl ?_
                          change am_At _ _ _ 357 [_, _, _, _] [] _ _
                          cases hyp
                          exact am_vret dX12_clause_357 rfl
                        · intro hc239n
                          have hc239n : ¬ ((3 : Int32) ≤ v1) := hc239n
                          replace hyp := it_neg hc239n hyp
                          refine am_aload_n dX12_clause_330 rfl ?_
                          refine am_getR 12 11 57 dX12_clause_331 fg_X12_20 (sh_54 g) (by decide) rfl (rf_54_11 g) ?_
                          refine am_iload_n dX12_clause_334 rfl ?_
                          refine am_dup2 dX12_clause_335 (fun _ => rfl) (fun _ => rfl) ?_
                          refine am_iald dX12_clause_336 (am_ia.one (sh_57 g)) (am_lit hg238) ?_
                          refine am_aload_n dX12_clause_337 rfl ?_
                          refine am_getI 12 5 dX12_clause_338 fg_X12_119 (sh_54 g) (by decide) rfl ?_
                          refine am_if_neF (7) 348 dX12_clause_341 rfl hc233 ?_
                          refine am_iconst 1 (v := 1) dX12_clause_344 (by decide) ?_
                          refine am_goto (4) 349 dX12_clause_345 rfl ?_
                          refine am_iadd dX12_clause_349 ?_
                          refine am_iast dX12_clause_350 (am_ia.one (sh_57 g)) (am_lit hg238) ?_
                          refine am_aload_n dX12_clause_351 rfl ?_
                          refine am_bipush 59 (v := 59) dX12_clause_352 (by decide) ?_
                          obtain ⟨M241, hk241, hyp⟩ := bd_some hyp
                          try dsimp only at hyp
                          refine am_callV [_] dX12_clause_354 ml_X12_175 vm_X12_sign (sh_54 g) rfl (fun _ => Nat.le_of_ble_eq_true rfl) (by omega) rfl (ef_X12_sign (d := d + 2) (h := h) g hk241) rfl ?_
                          change am_At _ _ _ 357 [_, _, _, _] [] _ _
                          cases hyp
                          exact am_vret dX12_clause_357 rfl
        · intro hc163n
          have hc163n : ¬ (((f_X12_wrong (3 : Int32) (M1 54 0 4) M1) 54 0 5) = 0) := hc163n
          replace hyp := it_neg hc163n hyp
          cases hyp
          exact am_vret dX12_clause_55 rfl
  · intro hc2
    have hc2 : v1 = (-1 : Int32) := hc2
    replace hyp := it_pos hc2 hyp
    refine am_aload_n dX12_clause_10 rfl ?_
    refine am_iconst 1 (v := 1) dX12_clause_11 (by decide) ?_
    refine am_aload_n dX12_clause_12 rfl ?_
    refine am_getI 12 4 dX12_clause_13 fg_X12_112 (sh_54 g) (by decide) rfl ?_
    refine am_callV [_, _] dX12_clause_16 ml_X12_132 vm_X12_wrong (sh_54 g) rfl (fun _ => Nat.le_of_ble_eq_true rfl) (by omega) rfl (ef_X12_wrong (d := d + 4) (h := h) g (x1 := (1 : Int32)) (x2 := (M1 54 0 4)) (M := M1) rfl) rfl ?_
    change am_At _ _ _ 19 [_, _, _, _] [] _ _
    refine am_goto (29) 48 dX12_clause_19 rfl ?_
    refine am_aload_n dX12_clause_48 rfl ?_
    refine am_getI 12 5 dX12_clause_49 fg_X12_119 (sh_54 g) (by decide) rfl ?_
    refine am_if_eq (4) 56 dX12_clause_52 rfl ?_ ?_
    · intro hc242
      have hc242 : ((f_X12_wrong (1 : Int32) (M1 54 0 4) M1) 54 0 5) = 0 := hc242
      replace hyp := it_pos hc242 hyp
      refine am_aload_n dX12_clause_56 rfl ?_
      obtain ⟨M243, hk243, hyp⟩ := bd_some hyp
      try dsimp only at hyp
      refine am_callV [] dX12_clause_57 ml_X12_156 vm_X12_skipWord (sh_54 g) rfl (fun _ => Nat.le_of_ble_eq_true rfl) (by omega) rfl (ef_X12_skipWord (d := d + 3) (h := h) g hk243) rfl ?_
      change am_At _ _ _ 60 [_, _, _, _] [] _ _
      refine am_aload_n dX12_clause_60 rfl ?_
      refine am_dup dX12_clause_61 (fun _ => rfl) ?_
      refine am_getI 12 7 dX12_clause_62 fg_X12_159 (sh_54 g) (by decide) rfl ?_
      refine am_iconst 1 (v := 1) dX12_clause_65 (by decide) ?_
      refine am_iadd dX12_clause_66 ?_
      refine am_putI 12 7 dX12_clause_67 (Or.inl fp_X12_159) (sh_54 g) (by decide) rfl rfl rfl ?_
      refine am_iload_n dX12_clause_70 rfl ?_
      by_cases hc244 : v1 = (0 : Int32)
      · refine am_tabIn (37) 108 dX12_clause_71 (by rw [hc244]; decide) (by rw [hc244]; decide) (by rw [hc244]; rfl) rfl ?_
        replace hyp := it_pos hc244 hyp
        refine am_aload_n dX12_clause_108 rfl ?_
        refine am_getR 12 13 59 dX12_clause_109 fg_X12_28 (sh_54 g) (by decide) rfl (rf_54_13 g) ?_
        refine am_aload_n dX12_clause_112 rfl ?_
        refine am_getR 12 11 57 dX12_clause_113 fg_X12_20 (sh_54 g) (by decide) rfl (rf_54_11 g) ?_
        refine am_iconst 0 (v := 0) dX12_clause_116 (by decide) ?_
        refine am_iald dX12_clause_117 (am_ia.one (sh_57 g)) (am_lit rfl) ?_
        obtain ⟨hg245, hyp⟩ := gd_some hyp
        refine am_aald dX12_clause_118 (sh_59 g) (am_lit hg245) ?_
        refine am_astore_n dX12_clause_119 (am_lb rfl) ?_
        change am_At _ _ _ 120 [_, _, _, _] [] _ _
        refine am_aload_n dX12_clause_120 rfl ?_
        refine am_iconst 0 (v := 0) dX12_clause_121 (by decide) ?_
        refine am_aload_n dX12_clause_122 rfl ?_
        refine am_iconst 0 (v := 0) dX12_clause_123 (by decide) ?_
        refine am_bipush 9 (v := 9) dX12_clause_124 (by decide) ?_
        obtain ⟨⟨v246, M246⟩, hk246, hyp⟩ := bd_some hyp
        try dsimp only at hyp
        refine am_callV [_, _] dX12_clause_126 ml_X12_171 vm_X12_number (sh_54 g) rfl (fun _ => Nat.le_of_ble_eq_true rfl) (by omega) rfl (ef_X12_number (d := d + 2) (h := h) g hk246) rfl ?_
        change am_At _ _ _ 129 [_, _, _, _] [_, _, _] _ _
        refine am_iast dX12_clause_129 (am_ia.row (sh_59 g) (by omega) (am_vlt (am_lit hg245))) (am_lit rfl) ?_
        refine am_aload_n dX12_clause_130 rfl ?_
        refine am_iconst 1 (v := 1) dX12_clause_131 (by decide) ?_
        refine am_aload_n dX12_clause_132 rfl ?_
        refine am_iconst 0 (v := 0) dX12_clause_133 (by decide) ?_
        refine am_bipush 20 (v := 20) dX12_clause_134 (by decide) ?_
        obtain ⟨⟨v247, M247⟩, hk247, hyp⟩ := bd_some hyp
        try dsimp only at hyp
        refine am_callV [_, _] dX12_clause_136 ml_X12_171 vm_X12_number (sh_54 g) rfl (fun _ => Nat.le_of_ble_eq_true rfl) (by omega) rfl (ef_X12_number (d := d + 2) (h := h) g hk247) rfl ?_
        change am_At _ _ _ 139 [_, _, _, _] [_, _, _] _ _
        refine am_iast dX12_clause_139 (am_ia.row (sh_59 g) (by omega) (am_vlt (am_lit hg245))) (am_lit rfl) ?_
        refine am_aload_n dX12_clause_140 rfl ?_
        refine am_iconst 2 (v := 2) dX12_clause_141 (by decide) ?_
        refine am_aload_n dX12_clause_142 rfl ?_
        refine am_iconst 0 (v := 0) dX12_clause_143 (by decide) ?_
        refine am_bipush 9 (v := 9) dX12_clause_144 (by decide) ?_
        obtain ⟨⟨v248, M248⟩, hk248, hyp⟩ := bd_some hyp
        try dsimp only at hyp
        refine am_callV [_, _] dX12_clause_146 ml_X12_171 vm_X12_number (sh_54 g) rfl (fun _ => Nat.le_of_ble_eq_true rfl) (by omega) rfl (ef_X12_number (d := d + 2) (h := h) g hk248) rfl ?_
        change am_At _ _ _ 149 [_, _, _, _] [_, _, _] _ _
        refine am_iast dX12_clause_149 (am_ia.row (sh_59 g) (by omega) (am_vlt (am_lit hg245))) (am_lit rfl) ?_
        refine am_aload_n dX12_clause_150 rfl ?_
        refine am_iconst 3 (v := 3) dX12_clause_151 (by decide) ?_
        refine am_iconst 0 (v := 0) dX12_clause_152 (by decide) ?_
        refine am_iast dX12_clause_153 (am_ia.row (sh_59 g) (by omega) (am_vlt (am_lit hg245))) (am_lit rfl) ?_
        refine am_goto (171) 325 dX12_clause_154 rfl ?_
        refine am_iload_n dX12_clause_325 rfl ?_
        refine am_iconst 3 (v := 3) dX12_clause_326 (by decide) ?_
        refine am_icmp_ge (24) 351 dX12_clause_327 rfl ?_ ?_
        · intro hc249
          have hc249 : (3 : Int32) ≤ v1 := hc249
          replace hyp := it_pos hc249 hyp
          refine am_aload_n dX12_clause_351 rfl ?_
          refine am_bipush 59 (v := 59) dX12_clause_352 (by decide) ?_
          obtain ⟨M250, hk250, hyp⟩ := bd_some hyp
          try dsimp only at hyp
          refine am_callV [_] dX12_clause_354 ml_X12_175 vm_X12_sign (sh_54 g) rfl (fun _ => Nat.le_of_ble_eq_true rfl) (by omega) rfl (ef_X12_sign (d := d + 2) (h := h) g hk250) rfl ?_
          change am_At _ _ _ 357 [_, _, _, _] [] _ _
          cases hyp
          exact am_vret dX12_clause_357 rfl
        · intro hc249n
          have hc249n : ¬ ((3 : Int32) ≤ v1) := hc249n
          replace hyp := it_neg hc249n hyp
          refine am_aload_n dX12_clause_330 rfl ?_
          refine am_getR 12 11 57 dX12_clause_331 fg_X12_20 (sh_54 g) (by decide) rfl (rf_54_11 g) ?_
          refine am_iload_n dX12_clause_334 rfl ?_
          refine am_dup2 dX12_clause_335 (fun _ => rfl) (fun _ => rfl) ?_
          obtain ⟨hg251, hyp⟩ := gd_some hyp
          refine am_iald dX12_clause_336 (am_ia.one (sh_57 g)) (am_lit hg251) ?_
          refine am_aload_n dX12_clause_337 rfl ?_
          refine am_getI 12 5 dX12_clause_338 fg_X12_119 (sh_54 g) (by decide) rfl ?_
          refine am_if_ne (7) 348 dX12_clause_341 rfl ?_ ?_
          · intro hc252n
            have hc252n : ¬ ((M248 54 0 5) = 0) := hc252n
            replace hyp := it_neg hc252n hyp
            refine am_iconst 0 (v := 0) dX12_clause_348 (by decide) ?_
            refine am_iadd dX12_clause_349 ?_
            refine am_iast dX12_clause_350 (am_ia.one (sh_57 g)) (am_lit hg251) ?_
            refine am_aload_n dX12_clause_351 rfl ?_
            refine am_bipush 59 (v := 59) dX12_clause_352 (by decide) ?_
            obtain ⟨M253, hk253, hyp⟩ := bd_some hyp
            try dsimp only at hyp
            refine am_callV [_] dX12_clause_354 ml_X12_175 vm_X12_sign (sh_54 g) rfl (fun _ => Nat.le_of_ble_eq_true rfl) (by omega) rfl (ef_X12_sign (d := d + 2) (h := h) g hk253) rfl ?_
            change am_At _ _ _ 357 [_, _, _, _] [] _ _
            cases hyp
            exact am_vret dX12_clause_357 rfl
          · intro hc252
            have hc252 : (M248 54 0 5) = 0 := hc252
            replace hyp := it_pos hc252 hyp
            refine am_iconst 1 (v := 1) dX12_clause_344 (by decide) ?_
            refine am_goto (4) 349 dX12_clause_345 rfl ?_
            refine am_iadd dX12_clause_349 ?_
            refine am_iast dX12_clause_350 (am_ia.one (sh_57 g)) (am_lit hg251) ?_
            refine am_aload_n dX12_clause_351 rfl ?_
            refine am_bipush 59 (v := 59) dX12_clause_352 (by decide) ?_
            obtain ⟨M254, hk254, hyp⟩ := bd_some hyp
            try dsimp only at hyp
            refine am_callV [_] dX12_clause_354 ml_X12_175 vm_X12_sign (sh_54 g) rfl (fun _ => Nat.le_of_ble_eq_true rfl) (by omega) rfl (ef_X12_sign (d := d + 2) (h := h) g hk254) rfl ?_
            change am_At _ _ _ 357 [_, _, _, _] [] _ _
            cases hyp
            exact am_vret dX12_clause_357 rfl
      · have hc244n := hc244
        replace hyp := it_neg hc244n hyp
        by_cases hc255 : v1 = (1 : Int32)
        · refine am_tabIn (86) 157 dX12_clause_71 (by rw [hc255]; decide) (by rw [hc255]; decide) (by rw [hc255]; rfl) rfl ?_
          replace hyp := it_pos hc255 hyp
          refine am_aload_n dX12_clause_157 rfl ?_
          refine am_getR 12 15 61 dX12_clause_158 fg_X12_34 (sh_54 g) (by decide) rfl (rf_54_15 g) ?_
          refine am_aload_n dX12_clause_161 rfl ?_
          refine am_getR 12 11 57 dX12_clause_162 fg_X12_20 (sh_54 g) (by decide) rfl (rf_54_11 g) ?_
          refine am_iconst 1 (v := 1) dX12_clause_165 (by decide) ?_
          refine am_iald dX12_clause_166 (am_ia.one (sh_57 g)) (am_lit rfl) ?_
          obtain ⟨hg256, hyp⟩ := gd_some hyp
          refine am_aald dX12_clause_167 (sh_61 g) (am_lit hg256) ?_
          refine am_astore_n dX12_clause_168 (am_lb rfl) ?_
          change am_At _ _ _ 169 [_, _, _, _] [] _ _
          refine am_aload_n dX12_clause_169 rfl ?_
          refine am_iconst 0 (v := 0) dX12_clause_170 (by decide) ?_
          refine am_aload_n dX12_clause_171 rfl ?_
          refine am_iconst 0 (v := 0) dX12_clause_172 (by decide) ?_
          refine am_bipush 9 (v := 9) dX12_clause_173 (by decide) ?_
          obtain ⟨⟨v257, M257⟩, hk257, hyp⟩ := bd_some hyp
          try dsimp only at hyp
          refine am_callV [_, _] dX12_clause_175 ml_X12_171 vm_X12_number (sh_54 g) rfl (fun _ => Nat.le_of_ble_eq_true rfl) (by omega) rfl (ef_X12_number (d := d + 2) (h := h) g hk257) rfl ?_
          change am_At _ _ _ 178 [_, _, _, _] [_, _, _] _ _
          refine am_iast dX12_clause_178 (am_ia.row (sh_61 g) (by omega) (am_vlt (am_lit hg256))) (am_lit rfl) ?_
          refine am_aload_n dX12_clause_179 rfl ?_
          refine am_iconst 1 (v := 1) dX12_clause_180 (by decide) ?_
          refine am_aload_n dX12_clause_181 rfl ?_
          refine am_iconst 0 (v := 0) dX12_clause_182 (by decide) ?_
          refine am_bipush 95 (v := 95) dX12_clause_183 (by decide) ?_
          obtain ⟨⟨v258, M258⟩, hk258, hyp⟩ := bd_some hyp
          try dsimp only at hyp
          refine am_callV [_, _] dX12_clause_185 ml_X12_171 vm_X12_number (sh_54 g) rfl (fun _ => Nat.le_of_ble_eq_true rfl) (by omega) rfl (ef_X12_number (d := d + 2) (h := h) g hk258) rfl ?_
          change am_At _ _ _ 188 [_, _, _, _] [_, _, _] _ _
          refine am_iast dX12_clause_188 (am_ia.row (sh_61 g) (by omega) (am_vlt (am_lit hg256))) (am_lit rfl) ?_
          refine am_goto (136) 325 dX12_clause_189 rfl ?_
          refine am_iload_n dX12_clause_325 rfl ?_
          refine am_iconst 3 (v := 3) dX12_clause_326 (by decide) ?_
          refine am_icmp_ge (24) 351 dX12_clause_327 rfl ?_ ?_
          · intro hc259
            have hc259 : (3 : Int32) ≤ v1 := hc259
            replace hyp := it_pos hc259 hyp
            refine am_aload_n dX12_clause_351 rfl ?_
            refine am_bipush 59 (v := 59) dX12_clause_352 (by decide) ?_
            obtain ⟨M260, hk260, hyp⟩ := bd_some hyp
            try dsimp only at hyp
            refine am_callV [_] dX12_clause_354 ml_X12_175 vm_X12_sign (sh_54 g) rfl (fun _ => Nat.le_of_ble_eq_true rfl) (by omega) rfl (ef_X12_sign (d := d + 2) (h := h) g hk260) rfl ?_
            change am_At _ _ _ 357 [_, _, _, _] [] _ _
            cases hyp
            exact am_vret dX12_clause_357 rfl
          · intro hc259n
            have hc259n : ¬ ((3 : Int32) ≤ v1) := hc259n
            replace hyp := it_neg hc259n hyp
            refine am_aload_n dX12_clause_330 rfl ?_
            refine am_getR 12 11 57 dX12_clause_331 fg_X12_20 (sh_54 g) (by decide) rfl (rf_54_11 g) ?_
            refine am_iload_n dX12_clause_334 rfl ?_
            refine am_dup2 dX12_clause_335 (fun _ => rfl) (fun _ => rfl) ?_
            obtain ⟨hg261, hyp⟩ := gd_some hyp
            refine am_iald dX12_clause_336 (am_ia.one (sh_57 g)) (am_lit hg261) ?_
            refine am_aload_n dX12_clause_337 rfl ?_
            refine am_getI 12 5 dX12_clause_338 fg_X12_119 (sh_54 g) (by decide) rfl ?_
            refine am_if_ne (7) 348 dX12_clause_341 rfl ?_ ?_
            · intro hc262n
              have hc262n : ¬ ((M258 54 0 5) = 0) := hc262n
              replace hyp := it_neg hc262n hyp
              refine am_iconst 0 (v := 0) dX12_clause_348 (by decide) ?_
              refine am_iadd dX12_clause_349 ?_
              refine am_iast dX12_clause_350 (am_ia.one (sh_57 g)) (am_lit hg261) ?_
              refine am_aload_n dX12_clause_351 rfl ?_
              refine am_bipush 59 (v := 59) dX12_clause_352 (by decide) ?_
              obtain ⟨M263, hk263, hyp⟩ := bd_some hyp
              try dsimp only at hyp
              refine am_callV [_] dX12_clause_354 ml_X12_175 vm_X12_sign (sh_54 g) rfl (fun _ => Nat.le_of_ble_eq_true rfl) (by omega) rfl (ef_X12_sign (d := d + 2) (h := h) g hk263) rfl ?_
              change am_At _ _ _ 357 [_, _, _, _] [] _ _
              cases hyp
              exact am_vret dX12_clause_357 rfl
            · intro hc262
              have hc262 : (M258 54 0 5) = 0 := hc262
              replace hyp := it_pos hc262 hyp
              refine am_iconst 1 (v := 1) dX12_clause_344 (by decide) ?_
              refine am_goto (4) 349 dX12_clause_345 rfl ?_
              refine am_iadd dX12_clause_349 ?_
              refine am_iast dX12_clause_350 (am_ia.one (sh_57 g)) (am_lit hg261) ?_
              refine am_aload_n dX12_clause_351 rfl ?_
              refine am_bipush 59 (v := 59) dX12_clause_352 (by decide) ?_
              obtain ⟨M264, hk264, hyp⟩ := bd_some hyp
              try dsimp only at hyp
              refine am_callV [_] dX12_clause_354 ml_X12_175 vm_X12_sign (sh_54 g) rfl (fun _ => Nat.le_of_ble_eq_true rfl) (by omega) rfl (ef_X12_sign (d := d + 2) (h := h) g hk264) rfl ?_
              change am_At _ _ _ 357 [_, _, _, _] [] _ _
              cases hyp
              exact am_vret dX12_clause_357 rfl
        · have hc255n := hc255
          replace hyp := it_neg hc255n hyp
          by_cases hc265 : v1 = (2 : Int32)
          · refine am_tabIn (121) 192 dX12_clause_71 (by rw [hc265]; decide) (by rw [hc265]; decide) (by rw [hc265]; rfl) rfl ?_
            replace hyp := it_pos hc265 hyp
            refine am_aload_n dX12_clause_192 rfl ?_
            refine am_getR 12 17 63 dX12_clause_193 fg_X12_40 (sh_54 g) (by decide) rfl (rf_54_17 g) ?_
            refine am_aload_n dX12_clause_196 rfl ?_
            refine am_getR 12 11 57 dX12_clause_197 fg_X12_20 (sh_54 g) (by decide) rfl (rf_54_11 g) ?_
            refine am_iconst 2 (v := 2) dX12_clause_200 (by decide) ?_
            refine am_iald dX12_clause_201 (am_ia.one (sh_57 g)) (am_lit rfl) ?_
            obtain ⟨hg266, hyp⟩ := gd_some hyp
            refine am_aald dX12_clause_202 (sh_63 g) (am_lit hg266) ?_
            refine am_astore_n dX12_clause_203 (am_lb rfl) ?_
            change am_At _ _ _ 204 [_, _, _, _] [] _ _
            refine am_aload_n dX12_clause_204 rfl ?_
            refine am_iconst 0 (v := 0) dX12_clause_205 (by decide) ?_
            refine am_aload_n dX12_clause_206 rfl ?_
            refine am_iconst 0 (v := 0) dX12_clause_207 (by decide) ?_
            refine am_aload_n dX12_clause_208 rfl ?_
            refine am_getR 12 11 57 dX12_clause_209 fg_X12_20 (sh_54 g) (by decide) rfl (rf_54_11 g) ?_
            refine am_iconst 0 (v := 0) dX12_clause_212 (by decide) ?_
            refine am_iald dX12_clause_213 (am_ia.one (sh_57 g)) (am_lit rfl) ?_
            refine am_iconst 1 (v := 1) dX12_clause_214 (by decide) ?_
            refine am_isub dX12_clause_215 ?_
            obtain ⟨⟨v267, M267⟩, hk267, hyp⟩ := bd_some hyp
            try dsimp only at hyp
            refine am_callV [_, _] dX12_clause_216 ml_X12_171 vm_X12_number (sh_54 g) rfl (fun _ => Nat.le_of_ble_eq_true rfl) (by omega) rfl (ef_X12_number (d := d + 2) (h := h) g hk267) rfl ?_
            change am_At _ _ _ 219 [_, _, _, _] [_, _, _] _ _
            refine am_iast dX12_clause_219 (am_ia.row (sh_63 g) (by omega) (am_vlt (am_lit hg266))) (am_lit rfl) ?_
            refine am_aload_n dX12_clause_220 rfl ?_
            refine am_iconst 1 (v := 1) dX12_clause_221 (by decide) ?_
            refine am_aload_n dX12_clause_222 rfl ?_
            refine am_aload_n dX12_clause_223 rfl ?_
            refine am_iconst 0 (v := 0) dX12_clause_224 (by decide) ?_
            refine am_iald dX12_clause_225 (am_ia.row (sh_63 g) (by omega) (am_vlt (am_lit hg266))) (am_lit rfl) ?_
            refine am_aload_n dX12_clause_226 rfl ?_
            refine am_getR 12 11 57 dX12_clause_227 fg_X12_20 (sh_54 g) (by decide) rfl (rf_54_11 g) ?_
            refine am_iconst 0 (v := 0) dX12_clause_230 (by decide) ?_
            refine am_iald dX12_clause_231 (am_ia.one (sh_57 g)) (am_lit rfl) ?_
            refine am_iconst 1 (v := 1) dX12_clause_232 (by decide) ?_
            refine am_isub dX12_clause_233 ?_
            obtain ⟨⟨v268, M268⟩, hk268, hyp⟩ := bd_some hyp
            try dsimp only at hyp
            refine am_callV [_, _] dX12_clause_234 ml_X12_171 vm_X12_number (sh_54 g) rfl (fun _ => Nat.le_of_ble_eq_true rfl) (by omega) rfl (ef_X12_number (d := d + 2) (h := h) g hk268) rfl ?_
            change am_At _ _ _ 237 [_, _, _, _] [_, _, _] _ _
            refine am_iast dX12_clause_237 (am_ia.row (sh_63 g) (by omega) (am_vlt (am_lit hg266))) (am_lit rfl) ?_
            refine am_aload_n dX12_clause_238 rfl ?_
            refine am_iconst 2 (v := 2) dX12_clause_239 (by decide) ?_
            refine am_aload_n dX12_clause_240 rfl ?_
            refine am_iconst 1 (v := 1) dX12_clause_241 (by decide) ?_
            refine am_bipush 40 (v := 40) dX12_clause_242 (by decide) ?_
            obtain ⟨⟨v269, M269⟩, hk269, hyp⟩ := bd_some hyp
            try dsimp only at hyp
            refine am_callV [_, _] dX12_clause_244 ml_X12_171 vm_X12_number (sh_54 g) rfl (fun _ => Nat.le_of_ble_eq_true rfl) (by omega) rfl (ef_X12_number (d := d + 2) (h := h) g hk269) rfl ?_
            change am_At _ _ _ 247 [_, _, _, _] [_, _, _] _ _
            refine am_iast dX12_clause_247 (am_ia.row (sh_63 g) (by omega) (am_vlt (am_lit hg266))) (am_lit rfl) ?_
            refine am_goto (77) 325 dX12_clause_248 rfl ?_
            refine am_iload_n dX12_clause_325 rfl ?_
            refine am_iconst 3 (v := 3) dX12_clause_326 (by decide) ?_
            refine am_icmp_ge (24) 351 dX12_clause_327 rfl ?_ ?_
            · intro hc270
              have hc270 : (3 : Int32) ≤ v1 := hc270
              replace hyp := it_pos hc270 hyp
              refine am_aload_n dX12_clause_351 rfl ?_
              refine am_bipush 59 (v := 59) dX12_clause_352 (by decide) ?_
              obtain ⟨M271, hk271, hyp⟩ := bd_some hyp
              try dsimp only at hyp
              refine am_callV [_] dX12_clause_354 ml_X12_175 vm_X12_sign (sh_54 g) rfl (fun _ => Nat.le_of_ble_eq_true rfl) (by omega) rfl (ef_X12_sign (d := d + 2) (h := h) g hk271) rfl ?_
              change am_At _ _ _ 357 [_, _, _, _] [] _ _
              cases hyp
              exact am_vret dX12_clause_357 rfl
            · intro hc270n
              have hc270n : ¬ ((3 : Int32) ≤ v1) := hc270n
              replace hyp := it_neg hc270n hyp
              refine am_aload_n dX12_clause_330 rfl ?_
              refine am_getR 12 11 57 dX12_clause_331 fg_X12_20 (sh_54 g) (by decide) rfl (rf_54_11 g) ?_
              refine am_iload_n dX12_clause_334 rfl ?_
              refine am_dup2 dX12_clause_335 (fun _ => rfl) (fun _ => rfl) ?_
              obtain ⟨hg272, hyp⟩ := gd_some hyp
              refine am_iald dX12_clause_336 (am_ia.one (sh_57 g)) (am_lit hg272) ?_
              refine am_aload_n dX12_clause_337 rfl ?_
              refine am_getI 12 5 dX12_clause_338 fg_X12_119 (sh_54 g) (by decide) rfl ?_
              refine am_if_ne (7) 348 dX12_clause_341 rfl ?_ ?_
              · intro hc273n
                have hc273n : ¬ ((M269 54 0 5) = 0) := hc273n
                replace hyp := it_neg hc273n hyp
                refine am_iconst 0 (v := 0) dX12_clause_348 (by decide) ?_
                refine am_iadd dX12_clause_349 ?_
                refine am_iast dX12_clause_350 (am_ia.one (sh_57 g)) (am_lit hg272) ?_
                refine am_aload_n dX12_clause_351 rfl ?_
                refine am_bipush 59 (v := 59) dX12_clause_352 (by decide) ?_
                obtain ⟨M274, hk274, hyp⟩ := bd_some hyp
                try dsimp only at hyp
                refine am_callV [_] dX12_clause_354 ml_X12_175 vm_X12_sign (sh_54 g) rfl (fun _ => Nat.le_of_ble_eq_true rfl) (by omega) rfl (ef_X12_sign (d := d + 2) (h := h) g hk274) rfl ?_
                change am_At _ _ _ 357 [_, _, _, _] [] _ _
                cases hyp
                exact am_vret dX12_clause_357 rfl
              · intro hc273
                have hc273 : (M269 54 0 5) = 0 := hc273
                replace hyp := it_pos hc273 hyp
                refine am_iconst 1 (v := 1) dX12_clause_344 (by decide) ?_
                refine am_goto (4) 349 dX12_clause_345 rfl ?_
                refine am_iadd dX12_clause_349 ?_
                refine am_iast dX12_clause_350 (am_ia.one (sh_57 g)) (am_lit hg272) ?_
                refine am_aload_n dX12_clause_351 rfl ?_
                refine am_bipush 59 (v := 59) dX12_clause_352 (by decide) ?_
                obtain ⟨M275, hk275, hyp⟩ := bd_some hyp
                try dsimp only at hyp
                refine am_callV [_] dX12_clause_354 ml_X12_175 vm_X12_sign (sh_54 g) rfl (fun _ => Nat.le_of_ble_eq_true rfl) (by omega) rfl (ef_X12_sign (d := d + 2) (h := h) g hk275) rfl ?_
                change am_At _ _ _ 357 [_, _, _, _] [] _ _
                cases hyp
                exact am_vret dX12_clause_357 rfl
          · have hc265n := hc265
            replace hyp := it_neg hc265n hyp
            by_cases hc276 : v1 = (3 : Int32)
            · refine am_tabIn (221) 292 dX12_clause_71 (by rw [hc276]; decide) (by rw [hc276]; decide) (by rw [hc276]; rfl) rfl ?_
              replace hyp := it_pos hc276 hyp
              refine am_aload_n dX12_clause_292 rfl ?_
              refine am_iload_n dX12_clause_293 rfl ?_
              refine am_iconst 3 (v := 3) dX12_clause_294 (by decide) ?_
              refine am_icmp_neF (7) 302 dX12_clause_295 rfl hc276 ?_
              refine am_iconst 1 (v := 1) dX12_clause_298 (by decide) ?_
              refine am_goto (4) 303 dX12_clause_299 rfl ?_
              refine am_iconst 4 (v := 4) dX12_clause_303 (by decide) ?_
              obtain ⟨⟨v277, M277⟩, hk277, hyp⟩ := bd_some hyp
              try dsimp only at hyp
              refine am_callV [_, _] dX12_clause_304 ml_X12_171 vm_X12_number (sh_54 g) rfl (fun _ => Nat.le_of_ble_eq_true rfl) (by omega) rfl (ef_X12_number (d := d + 2) (h := h) g hk277) rfl ?_
              change am_At _ _ _ 307 [_, _, _, _] [_] _ _
              refine am_istore_n dX12_clause_307 (am_lb rfl) ?_
              change am_At _ _ _ 308 [_, _, _, _] [] _ _
              refine am_aload_n dX12_clause_308 rfl ?_
              refine am_getI 12 5 dX12_clause_309 fg_X12_119 (sh_54 g) (by decide) rfl ?_
              refine am_if_ne (13) 325 dX12_clause_312 rfl ?_ ?_
              · intro hc278n
                have hc278n : ¬ ((M277 54 0 5) = 0) := hc278n
                replace hyp := it_neg hc278n hyp
                refine am_iload_n dX12_clause_325 rfl ?_
                refine am_iconst 3 (v := 3) dX12_clause_326 (by decide) ?_
                refine am_icmp_ge (24) 351 dX12_clause_327 rfl ?_ ?_
                · intro hc279
                  have hc279 : (3 : Int32) ≤ v1 := hc279
                  replace hyp := it_pos hc279 hyp
                  refine am_aload_n dX12_clause_351 rfl ?_
                  refine am_bipush 59 (v := 59) dX12_clause_352 (by decide) ?_
                  obtain ⟨M280, hk280, hyp⟩ := bd_some hyp
                  try dsimp only at hyp
                  refine am_callV [_] dX12_clause_354 ml_X12_175 vm_X12_sign (sh_54 g) rfl (fun _ => Nat.le_of_ble_eq_true rfl) (by omega) rfl (ef_X12_sign (d := d + 2) (h := h) g hk280) rfl ?_
                  change am_At _ _ _ 357 [_, _, _, _] [] _ _
                  cases hyp
                  exact am_vret dX12_clause_357 rfl
                · intro hc279n
                  have hc279n : ¬ ((3 : Int32) ≤ v1) := hc279n
                  replace hyp := it_neg hc279n hyp
                  refine am_aload_n dX12_clause_330 rfl ?_
                  refine am_getR 12 11 57 dX12_clause_331 fg_X12_20 (sh_54 g) (by decide) rfl (rf_54_11 g) ?_
                  refine am_iload_n dX12_clause_334 rfl ?_
                  refine am_dup2 dX12_clause_335 (fun _ => rfl) (fun _ => rfl) ?_
                  obtain ⟨hg281, hyp⟩ := gd_some hyp
                  refine am_iald dX12_clause_336 (am_ia.one (sh_57 g)) (am_lit hg281) ?_
                  refine am_aload_n dX12_clause_337 rfl ?_
                  refine am_getI 12 5 dX12_clause_338 fg_X12_119 (sh_54 g) (by decide) rfl ?_
                  refine am_if_neT (7) 348 dX12_clause_341 rfl hc278n ?_
                  refine am_iconst 0 (v := 0) dX12_clause_348 (by decide) ?_
                  refine am_iadd dX12_clause_349 ?_
                  refine am_iast dX12_clause_350 (am_ia.one (sh_57 g)) (am_lit hg281) ?_
                  refine am_aload_n dX12_clause_351 rfl ?_
                  refine am_bipush 59 (v := 59) dX12_clause_352 (by decide) ?_
                  obtain ⟨M282, hk282, hyp⟩ := bd_some hyp
                  try dsimp only at hyp
                  refine am_callV [_] dX12_clause_354 ml_X12_175 vm_X12_sign (sh_54 g) rfl (fun _ => Nat.le_of_ble_eq_true rfl) (by omega) rfl (ef_X12_sign (d := d + 2) (h := h) g hk282) rfl ?_
                  change am_At _ _ _ 357 [_, _, _, _] [] _ _
                  cases hyp
                  exact am_vret dX12_clause_357 rfl
              · intro hc278
                have hc278 : (M277 54 0 5) = 0 := hc278
                replace hyp := it_pos hc278 hyp
                refine am_aload_n dX12_clause_315 rfl ?_
                refine am_getR 12 11 57 dX12_clause_316 fg_X12_20 (sh_54 g) (by decide) rfl (rf_54_11 g) ?_
                refine am_iload_n dX12_clause_319 rfl ?_
                refine am_iload_n dX12_clause_320 rfl ?_
                obtain ⟨hg283, hyp⟩ := gd_some hyp
                refine am_iast dX12_clause_321 (am_ia.one (sh_57 g)) (am_lit hg283) ?_
                refine am_goto (3) 325 dX12_clause_322 rfl ?_
                refine am_iload_n dX12_clause_325 rfl ?_
                refine am_iconst 3 (v := 3) dX12_clause_326 (by decide) ?_
                refine am_icmp_ge (24) 351 dX12_clause_327 rfl ?_ ?_
                · intro hc284
                  have hc284 : (3 : Int32) ≤ v1 := hc284
                  replace hyp := it_pos hc284 hyp
                  refine am_aload_n dX12_clause_351 rfl ?_
                  refine am_bipush 59 (v := 59) dX12_clause_352 (by decide) ?_
                  obtain ⟨M285, hk285, hyp⟩ := bd_some hyp
                  try dsimp only at hyp
                  refine am_callV [_] dX12_clause_354 ml_X12_175 vm_X12_sign (sh_54 g) rfl (fun _ => Nat.le_of_ble_eq_true rfl) (by omega) rfl (ef_X12_sign (d := d + 2) (h := h) g hk285) rfl ?_
                  change am_At _ _ _ 357 [_, _, _, _] [] _ _
                  cases hyp
                  exact am_vret dX12_clause_357 rfl
                · intro hc284n
                  have hc284n : ¬ ((3 : Int32) ≤ v1) := hc284n
                  replace hyp := it_neg hc284n hyp
                  refine am_aload_n dX12_clause_330 rfl ?_
                  refine am_getR 12 11 57 dX12_clause_331 fg_X12_20 (sh_54 g) (by decide) rfl (rf_54_11 g) ?_
                  refine am_iload_n dX12_clause_334 rfl ?_
                  refine am_dup2 dX12_clause_335 (fun _ => rfl) (fun _ => rfl) ?_
                  refine am_iald dX12_clause_336 (am_ia.one (sh_57 g)) (am_lit hg283) ?_
                  refine am_aload_n dX12_clause_337 rfl ?_
                  refine am_getI 12 5 dX12_clause_338 fg_X12_119 (sh_54 g) (by decide) rfl ?_
                  refine am_if_neF (7) 348 dX12_clause_341 rfl hc278 ?_
                  refine am_iconst 1 (v := 1) dX12_clause_344 (by decide) ?_
                  refine am_goto (4) 349 dX12_clause_345 rfl ?_
                  refine am_iadd dX12_clause_349 ?_
                  refine am_iast dX12_clause_350 (am_ia.one (sh_57 g)) (am_lit hg283) ?_
                  refine am_aload_n dX12_clause_351 rfl ?_
                  refine am_bipush 59 (v := 59) dX12_clause_352 (by decide) ?_
                  obtain ⟨M286, hk286, hyp⟩ := bd_some hyp
                  try dsimp only at hyp
                  refine am_callV [_] dX12_clause_354 ml_X12_175 vm_X12_sign (sh_54 g) rfl (fun _ => Nat.le_of_ble_eq_true rfl) (by omega) rfl (ef_X12_sign (d := d + 2) (h := h) g hk286) rfl ?_
                  change am_At _ _ _ 357 [_, _, _, _] [] _ _
                  cases hyp
                  exact am_vret dX12_clause_357 rfl
            · have hc276n := hc276
              replace hyp := it_neg hc276n hyp
              by_cases hc287 : v1 = (4 : Int32)
              · refine am_tabIn (221) 292 dX12_clause_71 (by rw [hc287]; decide) (by rw [hc287]; decide) (by rw [hc287]; rfl) rfl ?_
                replace hyp := it_pos hc287 hyp
                refine am_aload_n dX12_clause_292 rfl ?_
                refine am_iload_n dX12_clause_293 rfl ?_
                refine am_iconst 3 (v := 3) dX12_clause_294 (by decide) ?_
                refine am_icmp_neT (7) 302 dX12_clause_295 rfl hc276n ?_
                refine am_iconst 0 (v := 0) dX12_clause_302 (by decide) ?_
                refine am_iconst 4 (v := 4) dX12_clause_303 (by decide) ?_
                obtain ⟨⟨v288, M288⟩, hk288, hyp⟩ := bd_some hyp
                try dsimp only at hyp
                refine am_callV [_, _] dX12_clause_304 ml_X12_171 vm_X12_number (sh_54 g) rfl (fun _ => Nat.le_of_ble_eq_true rfl) (by omega) rfl (ef_X12_number (d := d + 2) (h := h) g hk288) rfl ?_
                change am_At _ _ _ 307 [_, _, _, _] [_] _ _
                refine am_istore_n dX12_clause_307 (am_lb rfl) ?_
                change am_At _ _ _ 308 [_, _, _, _] [] _ _
                refine am_aload_n dX12_clause_308 rfl ?_
                refine am_getI 12 5 dX12_clause_309 fg_X12_119 (sh_54 g) (by decide) rfl ?_
                refine am_if_ne (13) 325 dX12_clause_312 rfl ?_ ?_
                · intro hc289n
                  have hc289n : ¬ ((M288 54 0 5) = 0) := hc289n
                  replace hyp := it_neg hc289n hyp
                  refine am_iload_n dX12_clause_325 rfl ?_
                  refine am_iconst 3 (v := 3) dX12_clause_326 (by decide) ?_
                  refine am_icmp_ge (24) 351 dX12_clause_327 rfl ?_ ?_
                  · intro hc290
                    have hc290 : (3 : Int32) ≤ v1 := hc290
                    replace hyp := it_pos hc290 hyp
                    refine am_aload_n dX12_clause_351 rfl ?_
                    refine am_bipush 59 (v := 59) dX12_clause_352 (by decide) ?_
                    obtain ⟨M291, hk291, hyp⟩ := bd_some hyp
                    try dsimp only at hyp
                    refine am_callV [_] dX12_clause_354 ml_X12_175 vm_X12_sign (sh_54 g) rfl (fun _ => Nat.le_of_ble_eq_true rfl) (by omega) rfl (ef_X12_sign (d := d + 2) (h := h) g hk291) rfl ?_
                    change am_At _ _ _ 357 [_, _, _, _] [] _ _
                    cases hyp
                    exact am_vret dX12_clause_357 rfl
                  · intro hc290n
                    have hc290n : ¬ ((3 : Int32) ≤ v1) := hc290n
                    replace hyp := it_neg hc290n hyp
                    refine am_aload_n dX12_clause_330 rfl ?_
                    refine am_getR 12 11 57 dX12_clause_331 fg_X12_20 (sh_54 g) (by decide) rfl (rf_54_11 g) ?_
                    refine am_iload_n dX12_clause_334 rfl ?_
                    refine am_dup2 dX12_clause_335 (fun _ => rfl) (fun _ => rfl) ?_
                    obtain ⟨hg292, hyp⟩ := gd_some hyp
                    refine am_iald dX12_clause_336 (am_ia.one (sh_57 g)) (am_lit hg292) ?_
                    refine am_aload_n dX12_clause_337 rfl ?_
                    refine am_getI 12 5 dX12_clause_338 fg_X12_119 (sh_54 g) (by decide) rfl ?_
                    refine am_if_neT (7) 348 dX12_clause_341 rfl hc289n ?_
                    refine am_iconst 0 (v := 0) dX12_clause_348 (by decide) ?_
                    refine am_iadd dX12_clause_349 ?_
                    refine am_iast dX12_clause_350 (am_ia.one (sh_57 g)) (am_lit hg292) ?_
                    refine am_aload_n dX12_clause_351 rfl ?_
                    refine am_bipush 59 (v := 59) dX12_clause_352 (by decide) ?_
                    obtain ⟨M293, hk293, hyp⟩ := bd_some hyp
                    try dsimp only at hyp
                    refine am_callV [_] dX12_clause_354 ml_X12_175 vm_X12_sign (sh_54 g) rfl (fun _ => Nat.le_of_ble_eq_true rfl) (by omega) rfl (ef_X12_sign (d := d + 2) (h := h) g hk293) rfl ?_
                    change am_At _ _ _ 357 [_, _, _, _] [] _ _
                    cases hyp
                    exact am_vret dX12_clause_357 rfl
                · intro hc289
                  have hc289 : (M288 54 0 5) = 0 := hc289
                  replace hyp := it_pos hc289 hyp
                  refine am_aload_n dX12_clause_315 rfl ?_
                  refine am_getR 12 11 57 dX12_clause_316 fg_X12_20 (sh_54 g) (by decide) rfl (rf_54_11 g) ?_
                  refine am_iload_n dX12_clause_319 rfl ?_
                  refine am_iload_n dX12_clause_320 rfl ?_
                  obtain ⟨hg294, hyp⟩ := gd_some hyp
                  refine am_iast dX12_clause_321 (am_ia.one (sh_57 g)) (am_lit hg294) ?_
                  refine am_goto (3) 325 dX12_clause_322 rfl ?_
                  refine am_iload_n dX12_clause_325 rfl ?_
                  refine am_iconst 3 (v := 3) dX12_clause_326 (by decide) ?_
                  refine am_icmp_ge (24) 351 dX12_clause_327 rfl ?_ ?_
                  · intro hc295
                    have hc295 : (3 : Int32) ≤ v1 := hc295
                    replace hyp := it_pos hc295 hyp
                    refine am_aload_n dX12_clause_351 rfl ?_
                    refine am_bipush 59 (v := 59) dX12_clause_352 (by decide) ?_
                    obtain ⟨M296, hk296, hyp⟩ := bd_some hyp
                    try dsimp only at hyp
                    refine am_callV [_] dX12_clause_354 ml_X12_175 vm_X12_sign (sh_54 g) rfl (fun _ => Nat.le_of_ble_eq_true rfl) (by omega) rfl (ef_X12_sign (d := d + 2) (h := h) g hk296) rfl ?_
                    change am_At _ _ _ 357 [_, _, _, _] [] _ _
                    cases hyp
                    exact am_vret dX12_clause_357 rfl
                  · intro hc295n
                    have hc295n : ¬ ((3 : Int32) ≤ v1) := hc295n
                    replace hyp := it_neg hc295n hyp
                    refine am_aload_n dX12_clause_330 rfl ?_
                    refine am_getR 12 11 57 dX12_clause_331 fg_X12_20 (sh_54 g) (by decide) rfl (rf_54_11 g) ?_
                    refine am_iload_n dX12_clause_334 rfl ?_
                    refine am_dup2 dX12_clause_335 (fun _ => rfl) (fun _ => rfl) ?_
                    refine am_iald dX12_clause_336 (am_ia.one (sh_57 g)) (am_lit hg294) ?_
                    refine am_aload_n dX12_clause_337 rfl ?_
                    refine am_getI 12 5 dX12_clause_338 fg_X12_119 (sh_54 g) (by decide) rfl ?_
                    refine am_if_neF (7) 348 dX12_clause_341 rfl hc289 ?_
                    refine am_iconst 1 (v := 1) dX12_clause_344 (by decide) ?_
                    refine am_goto (4) 349 dX12_clause_345 rfl ?_
                    refine am_iadd dX12_clause_349 ?_
                    refine am_iast dX12_clause_350 (am_ia.one (sh_57 g)) (am_lit hg294) ?_
                    refine am_aload_n dX12_clause_351 rfl ?_
                    refine am_bipush 59 (v := 59) dX12_clause_352 (by decide) ?_
                    obtain ⟨M297, hk297, hyp⟩ := bd_some hyp
                    try dsimp only at hyp
                    refine am_callV [_] dX12_clause_354 ml_X12_175 vm_X12_sign (sh_54 g) rfl (fun _ => Nat.le_of_ble_eq_true rfl) (by omega) rfl (ef_X12_sign (d := d + 2) (h := h) g hk297) rfl ?_
                    change am_At _ _ _ 357 [_, _, _, _] [] _ _
                    cases hyp
                    exact am_vret dX12_clause_357 rfl
              · have hc287n := hc287
                replace hyp := it_neg hc287n hyp
                by_cases hc298 : v1 = (5 : Int32)
                · refine am_tabIn (180) 251 dX12_clause_71 (by rw [hc298]; decide) (by rw [hc298]; decide) (by rw [hc298]; rfl) rfl ?_
                  replace hyp := it_pos hc298 hyp
                  refine am_aload_n dX12_clause_251 rfl ?_
                  refine am_iconst 0 (v := 0) dX12_clause_252 (by decide) ?_
                  refine am_aload_n dX12_clause_253 rfl ?_
                  refine am_getR 12 11 57 dX12_clause_254 fg_X12_20 (sh_54 g) (by decide) rfl (rf_54_11 g) ?_
                  refine am_iconst 0 (v := 0) dX12_clause_257 (by decide) ?_
                  refine am_iald dX12_clause_258 (am_ia.one (sh_57 g)) (am_lit rfl) ?_
                  refine am_iconst 1 (v := 1) dX12_clause_259 (by decide) ?_
                  refine am_isub dX12_clause_260 ?_
                  obtain ⟨⟨v299, M299⟩, hk299, hyp⟩ := bd_some hyp
                  try dsimp only at hyp
                  refine am_callV [_, _] dX12_clause_261 ml_X12_171 vm_X12_number (sh_54 g) rfl (fun _ => Nat.le_of_ble_eq_true rfl) (by omega) rfl (ef_X12_number (d := d + 2) (h := h) g hk299) rfl ?_
                  change am_At _ _ _ 264 [_, _, _, _] [_] _ _
                  refine am_istore_n dX12_clause_264 (am_lb rfl) ?_
                  change am_At _ _ _ 265 [_, _, _, _] [] _ _
                  refine am_aload_n dX12_clause_265 rfl ?_
                  refine am_iconst 0 (v := 0) dX12_clause_266 (by decide) ?_
                  refine am_bipush 40 (v := 40) dX12_clause_267 (by decide) ?_
                  obtain ⟨⟨v300, M300⟩, hk300, hyp⟩ := bd_some hyp
                  try dsimp only at hyp
                  refine am_callV [_, _] dX12_clause_269 ml_X12_171 vm_X12_number (sh_54 g) rfl (fun _ => Nat.le_of_ble_eq_true rfl) (by omega) rfl (ef_X12_number (d := d + 2) (h := h) g hk300) rfl ?_
                  change am_At _ _ _ 272 [_, _, _, _] [_] _ _
                  refine am_istore_n dX12_clause_272 (am_lb rfl) ?_
                  change am_At _ _ _ 273 [_, _, _, _] [] _ _
                  refine am_aload_n dX12_clause_273 rfl ?_
                  refine am_getI 12 5 dX12_clause_274 fg_X12_119 (sh_54 g) (by decide) rfl ?_
                  refine am_if_ne (48) 325 dX12_clause_277 rfl ?_ ?_
                  · intro hc301n
                    have hc301n : ¬ ((M300 54 0 5) = 0) := hc301n
                    replace hyp := it_neg hc301n hyp
                    refine am_iload_n dX12_clause_325 rfl ?_
                    refine am_iconst 3 (v := 3) dX12_clause_326 (by decide) ?_
                    refine am_icmp_ge (24) 351 dX12_clause_327 rfl ?_ ?_
                    · intro hc302
                      have hc302 : (3 : Int32) ≤ v1 := hc302
                      replace hyp := it_pos hc302 hyp
                      refine am_aload_n dX12_clause_351 rfl ?_
                      refine am_bipush 59 (v := 59) dX12_clause_352 (by decide) ?_
                      obtain ⟨M303, hk303, hyp⟩ := bd_some hyp
                      try dsimp only at hyp
                      refine am_callV [_] dX12_clause_354 ml_X12_175 vm_X12_sign (sh_54 g) rfl (fun _ => Nat.le_of_ble_eq_true rfl) (by omega) rfl (ef_X12_sign (d := d + 2) (h := h) g hk303) rfl ?_
                      change am_At _ _ _ 357 [_, _, _, _] [] _ _
                      cases hyp
                      exact am_vret dX12_clause_357 rfl
                    · intro hc302n
                      have hc302n : ¬ ((3 : Int32) ≤ v1) := hc302n
                      replace hyp := it_neg hc302n hyp
                      refine am_aload_n dX12_clause_330 rfl ?_
                      refine am_getR 12 11 57 dX12_clause_331 fg_X12_20 (sh_54 g) (by decide) rfl (rf_54_11 g) ?_
                      refine am_iload_n dX12_clause_334 rfl ?_
                      refine am_dup2 dX12_clause_335 (fun _ => rfl) (fun _ => rfl) ?_
                      obtain ⟨hg304, hyp⟩ := gd_some hyp
                      refine am_iald dX12_clause_336 (am_ia.one (sh_57 g)) (am_lit hg304) ?_
                      refine am_aload_n dX12_clause_337 rfl ?_
                      refine am_getI 12 5 dX12_clause_338 fg_X12_119 (sh_54 g) (by decide) rfl ?_
                      refine am_if_neT (7) 348 dX12_clause_341 rfl hc301n ?_
                      refine am_iconst 0 (v := 0) dX12_clause_348 (by decide) ?_
                      refine am_iadd dX12_clause_349 ?_
                      refine am_iast dX12_clause_350 (am_ia.one (sh_57 g)) (am_lit hg304) ?_
                      refine am_aload_n dX12_clause_351 rfl ?_
                      refine am_bipush 59 (v := 59) dX12_clause_352 (by decide) ?_
                      obtain ⟨M305, hk305, hyp⟩ := bd_some hyp
                      try dsimp only at hyp
                      refine am_callV [_] dX12_clause_354 ml_X12_175 vm_X12_sign (sh_54 g) rfl (fun _ => Nat.le_of_ble_eq_true rfl) (by omega) rfl (ef_X12_sign (d := d + 2) (h := h) g hk305) rfl ?_
                      change am_At _ _ _ 357 [_, _, _, _] [] _ _
                      cases hyp
                      exact am_vret dX12_clause_357 rfl
                  · intro hc301
                    have hc301 : (M300 54 0 5) = 0 := hc301
                    replace hyp := it_pos hc301 hyp
                    refine am_aload_n dX12_clause_280 rfl ?_
                    refine am_getR 12 13 59 dX12_clause_281 fg_X12_28 (sh_54 g) (by decide) rfl (rf_54_13 g) ?_
                    refine am_iload_n dX12_clause_284 rfl ?_
                    obtain ⟨hg306, hyp⟩ := gd_some hyp
                    refine am_aald dX12_clause_285 (sh_59 g) (am_lit hg306) ?_
                    refine am_iconst 3 (v := 3) dX12_clause_286 (by decide) ?_
                    refine am_iload_n dX12_clause_287 rfl ?_
                    refine am_iast dX12_clause_288 (am_ia.row (sh_59 g) (by omega) (am_vlt (am_lit hg306))) (am_lit rfl) ?_
                    refine am_goto (36) 325 dX12_clause_289 rfl ?_
                    refine am_iload_n dX12_clause_325 rfl ?_
                    refine am_iconst 3 (v := 3) dX12_clause_326 (by decide) ?_
                    refine am_icmp_ge (24) 351 dX12_clause_327 rfl ?_ ?_
                    · intro hc307
                      have hc307 : (3 : Int32) ≤ v1 := hc307
                      replace hyp := it_pos hc307 hyp
                      refine am_aload_n dX12_clause_351 rfl ?_
                      refine am_bipush 59 (v := 59) dX12_clause_352 (by decide) ?_
                      obtain ⟨M308, hk308, hyp⟩ := bd_some hyp
                      try dsimp only at hyp
                      refine am_callV [_] dX12_clause_354 ml_X12_175 vm_X12_sign (sh_54 g) rfl (fun _ => Nat.le_of_ble_eq_true rfl) (by omega) rfl (ef_X12_sign (d := d + 2) (h := h) g hk308) rfl ?_
                      change am_At _ _ _ 357 [_, _, _, _] [] _ _
                      cases hyp
                      exact am_vret dX12_clause_357 rfl
                    · intro hc307n
                      have hc307n : ¬ ((3 : Int32) ≤ v1) := hc307n
                      replace hyp := it_neg hc307n hyp
                      refine am_aload_n dX12_clause_330 rfl ?_
                      refine am_getR 12 11 57 dX12_clause_331 fg_X12_20 (sh_54 g) (by decide) rfl (rf_54_11 g) ?_
                      refine am_iload_n dX12_clause_334 rfl ?_
                      refine am_dup2 dX12_clause_335 (fun _ => rfl) (fun _ => rfl) ?_
                      obtain ⟨hg309, hyp⟩ := gd_some hyp
                      refine am_iald dX12_clause_336 (am_ia.one (sh_57 g)) (am_lit hg309) ?_
                      refine am_aload_n dX12_clause_337 rfl ?_
                      refine am_getI 12 5 dX12_clause_338 fg_X12_119 (sh_54 g) (by decide) rfl ?_
                      refine am_if_neF (7) 348 dX12_clause_341 rfl hc301 ?_
                      refine am_iconst 1 (v := 1) dX12_clause_344 (by decide) ?_
                      refine am_goto (4) 349 dX12_clause_345 rfl ?_
                      refine am_iadd dX12_clause_349 ?_
                      refine am_iast dX12_clause_350 (am_ia.one (sh_57 g)) (am_lit hg309) ?_
                      refine am_aload_n dX12_clause_351 rfl ?_
                      refine am_bipush 59 (v := 59) dX12_clause_352 (by decide) ?_
                      obtain ⟨M310, hk310, hyp⟩ := bd_some hyp
                      try dsimp only at hyp
                      refine am_callV [_] dX12_clause_354 ml_X12_175 vm_X12_sign (sh_54 g) rfl (fun _ => Nat.le_of_ble_eq_true rfl) (by omega) rfl (ef_X12_sign (d := d + 2) (h := h) g hk310) rfl ?_
                      change am_At _ _ _ 357 [_, _, _, _] [] _ _
                      cases hyp
                      exact am_vret dX12_clause_357 rfl
                · have hc298n := hc298
                  replace hyp := it_neg hc298n hyp
                  refine am_tabOut 292 dX12_clause_71 (by have q0 := lv_neT (a := 0) hc244n (by decide); have q1 := lv_neT (a := 1) hc255n (by decide); have q2 := lv_neT (a := 2) hc265n (by decide); have q3 := lv_neT (a := 3) hc276n (by decide); have q4 := lv_neT (a := 4) hc287n (by decide); have q5 := lv_neT (a := 5) hc298n (by decide); omega) rfl ?_
                  refine am_aload_n dX12_clause_292 rfl ?_
                  refine am_iload_n dX12_clause_293 rfl ?_
                  refine am_iconst 3 (v := 3) dX12_clause_294 (by decide) ?_
                  refine am_icmp_neT (7) 302 dX12_clause_295 rfl hc276n ?_
                  refine am_iconst 0 (v := 0) dX12_clause_302 (by decide) ?_
                  refine am_iconst 4 (v := 4) dX12_clause_303 (by decide) ?_
                  obtain ⟨⟨v311, M311⟩, hk311, hyp⟩ := bd_some hyp
                  try dsimp only at hyp
                  refine am_callV [_, _] dX12_clause_304 ml_X12_171 vm_X12_number (sh_54 g) rfl (fun _ => Nat.le_of_ble_eq_true rfl) (by omega) rfl (ef_X12_number (d := d + 2) (h := h) g hk311) rfl ?_
                  change am_At _ _ _ 307 [_, _, _, _] [_] _ _
                  refine am_istore_n dX12_clause_307 (am_lb rfl) ?_
                  change am_At _ _ _ 308 [_, _, _, _] [] _ _
                  refine am_aload_n dX12_clause_308 rfl ?_
                  refine am_getI 12 5 dX12_clause_309 fg_X12_119 (sh_54 g) (by decide) rfl ?_
                  refine am_if_ne (13) 325 dX12_clause_312 rfl ?_ ?_
                  · intro hc312n
                    have hc312n : ¬ ((M311 54 0 5) = 0) := hc312n
                    replace hyp := it_neg hc312n hyp
                    refine am_iload_n dX12_clause_325 rfl ?_
                    refine am_iconst 3 (v := 3) dX12_clause_326 (by decide) ?_
                    refine am_icmp_ge (24) 351 dX12_clause_327 rfl ?_ ?_
                    · intro hc313
                      have hc313 : (3 : Int32) ≤ v1 := hc313
                      replace hyp := it_pos hc313 hyp
                      refine am_aload_n dX12_clause_351 rfl ?_
                      refine am_bipush 59 (v := 59) dX12_clause_352 (by decide) ?_
                      obtain ⟨M314, hk314, hyp⟩ := bd_some hyp
                      try dsimp only at hyp
                      refine am_callV [_] dX12_clause_354 ml_X12_175 vm_X12_sign (sh_54 g) rfl (fun _ => Nat.le_of_ble_eq_true rfl) (by omega) rfl (ef_X12_sign (d := d + 2) (h := h) g hk314) rfl ?_
                      change am_At _ _ _ 357 [_, _, _, _] [] _ _
                      cases hyp
                      exact am_vret dX12_clause_357 rfl
                    · intro hc313n
                      have hc313n : ¬ ((3 : Int32) ≤ v1) := hc313n
                      replace hyp := it_neg hc313n hyp
                      refine am_aload_n dX12_clause_330 rfl ?_
                      refine am_getR 12 11 57 dX12_clause_331 fg_X12_20 (sh_54 g) (by decide) rfl (rf_54_11 g) ?_
                      refine am_iload_n dX12_clause_334 rfl ?_
                      refine am_dup2 dX12_clause_335 (fun _ => rfl) (fun _ => rfl) ?_
                      obtain ⟨hg315, hyp⟩ := gd_some hyp
                      refine am_iald dX12_clause_336 (am_ia.one (sh_57 g)) (am_lit hg315) ?_
                      refine am_aload_n dX12_clause_337 rfl ?_
                      refine am_getI 12 5 dX12_clause_338 fg_X12_119 (sh_54 g) (by decide) rfl ?_
                      refine am_if_neT (7) 348 dX12_clause_341 rfl hc312n ?_
                      refine am_iconst 0 (v := 0) dX12_clause_348 (by decide) ?_
                      refine am_iadd dX12_clause_349 ?_
                      refine am_iast dX12_clause_350 (am_ia.one (sh_57 g)) (am_lit hg315) ?_
                      refine am_aload_n dX12_clause_351 rfl ?_
                      refine am_bipush 59 (v := 59) dX12_clause_352 (by decide) ?_
                      obtain ⟨M316, hk316, hyp⟩ := bd_some hyp
                      try dsimp only at hyp
                      refine am_callV [_] dX12_clause_354 ml_X12_175 vm_X12_sign (sh_54 g) rfl (fun _ => Nat.le_of_ble_eq_true rfl) (by omega) rfl (ef_X12_sign (d := d + 2) (h := h) g hk316) rfl ?_
                      change am_At _ _ _ 357 [_, _, _, _] [] _ _
                      cases hyp
                      exact am_vret dX12_clause_357 rfl
                  · intro hc312
                    have hc312 : (M311 54 0 5) = 0 := hc312
                    replace hyp := it_pos hc312 hyp
                    refine am_aload_n dX12_clause_315 rfl ?_
                    refine am_getR 12 11 57 dX12_clause_316 fg_X12_20 (sh_54 g) (by decide) rfl (rf_54_11 g) ?_
                    refine am_iload_n dX12_clause_319 rfl ?_
                    refine am_iload_n dX12_clause_320 rfl ?_
                    obtain ⟨hg317, hyp⟩ := gd_some hyp
                    refine am_iast dX12_clause_321 (am_ia.one (sh_57 g)) (am_lit hg317) ?_
                    refine am_goto (3) 325 dX12_clause_322 rfl ?_
                    refine am_iload_n dX12_clause_325 rfl ?_
                    refine am_iconst 3 (v := 3) dX12_clause_326 (by decide) ?_
                    refine am_icmp_ge (24) 351 dX12_clause_327 rfl ?_ ?_
                    · intro hc318
                      have hc318 : (3 : Int32) ≤ v1 := hc318
                      replace hyp := it_pos hc318 hyp
                      refine am_aload_n dX12_clause_351 rfl ?_
                      refine am_bipush 59 (v := 59) dX12_clause_352 (by decide) ?_
                      obtain ⟨M319, hk319, hyp⟩ := bd_some hyp
                      try dsimp only at hyp
                      refine am_callV [_] dX12_clause_354 ml_X12_175 vm_X12_sign (sh_54 g) rfl (fun _ => Nat.le_of_ble_eq_true rfl) (by omega) rfl (ef_X12_sign (d := d + 2) (h := h) g hk319) rfl ?_
                      change am_At _ _ _ 357 [_, _, _, _] [] _ _
                      cases hyp
                      exact am_vret dX12_clause_357 rfl
                    · intro hc318n
                      have hc318n : ¬ ((3 : Int32) ≤ v1) := hc318n
                      replace hyp := it_neg hc318n hyp
                      refine am_aload_n dX12_clause_330 rfl ?_
                      refine am_getR 12 11 57 dX12_clause_331 fg_X12_20 (sh_54 g) (by decide) rfl (rf_54_11 g) ?_
                      refine am_iload_n dX12_clause_334 rfl ?_
                      refine am_dup2 dX12_clause_335 (fun _ => rfl) (fun _ => rfl) ?_
                      refine am_iald dX12_clause_336 (am_ia.one (sh_57 g)) (am_lit hg317) ?_
                      refine am_aload_n dX12_clause_337 rfl ?_
                      refine am_getI 12 5 dX12_clause_338 fg_X12_119 (sh_54 g) (by decide) rfl ?_
                      refine am_if_neF (7) 348 dX12_clause_341 rfl hc312 ?_
                      refine am_iconst 1 (v := 1) dX12_clause_344 (by decide) ?_
                      refine am_goto (4) 349 dX12_clause_345 rfl ?_
                      refine am_iadd dX12_clause_349 ?_
                      refine am_iast dX12_clause_350 (am_ia.one (sh_57 g)) (am_lit hg317) ?_
                      refine am_aload_n dX12_clause_351 rfl ?_
                      refine am_bipush 59 (v := 59) dX12_clause_352 (by decide) ?_
                      obtain ⟨M320, hk320, hyp⟩ := bd_some hyp
                      try dsimp only at hyp
                      refine am_callV [_] dX12_clause_354 ml_X12_175 vm_X12_sign (sh_54 g) rfl (fun _ => Nat.le_of_ble_eq_true rfl) (by omega) rfl (ef_X12_sign (d := d + 2) (h := h) g hk320) rfl ?_
                      change am_At _ _ _ 357 [_, _, _, _] [] _ _
                      cases hyp
                      exact am_vret dX12_clause_357 rfl
    · intro hc242n
      have hc242n : ¬ (((f_X12_wrong (1 : Int32) (M1 54 0 4) M1) 54 0 5) = 0) := hc242n
      replace hyp := it_neg hc242n hyp
      cases hyp
      exact am_vret dX12_clause_55 rfl
