theorem ev_mostKnockedAt {d : Nat} {h : am_H} (g : lay h) {n : Nat} (hn : h.2.1 3 0 0 = nI n) (hn16 : n ≤ 16) : am_Ev d mX6_mostKnockedAt [.inr (38, 0)] h (.inl (some (am_I (optI (mostK (h.2.1 42 0) n))), h)) := by
  refine am_Ev.mk (by decide +kernel) rfl rfl (Nat.le_refl _) (Nat.le_refl _) ?_
  change am_At _ _ _ 0 [_, _, _] [] _ _
  refine am_iconst (-1) (v := (-1)) dX6_mostKnockedAt_0 (by decide) ?_
  refine am_istore_n dX6_mostKnockedAt_1 (am_lb rfl) ?_
  change am_At _ _ _ 2 [_, _, _] [] _ _
  refine am_iconst 0 (v := 0) dX6_mostKnockedAt_2 (by decide) ?_
  refine am_istore_n dX6_mostKnockedAt_3 (am_lb rfl) ?_
  change am_At _ _ _ 4 [_, _, _] [] _ _
  have key := am_loop (Pr := fun k => am_At am_X0 d mX6_mostKnockedAt 4 [some (.inr (38, 0)), some (am_I (optI (mostK (h.2.1 42 0) k))), some (am_I (nI k))] [] h (.inl (some (am_I (optI (mostK (h.2.1 42 0) n))), h))) n ?_ ?_ 0 (by omega)
  · exact key
  · refine am_iload_n dX6_mostKnockedAt_4 rfl ?_
    refine am_aload_n dX6_mostKnockedAt_5 rfl ?_
    refine am_getR 6 0 3 dX6_mostKnockedAt_6 fg_X6_25 (sh_38 g) (by decide) rfl (rf_38_0 g) ?_
    refine am_getI 1 0 dX6_mostKnockedAt_9 fg_X6_80 (sh_3 g) (by decide) rfl ?_
    refine am_icmp_geT (35) 47 dX6_mostKnockedAt_12 rfl (by rw [hn]; exact Int32.le_refl _) ?_
    refine am_iload_n dX6_mostKnockedAt_47 rfl ?_
    exact am_iret dX6_mostKnockedAt_48 rfl
  · intro k hk ih
    have hcl : (nI k).toNatClampNeg = k := nI_clamp (by omega)
    have hb : ∀ i, mostK (h.2.1 42 0) k = some i → i < k := mostK_lt _ k
    have hs : mostK (h.2.1 42 0) (k + 1) = if topK (h.2.1 42 0) (mostK (h.2.1 42 0) k) < h.2.1 42 0 k then some k else mostK (h.2.1 42 0) k := rfl
    rw [hs] at ih
    refine am_iload_n dX6_mostKnockedAt_4 rfl ?_
    refine am_aload_n dX6_mostKnockedAt_5 rfl ?_
    refine am_getR 6 0 3 dX6_mostKnockedAt_6 fg_X6_25 (sh_38 g) (by decide) rfl (rf_38_0 g) ?_
    refine am_getI 1 0 dX6_mostKnockedAt_9 fg_X6_80 (sh_3 g) (by decide) rfl ?_
    refine am_icmp_geF (35) 47 dX6_mostKnockedAt_12 rfl (by rw [hn]; exact nI_ge hk (by omega)) ?_
    refine am_aload_n dX6_mostKnockedAt_15 rfl ?_
    refine am_getR 6 6 42 dX6_mostKnockedAt_16 fg_X6_22 (sh_38 g) (by decide) rfl (rf_38_6 g) ?_
    refine am_iload_n dX6_mostKnockedAt_19 rfl ?_
    refine am_iald dX6_mostKnockedAt_20 (am_ia.one (sh_42 g)) (vp_in_nI (by omega) (by omega)) ?_
    refine am_iload_n dX6_mostKnockedAt_21 rfl ?_
    refine am_iconst (-1) (v := (-1)) dX6_mostKnockedAt_22 (by decide) ?_
    rw [hcl]
    cases hm : mostK (h.2.1 42 0) k with
    | none =>
      rw [hm] at ih
      change am_At _ _ _ 23 [_, some (am_I (-1)), _] [am_I (-1), am_I (-1), _] _ _
      refine am_icmp_neF (7) 30 dX6_mostKnockedAt_23 rfl rfl ?_
      refine am_iconst 0 (v := 0) dX6_mostKnockedAt_26 (by decide) ?_
      refine am_goto (9) 36 dX6_mostKnockedAt_27 rfl ?_
      have ih := ih
      change (am_At _ _ _ _ [_, some (am_I (optI (if (0 : Int32) < _ then _ else _))), _] _ _ _) at ih
      refine am_icmp_le (5) 41 dX6_mostKnockedAt_36 rfl ?_ ?_
      · intro hc
        rw [if_neg (Int32.not_lt.mpr hc)] at ih
        refine am_iinc dX6_mostKnockedAt_41 rfl (am_i1 k) ?_
        change am_At _ _ _ 44 [_, _, _] [] _ _
        refine am_goto (-40) 4 dX6_mostKnockedAt_44 rfl ?_
        exact ih
      · intro hc
        rw [if_pos (Int32.not_le.mp hc)] at ih
        refine am_iload_n dX6_mostKnockedAt_39 rfl ?_
        refine am_istore_n dX6_mostKnockedAt_40 (am_lb rfl) ?_
        change am_At _ _ _ 41 [_, _, _] [] _ _
        refine am_iinc dX6_mostKnockedAt_41 rfl (am_i1 k) ?_
        change am_At _ _ _ 44 [_, _, _] [] _ _
        refine am_goto (-40) 4 dX6_mostKnockedAt_44 rfl ?_
        exact ih
    | some i =>
      have hi := hb i hm
      rw [hm] at ih
      have hne : ¬ nI i = -1 := fun z => by
        have e9 : (nI i).toInt = (-1 : Int32).toInt := congrArg Int32.toInt z
        rw [nI_toInt (by omega)] at e9
        have : (-1 : Int32).toInt = -1 := by decide
        omega
      change am_At _ _ _ 23 [_, some (am_I (nI i)), _] [am_I (-1), am_I (nI i), _] _ _
      refine am_icmp_neT (7) 30 dX6_mostKnockedAt_23 rfl hne ?_
      refine am_aload_n dX6_mostKnockedAt_30 rfl ?_
      refine am_getR 6 6 42 dX6_mostKnockedAt_31 fg_X6_22 (sh_38 g) (by decide) rfl (rf_38_6 g) ?_
      refine am_iload_n dX6_mostKnockedAt_34 rfl ?_
      refine am_iald dX6_mostKnockedAt_35 (am_ia.one (sh_42 g)) (vp_in_nI (by omega) (by omega)) ?_
      rw [nI_clamp (by omega)]
      change (am_At _ _ _ _ [_, some (am_I (optI (if h.2.1 42 0 i < _ then _ else _))), _] _ _ _) at ih
      refine am_icmp_le (5) 41 dX6_mostKnockedAt_36 rfl ?_ ?_
      · intro hc
        rw [if_neg (Int32.not_lt.mpr hc)] at ih
        refine am_iinc dX6_mostKnockedAt_41 rfl (am_i1 k) ?_
        change am_At _ _ _ 44 [_, _, _] [] _ _
        refine am_goto (-40) 4 dX6_mostKnockedAt_44 rfl ?_
        exact ih
      · intro hc
        rw [if_pos (Int32.not_le.mp hc)] at ih
        refine am_iload_n dX6_mostKnockedAt_39 rfl ?_
        refine am_istore_n dX6_mostKnockedAt_40 (am_lb rfl) ?_
        change am_At _ _ _ 41 [_, _, _] [] _ _
        refine am_iinc dX6_mostKnockedAt_41 rfl (am_i1 k) ?_
        change am_At _ _ _ 44 [_, _, _] [] _ _
        refine am_goto (-40) 4 dX6_mostKnockedAt_44 rfl ?_
        exact ih
theorem u2_id (r : Nat → Nat → Int32) (c j : Nat) : u2 r c j (r c j) = r := by
  funext c' j'
  simp only [u2]
  split
  next h => rw [h.1, h.2]
  next h => rfl
theorem u2_u2 (r : Nat → Nat → Int32) (c j : Nat) (v w : Int32) : u2 (u2 r c j v) c j w = u2 r c j w := by
  funext c' j'
  simp only [u2]
  split
  next h => rfl
  next h => rfl
theorem hM_ol {h : am_H} {M : Nat → Nat → Nat → Int32} {r : Nat → Nat → Int32} {c j : Nat} {v : Int32} (hc : olc c) : am_um (am_hM h (ol M r)) c 0 j v = am_hM h (ol M (u2 r c j v)) := by
  show (h.1, am_u3 (ol M r) c 0 j v, h.2.2) = _
  rw [ol_u hc]
  rfl
theorem ev_drawFrozen {d : Nat} {h : am_H} (g : lay h) {M : Nat → Nat → Nat → Int32} {r : Nat → Nat → Int32} {n : Nat} (hn : M 3 0 0 = nI n) (hn16 : n ≤ 16) {qq : Int32} : am_Ev d mX6_drawFrozen [.inr (38, 0), am_I qq] (am_hM h (ol M r)) (.inl (some (am_I (frz (r 38 9) qq n)), (am_hM h (ol M (u2 r 38 9 (seedN (r 38 9) n)))))) := by
  refine am_Ev.mk (by decide +kernel) rfl rfl (Nat.le_refl _) (Nat.le_refl _) ?_
  change am_At _ _ _ 0 [_, _, _, _, _] [] _ _
  refine am_iconst 0 (v := 0) dX6_drawFrozen_0 (by decide) ?_
  refine am_istore_n dX6_drawFrozen_1 (am_lb rfl) ?_
  change am_At _ _ _ 2 [_, _, _, _, _] [] _ _
  refine am_iconst 0 (v := 0) dX6_drawFrozen_2 (by decide) ?_
  refine am_istore_n dX6_drawFrozen_3 (am_lb rfl) ?_
  change am_At _ _ _ 4 [_, _, _, _, _] [] _ _
  have key := am_loop (Pr := fun k => am_At am_X0 d mX6_drawFrozen 4 [some (.inr (38, 0)), some (am_I qq), some (am_I (bitsN (fun b => decide (drawn (seedN (r 38 9) (b + 1)) < qq)) k)), some (am_I (nI k)), none] [] (am_hM h (ol M (u2 r 38 9 (seedN (r 38 9) k)))) (.inl (some (am_I (frz (r 38 9) qq n)), (am_hM h (ol M (u2 r 38 9 (seedN (r 38 9) n))))))) n ?_ ?_ 0 (by omega)
  · have e0 : u2 r 38 9 (seedN (r 38 9) 0) = r := u2_id r 38 9
    rw [e0] at key
    exact key
  · refine am_iload_n dX6_drawFrozen_4 rfl ?_
    refine am_aload_n dX6_drawFrozen_5 rfl ?_
    refine am_getR 6 0 3 dX6_drawFrozen_6 fg_X6_25 (sh_38 g) (by decide) rfl (rf_38_0 g) ?_
    refine am_getI 1 0 dX6_drawFrozen_9 fg_X6_80 (sh_3 g) (by decide) rfl ?_
    refine am_icmp_geT (56) 68 dX6_drawFrozen_12 rfl (by show M 3 0 0 ≤ _; rw [hn]; exact Int32.le_refl _) ?_
    refine am_iload_n dX6_drawFrozen_68 rfl ?_
    exact am_iret dX6_drawFrozen_69 rfl
  · intro k hk ih
    refine am_iload_n dX6_drawFrozen_4 rfl ?_
    refine am_aload_n dX6_drawFrozen_5 rfl ?_
    refine am_getR 6 0 3 dX6_drawFrozen_6 fg_X6_25 (sh_38 g) (by decide) rfl (rf_38_0 g) ?_
    refine am_getI 1 0 dX6_drawFrozen_9 fg_X6_80 (sh_3 g) (by decide) rfl ?_
    refine am_icmp_geF (56) 68 dX6_drawFrozen_12 rfl (by show ¬ M 3 0 0 ≤ _; rw [hn]; exact nI_ge hk (by omega)) ?_
    refine am_aload_n dX6_drawFrozen_15 rfl ?_
    refine am_aload_n dX6_drawFrozen_16 rfl ?_
    refine am_getI 6 9 dX6_drawFrozen_17 fg_X6_95 (sh_38 g) (by decide) rfl ?_
    refine am_ldcI dX6_drawFrozen_20 kc_X6_116 ?_
    refine am_imul dX6_drawFrozen_22 ?_
    refine am_sipush 12345 (v := 12345) dX6_drawFrozen_23 (by decide) ?_
    refine am_iadd dX6_drawFrozen_26 ?_
    refine am_putI 6 9 dX6_drawFrozen_27 (Or.inl fp_X6_95) (sh_38 g) (by decide) rfl rfl rfl ?_
    refine am_aload_n dX6_drawFrozen_30 rfl ?_
    refine am_getI 6 9 dX6_drawFrozen_31 fg_X6_95 (sh_38 g) (by decide) rfl ?_
    refine am_bipush 16 (v := 16) dX6_drawFrozen_34 (by decide) ?_
    refine am_iushr dX6_drawFrozen_36 ?_
    refine am_sipush 32767 (v := 32767) dX6_drawFrozen_37 (by decide) ?_
    refine am_iand dX6_drawFrozen_40 ?_
    refine am_bipush 16 (v := 16) dX6_drawFrozen_41 (by decide) ?_
    refine am_irem dX6_drawFrozen_43 (by decide) ?_
    refine am_istore dX6_drawFrozen_44 (am_lb rfl) ?_
    change am_At _ _ _ 46 [_, _, _, _, _] [] _ _
    refine am_iload_n dX6_drawFrozen_46 rfl ?_
    refine am_iload dX6_drawFrozen_47 rfl ?_
    refine am_iload_n dX6_drawFrozen_49 rfl ?_
    have e1 : am_um (am_hM h (ol M (u2 r 38 9 (seedN (r 38 9) k)))) 38 0 9 (seedN (r 38 9) k * 1103515245 + 12345) = (am_hM h (ol M (u2 r 38 9 (seedN (r 38 9) (k + 1))))) := by
      rw [hM_ol (by decide), u2_u2]
      rfl
    have e2 : (am_hM h (ol M (u2 r 38 9 (seedN (r 38 9) k)))).2.1 38 0 9 = seedN (r 38 9) k := by
      simp [am_hM, ol, u2]
    rw [e2, e1]
    have e3 : (am_hM h (ol M (u2 r 38 9 (seedN (r 38 9) (k + 1))))).2.1 38 0 9 = seedN (r 38 9) (k + 1) := by
      simp [am_hM, ol, u2]
    rw [e3]
    change am_At _ _ _ 50 _ [_, am_I (drawn (seedN (r 38 9) (k + 1))), _] _ _
    refine am_icmp_ge (9) 59 dX6_drawFrozen_50 rfl ?_ ?_
    · intro hc
      refine am_iconst 0 (v := 0) dX6_drawFrozen_59 (by decide) ?_
      refine am_ior dX6_drawFrozen_60 ?_
      refine am_istore_n dX6_drawFrozen_61 (am_lb rfl) ?_
      change am_At _ _ _ 62 [_, _, _, _, _] [] _ _
      refine am_iinc dX6_drawFrozen_62 rfl (am_i1 k) ?_
      change am_At _ _ _ 65 [_, _, _, _, _] [] _ _
      refine am_goto (-61) 4 dX6_drawFrozen_65 rfl ?_
      refine am_At.drop 4 ?_
      change am_At _ _ _ 4 [_, _, _, _, none] [] _ _
      have hd : decide (drawn (seedN (r 38 9) (k + 1)) < qq) = false := by simp [Int32.not_lt.mpr hc]
      rw [bitsN_s] at ih
      simpa [hd] using ih
    · intro hc
      refine am_iconst 1 (v := 1) dX6_drawFrozen_53 (by decide) ?_
      refine am_iload_n dX6_drawFrozen_54 rfl ?_
      refine am_ishl dX6_drawFrozen_55 ?_
      refine am_goto (4) 60 dX6_drawFrozen_56 rfl ?_
      refine am_ior dX6_drawFrozen_60 ?_
      refine am_istore_n dX6_drawFrozen_61 (am_lb rfl) ?_
      change am_At _ _ _ 62 [_, _, _, _, _] [] _ _
      refine am_iinc dX6_drawFrozen_62 rfl (am_i1 k) ?_
      change am_At _ _ _ 65 [_, _, _, _, _] [] _ _
      refine am_goto (-61) 4 dX6_drawFrozen_65 rfl ?_
      refine am_At.drop 4 ?_
      change am_At _ _ _ 4 [_, _, _, _, none] [] _ _
      have hd : decide (drawn (seedN (r 38 9) (k + 1)) < qq) = true := by simp [Int32.not_le.mp hc]
      rw [bitsN_s] at ih
      simpa [hd] using ih
