theorem fillM_0 (M : Nat → Nat → Nat → Int32) (c : Nat) (v : Int32) : fillM M c 0 v = M := by
  funext c' r j
  unfold fillM
  rw [if_neg (by omega)]
theorem fillM_s (M : Nat → Nat → Nat → Int32) (c n : Nat) (v : Int32) : fillM M c (n + 1) v = am_u3 (fillM M c n v) c 0 n v := by
  funext c' r j
  simp only [fillM, am_u3]
  by_cases h : c' = c ∧ r = 0 ∧ j = n
  · rw [if_pos (by omega), if_pos h]
  · rw [if_neg h]
    by_cases h2 : c' = c ∧ r = 0 ∧ j < n
    · rw [if_pos h2, if_pos (by omega)]
    · rw [if_neg h2, if_neg (by omega)]
theorem ev_bitCount {d : Nat} {h : am_H} {a0 : Int32} : am_Ev (d + 0) mJ6_bitCount_0f7a4 [am_I a0] h (.inl (some (am_I ((((((((a0 - (((a0.toUInt32 >>> ((1 : Int32).toUInt32 &&& Int32.toUInt32 31)).toInt32) &&& (1431655765 : Int32))) &&& (858993459 : Int32)) + ((((a0 - (((a0.toUInt32 >>> ((1 : Int32).toUInt32 &&& Int32.toUInt32 31)).toInt32) &&& (1431655765 : Int32))).toUInt32 >>> ((2 : Int32).toUInt32 &&& Int32.toUInt32 31)).toInt32) &&& (858993459 : Int32))) + (((((a0 - (((a0.toUInt32 >>> ((1 : Int32).toUInt32 &&& Int32.toUInt32 31)).toInt32) &&& (1431655765 : Int32))) &&& (858993459 : Int32)) + ((((a0 - (((a0.toUInt32 >>> ((1 : Int32).toUInt32 &&& Int32.toUInt32 31)).toInt32) &&& (1431655765 : Int32))).toUInt32 >>> ((2 : Int32).toUInt32 &&& Int32.toUInt32 31)).toInt32) &&& (858993459 : Int32))).toUInt32 >>> ((4 : Int32).toUInt32 &&& Int32.toUInt32 31)).toInt32)) &&& (252645135 : Int32)) + (((((((a0 - (((a0.toUInt32 >>> ((1 : Int32).toUInt32 &&& Int32.toUInt32 31)).toInt32) &&& (1431655765 : Int32))) &&& (858993459 : Int32)) + ((((a0 - (((a0.toUInt32 >>> ((1 : Int32).toUInt32 &&& Int32.toUInt32 31)).toInt32) &&& (1431655765 : Int32))).toUInt32 >>> ((2 : Int32).toUInt32 &&& Int32.toUInt32 31)).toInt32) &&& (858993459 : Int32))) + (((((a0 - (((a0.toUInt32 >>> ((1 : Int32).toUInt32 &&& Int32.toUInt32 31)).toInt32) &&& (1431655765 : Int32))) &&& (858993459 : Int32)) + ((((a0 - (((a0.toUInt32 >>> ((1 : Int32).toUInt32 &&& Int32.toUInt32 31)).toInt32) &&& (1431655765 : Int32))).toUInt32 >>> ((2 : Int32).toUInt32 &&& Int32.toUInt32 31)).toInt32) &&& (858993459 : Int32))).toUInt32 >>> ((4 : Int32).toUInt32 &&& Int32.toUInt32 31)).toInt32)) &&& (252645135 : Int32)).toUInt32 >>> ((8 : Int32).toUInt32 &&& Int32.toUInt32 31)).toInt32)) + ((((((((a0 - (((a0.toUInt32 >>> ((1 : Int32).toUInt32 &&& Int32.toUInt32 31)).toInt32) &&& (1431655765 : Int32))) &&& (858993459 : Int32)) + ((((a0 - (((a0.toUInt32 >>> ((1 : Int32).toUInt32 &&& Int32.toUInt32 31)).toInt32) &&& (1431655765 : Int32))).toUInt32 >>> ((2 : Int32).toUInt32 &&& Int32.toUInt32 31)).toInt32) &&& (858993459 : Int32))) + (((((a0 - (((a0.toUInt32 >>> ((1 : Int32).toUInt32 &&& Int32.toUInt32 31)).toInt32) &&& (1431655765 : Int32))) &&& (858993459 : Int32)) + ((((a0 - (((a0.toUInt32 >>> ((1 : Int32).toUInt32 &&& Int32.toUInt32 31)).toInt32) &&& (1431655765 : Int32))).toUInt32 >>> ((2 : Int32).toUInt32 &&& Int32.toUInt32 31)).toInt32) &&& (858993459 : Int32))).toUInt32 >>> ((4 : Int32).toUInt32 &&& Int32.toUInt32 31)).toInt32)) &&& (252645135 : Int32)) + (((((((a0 - (((a0.toUInt32 >>> ((1 : Int32).toUInt32 &&& Int32.toUInt32 31)).toInt32) &&& (1431655765 : Int32))) &&& (858993459 : Int32)) + ((((a0 - (((a0.toUInt32 >>> ((1 : Int32).toUInt32 &&& Int32.toUInt32 31)).toInt32) &&& (1431655765 : Int32))).toUInt32 >>> ((2 : Int32).toUInt32 &&& Int32.toUInt32 31)).toInt32) &&& (858993459 : Int32))) + (((((a0 - (((a0.toUInt32 >>> ((1 : Int32).toUInt32 &&& Int32.toUInt32 31)).toInt32) &&& (1431655765 : Int32))) &&& (858993459 : Int32)) + ((((a0 - (((a0.toUInt32 >>> ((1 : Int32).toUInt32 &&& Int32.toUInt32 31)).toInt32) &&& (1431655765 : Int32))).toUInt32 >>> ((2 : Int32).toUInt32 &&& Int32.toUInt32 31)).toInt32) &&& (858993459 : Int32))).toUInt32 >>> ((4 : Int32).toUInt32 &&& Int32.toUInt32 31)).toInt32)) &&& (252645135 : Int32)).toUInt32 >>> ((8 : Int32).toUInt32 &&& Int32.toUInt32 31)).toInt32)).toUInt32 >>> ((16 : Int32).toUInt32 &&& Int32.toUInt32 31)).toInt32)) &&& (63 : Int32))), h)) := by
  refine am_Ev.mk (by decide +kernel) rfl rfl (Nat.le_refl _) (Nat.le_refl _) ?_
  change am_At _ _ _ 0 [_] [] _ _
  refine am_iload_n dJ6_bitCount_0f7a4_0 rfl ?_
  refine am_iload_n dJ6_bitCount_0f7a4_1 rfl ?_
  refine am_iconst 1 (v := 1) dJ6_bitCount_0f7a4_2 (by decide) ?_
  refine am_iushr dJ6_bitCount_0f7a4_3 ?_
  refine am_ldcW dJ6_bitCount_0f7a4_4 kc_J6_265 ?_
  refine am_iand dJ6_bitCount_0f7a4_7 ?_
  refine am_isub dJ6_bitCount_0f7a4_8 ?_
  refine am_istore_n dJ6_bitCount_0f7a4_9 (am_lb rfl) ?_
  change am_At _ _ _ 10 [_] [] _ _
  refine am_iload_n dJ6_bitCount_0f7a4_10 rfl ?_
  refine am_ldcW dJ6_bitCount_0f7a4_11 kc_J6_266 ?_
  refine am_iand dJ6_bitCount_0f7a4_14 ?_
  refine am_iload_n dJ6_bitCount_0f7a4_15 rfl ?_
  refine am_iconst 2 (v := 2) dJ6_bitCount_0f7a4_16 (by decide) ?_
  refine am_iushr dJ6_bitCount_0f7a4_17 ?_
  refine am_ldcW dJ6_bitCount_0f7a4_18 kc_J6_266 ?_
  refine am_iand dJ6_bitCount_0f7a4_21 ?_
  refine am_iadd dJ6_bitCount_0f7a4_22 ?_
  refine am_istore_n dJ6_bitCount_0f7a4_23 (am_lb rfl) ?_
  change am_At _ _ _ 24 [_] [] _ _
  refine am_iload_n dJ6_bitCount_0f7a4_24 rfl ?_
  refine am_iload_n dJ6_bitCount_0f7a4_25 rfl ?_
  refine am_iconst 4 (v := 4) dJ6_bitCount_0f7a4_26 (by decide) ?_
  refine am_iushr dJ6_bitCount_0f7a4_27 ?_
  refine am_iadd dJ6_bitCount_0f7a4_28 ?_
  refine am_ldcW dJ6_bitCount_0f7a4_29 kc_J6_267 ?_
  refine am_iand dJ6_bitCount_0f7a4_32 ?_
  refine am_istore_n dJ6_bitCount_0f7a4_33 (am_lb rfl) ?_
  change am_At _ _ _ 34 [_] [] _ _
  refine am_iload_n dJ6_bitCount_0f7a4_34 rfl ?_
  refine am_iload_n dJ6_bitCount_0f7a4_35 rfl ?_
  refine am_bipush 8 (v := 8) dJ6_bitCount_0f7a4_36 (by decide) ?_
  refine am_iushr dJ6_bitCount_0f7a4_38 ?_
  refine am_iadd dJ6_bitCount_0f7a4_39 ?_
  refine am_istore_n dJ6_bitCount_0f7a4_40 (am_lb rfl) ?_
  change am_At _ _ _ 41 [_] [] _ _
  refine am_iload_n dJ6_bitCount_0f7a4_41 rfl ?_
  refine am_iload_n dJ6_bitCount_0f7a4_42 rfl ?_
  refine am_bipush 16 (v := 16) dJ6_bitCount_0f7a4_43 (by decide) ?_
  refine am_iushr dJ6_bitCount_0f7a4_45 ?_
  refine am_iadd dJ6_bitCount_0f7a4_46 ?_
  refine am_istore_n dJ6_bitCount_0f7a4_47 (am_lb rfl) ?_
  change am_At _ _ _ 48 [_] [] _ _
  refine am_iload_n dJ6_bitCount_0f7a4_48 rfl ?_
  refine am_bipush 63 (v := 63) dJ6_bitCount_0f7a4_49 (by decide) ?_
  refine am_iand dJ6_bitCount_0f7a4_51 ?_
  exact am_iret dJ6_bitCount_0f7a4_52 rfl
theorem ev_fill {d : Nat} {h : am_H} {c n w : Nat} {v : Int32} (hs : h.1[c]? = some (100, n, w)) (hn : n < 2 ^ 31) : am_Ev (d) mJ7_fill_53178 [.inr (c, 0), am_I v] h (.inl (none, am_hM h (fillM h.2.1 c n v))) := by
  refine am_Ev.mk (by decide +kernel) rfl rfl (Nat.le_refl _) (Nat.le_refl _) ?_
  change am_At _ _ _ 0 [_, _, _, _] [] _ _
  refine am_iconst 0 (v := 0) dJ7_fill_53178_0 (by decide) ?_
  refine am_istore_n dJ7_fill_53178_1 (am_lb rfl) ?_
  change am_At _ _ _ 2 [_, _, _, _] [] _ _
  refine am_aload_n dJ7_fill_53178_2 rfl ?_
  refine am_alen dJ7_fill_53178_3 (am_ia.one (id hs)) rfl ?_
  refine am_istore_n dJ7_fill_53178_4 (am_lb rfl) ?_
  change am_At _ _ _ 5 [_, _, _, _] [] _ _
  have key := am_loop (Pr := fun k => am_At am_X0 (d) mJ7_fill_53178 5 [some (.inr (c, 0)), some (am_I v), some (am_I (nI k)), some (am_I (nI n))] [] (am_hM h (fillM h.2.1 c k v)) (.inl (none, am_hM h (fillM h.2.1 c n v)))) (n) ?_ ?_ 0 (by omega)
  · rw [fillM_0] at key
    exact key
  · refine am_iload_n dJ7_fill_53178_5 rfl ?_
    refine am_iload_n dJ7_fill_53178_6 rfl ?_
    refine am_icmp_geT (13) 20 dJ7_fill_53178_7 rfl (Int32.le_refl _) ?_
    exact am_vret dJ7_fill_53178_20 rfl
  · intro k hk ih
    refine am_iload_n dJ7_fill_53178_5 rfl ?_
    refine am_iload_n dJ7_fill_53178_6 rfl ?_
    refine am_icmp_geF (13) 20 dJ7_fill_53178_7 rfl (nI_ge hk hn) ?_
    refine am_aload_n dJ7_fill_53178_10 rfl ?_
    refine am_iload_n dJ7_fill_53178_11 rfl ?_
    refine am_iload_n dJ7_fill_53178_12 rfl ?_
    refine am_iast dJ7_fill_53178_13 (am_ia.one (id hs)) (vp_in_nI hk hn) ?_
    refine am_iinc dJ7_fill_53178_14 rfl (am_i1 k) ?_
    change am_At _ _ _ 17 [_, _, _, _] [] _ _
    refine am_goto (-12) 5 dJ7_fill_53178_17 rfl ?_
    rw [fillM_s] at ih
    refine am_At.to ?_ ih
    show am_um _ _ _ _ _ = _
    unfold am_um am_hM
    rw [nI_clamp (by omega)]
theorem am_At.drop {X : am_X} {d : Nat} {mt : am_M} {pc : Nat} {L : List (Option am_V)} {st : List am_V} {h : am_H} {r : am_R} (i : Nat) (k : am_At X d mt pc (L.set i none) st h r) : am_At X d mt pc L st h r := by
  intro p l e R s m args below meth c H locs cells slots mc ms ls D cy A ad Q hC hX hP hD hS hL h1 h2 z1 z2 hQ
  refine k p l e R s m args below meth c H locs cells slots mc ms ls D cy A ad Q hC hX hP hD hS ⟨hL.1, hL.2.1, by rw [List.length_set]; exact hL.2.2.1, fun j v hj => hL.2.2.2 j v ?_⟩ h1 h2 z1 z2 hQ
  by_cases hij : j = i
  · subst hij
    have hl : j < L.length := by
      have := (List.getElem?_eq_some_iff.mp hj).1
      rw [List.length_set] at this
      exact this
    rw [List.getElem?_set_self hl] at hj
    cases hj
  · rw [List.getElem?_set_ne (Ne.symm hij)] at hj
    exact hj
theorem am_dx (x : Int32) : x + Int32.ofInt (-1) = x - 1 := by
  rw [Int32.sub_eq_add_neg]
  rfl
theorem ev_bc {d : Nat} {h : am_H} {x : Int32} : am_Ev (d + 0) mJ6_bitCount_0f7a4 [am_I x] h (.inl (some (am_I (bcI x)), h)) := ev_bitCount
