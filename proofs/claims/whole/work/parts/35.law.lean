/-- a row of numbers laid anew -/
def am_row (M : Nat → Nat → Nat → Int32) (c : Nat) (f : Nat → Int32) : Nat → Nat → Nat → Int32 := fun c' r j => if c' = c ∧ r = 0 then f j else M c' r j
theorem am_row_u (M : Nat → Nat → Nat → Int32) (c : Nat) (f : Nat → Int32) (j : Nat) (v : Int32) : am_u3 (am_row M c f) c 0 j v = am_row M c (upd f j v) := by
  funext c' r j'
  simp only [am_u3, am_row, upd]
  by_cases h : c' = c ∧ r = 0
  · by_cases h2 : j' = j
    · rw [if_pos ⟨h.1, h.2, h2⟩, if_pos h, if_pos h2]
    · rw [if_neg (fun z => h2 z.2.2), if_pos h, if_pos h, if_neg h2]
  · rw [if_neg (fun z => h ⟨z.1, z.2.1⟩), if_neg h, if_neg h]
theorem am_row_id (M : Nat → Nat → Nat → Int32) (c : Nat) : am_row M c (M c 0) = M := by
  funext c' r j'
  simp only [am_row]
  by_cases h : c' = c ∧ r = 0
  · rw [if_pos h, h.1, h.2]
  · rw [if_neg h]
theorem am_row_row (M : Nat → Nat → Nat → Int32) (c : Nat) (f g : Nat → Int32) : am_row (am_row M c f) c g = am_row M c g := by
  funext c' r j'
  simp only [am_row]
  by_cases h : c' = c ∧ r = 0
  · rw [if_pos h, if_pos h]
  · rw [if_neg h, if_neg h, if_neg h]
theorem am_At.drop {X : am_X} {d : Nat} {mt : am_M} {pc : Nat} {L : List (Option am_V)} {st : List am_V} {h : am_H} {r : am_R} (i : Nat) (k : am_At X d mt pc (L.set i none) st h r) : am_At X d mt pc L st h r := by
  intro p l e R s m args below meth c H locs cells slots mc ms ls D cy A ad Q hC hX hP hD hS hL h1 h2 z1 z2 hQ
  refine k p l e R s m args below meth c H locs cells slots mc ms ls D cy A ad Q hC hX hP hD hS ⟨hL.1, hL.2.1, by rw [List.length_set]; exact hL.2.2.1, fun j v hj => hL.2.2.2 j v ?_⟩ h1 h2 z1 z2 hQ
  by_cases hij : j = i
  · subst hij
    have hl : j < L.length := by
      have := (List.getElem?_eq_some_iff.mp hj).1
      rw [List.length_set] at this
      exact this
    rw [List.getElem?_set_self hl] at hj
    cases hj
  · rw [List.getElem?_set_ne (Ne.symm hij)] at hj
    exact hj
theorem am_dx (x : Int32) : x + Int32.ofInt (-1) = x - 1 := by
  rw [Int32.sub_eq_add_neg]
  rfl
/-- what joins two values of the LAW -/
def joinV (a0 a1 a2 : Int32) : Int32 := if a0 = (8 : Int32) then (if a2 ≤ a1 then a2 else a1) else (if a0 = (9 : Int32) then (if a1 ≤ a2 then a2 else a1) else (if a0 = (10 : Int32) then (a1 + a2) else (if a0 = (11 : Int32) then (a1 - a2) else (if a0 = (12 : Int32) then (a1 * a2) else (if a0 = (13 : Int32) then (if a2 = 0 then (0 : Int32) else (a1 / a2)) else (if a0 = (14 : Int32) then (if a2 = 0 then (0 : Int32) else (a1 - a1 / a2 * a2)) else (0 : Int32)))))))
theorem ev_join {d : Nat} {h : am_H} {a0 a1 a2 : Int32} : am_Ev (d + 0) mX3_join [am_I a0, am_I a1, am_I a2] h (.inl (some (am_I (joinV a0 a1 a2)), h)) := ev_X3_join (fun _ _ _ _ _ _ z => z) (fun _ _ _ _ _ _ _ z => z)
/-- one code of the LAW at work: t values stand on the stack S -/
def stk1 (c : Int32) (fa S : Nat → Int32) (t : Nat) : Nat → Int32 := if c < 15 then (if c < 8 then upd S t (fa c.toNatClampNeg) else upd S (t - 2) (joinV c (S (t - 2)) (S (t - 1)))) else upd S t (c - 15)
def stkN (cd fa S0 : Nat → Int32) (dp : Nat → Nat) : Nat → (Nat → Int32)
  | 0 => S0
  | k + 1 => stk1 (cd k) fa (stkN cd fa S0 dp k) (dp k)
theorem stkN_s (cd fa S0 : Nat → Int32) (dp : Nat → Nat) (k : Nat) : stkN cd fa S0 dp (k + 1) = stk1 (cd k) fa (stkN cd fa S0 dp k) (dp k) := rfl
/-- a code fits: t values ahead of it, t' behind -/
def lwf (c : Int32) (t t' : Nat) : Prop := (¬ c < 15 ∧ t < 150 ∧ t' = t + 1) ∨ (c < 15 ∧ c < 8 ∧ ¬ c < 0 ∧ t < 150 ∧ t' = t + 1) ∨ (c < 15 ∧ ¬ c < 8 ∧ 2 ≤ t ∧ t ≤ 150 ∧ t' + 1 = t)
def faM (M : Nat → Nat → Nat → Int32) (b hr fi : Int32) : Nat → Nat → Nat → Int32 := (am_u3 (am_u3 (am_u3 (am_u3 (am_u3 (am_u3 (am_u3 (am_u3 M 27 0 0 (hr - hr / (24 : Int32) * (24 : Int32))) 27 0 1 (hr / (24 : Int32))) 27 0 2 b) 27 0 3 (M 4 0 b.toNatClampNeg)) 27 0 4 (M 5 0 b.toNatClampNeg)) 27 0 5 (M 6 0 b.toNatClampNeg)) 27 0 6 (M 7 0 b.toNatClampNeg)) 27 0 7 fi)
theorem fact_in {c : Int32} (h : c < 8) (h0 : ¬ c < 0) : vp_in c 8 := by
  obtain ⟨j, hj, rfl⟩ := nI_of h0
  exact vp_in_nI (by have := (nI_ltI (a := j) (b := 8) hj (by omega)).mp h; omega) (by omega)
theorem ev_value_24 {d : Nat} {h : am_H} (g : lay h) {b hr fi : Int32} {len : Nat} {dp : Nat → Nat} (hq : h.2.2 23 0 = some 24) (hb : vp_in b 16) (hlen : h.2.1 23 0 1 = nI len) (hl150 : len ≤ 150) (hd0 : dp 0 = 0) (hwf : ∀ k, k < len → lwf (h.2.1 24 0 k) (dp k) (dp (k + 1))) : am_Ev (d + 1) mX3_value [.inr (23, 0), .inr (3, 0), am_I b, am_I hr, am_I fi] h (.inl (some (am_I ((stkN (h.2.1 24 0) ((faM h.2.1 b hr fi) 27 0) (h.2.1 26 0) dp len) 0)), am_hM h (am_row (faM h.2.1 b hr fi) 26 (stkN (h.2.1 24 0) ((faM h.2.1 b hr fi) 27 0) (h.2.1 26 0) dp len)))) := by
  have hle : h.2.1 23 0 1 ≤ nI len := by rw [hlen]; exact Int32.le_refl _
  have hgt : ∀ k, k < len → ¬ h.2.1 23 0 1 ≤ nI k := fun k hk => by rw [hlen]; exact nI_ge hk (by omega)
  refine am_Ev.mk (by decide +kernel) rfl rfl (Nat.le_refl _) (Nat.le_refl _) ?_
  change am_At _ _ _ 0 [_, _, _, _, _, _, _, _] [] _ _
  refine am_aload_n dX3_value_0 rfl ?_
  refine am_getR 3 6 27 dX3_value_1 fg_X3_21 (sh_23 g) (by decide) rfl (rf_23_6 g) ?_
  refine am_iconst 0 (v := 0) dX3_value_4 (by decide) ?_
  refine am_iload_n dX3_value_5 rfl ?_
  refine am_bipush 24 (v := 24) dX3_value_6 (by decide) ?_
  refine am_irem dX3_value_8 (by decide) ?_
  refine am_iast dX3_value_9 (am_ia.one (sh_27 g)) (am_lit rfl) ?_
  refine am_aload_n dX3_value_10 rfl ?_
  refine am_getR 3 6 27 dX3_value_11 fg_X3_21 (sh_23 g) (by decide) rfl (rf_23_6 g) ?_
  refine am_iconst 1 (v := 1) dX3_value_14 (by decide) ?_
  refine am_iload_n dX3_value_15 rfl ?_
  refine am_bipush 24 (v := 24) dX3_value_16 (by decide) ?_
  refine am_idiv dX3_value_18 (by decide) ?_
  refine am_iast dX3_value_19 (am_ia.one (sh_27 g)) (am_lit rfl) ?_
  refine am_aload_n dX3_value_20 rfl ?_
  refine am_getR 3 6 27 dX3_value_21 fg_X3_21 (sh_23 g) (by decide) rfl (rf_23_6 g) ?_
  refine am_iconst 2 (v := 2) dX3_value_24 (by decide) ?_
  refine am_iload_n dX3_value_25 rfl ?_
  refine am_iast dX3_value_26 (am_ia.one (sh_27 g)) (am_lit rfl) ?_
  refine am_aload_n dX3_value_27 rfl ?_
  refine am_getR 3 6 27 dX3_value_28 fg_X3_21 (sh_23 g) (by decide) rfl (rf_23_6 g) ?_
  refine am_iconst 3 (v := 3) dX3_value_31 (by decide) ?_
  refine am_aload_n dX3_value_32 rfl ?_
  refine am_getR 1 1 4 dX3_value_33 fg_X3_97 (sh_3 g) (by decide) rfl (rf_3_1 g) ?_
  refine am_iload_n dX3_value_36 rfl ?_
  refine am_iald dX3_value_37 (am_ia.one (sh_4 g)) hb ?_
  refine am_iast dX3_value_38 (am_ia.one (sh_27 g)) (am_lit rfl) ?_
  refine am_aload_n dX3_value_39 rfl ?_
  refine am_getR 3 6 27 dX3_value_40 fg_X3_21 (sh_23 g) (by decide) rfl (rf_23_6 g) ?_
  refine am_iconst 4 (v := 4) dX3_value_43 (by decide) ?_
  refine am_aload_n dX3_value_44 rfl ?_
  refine am_getR 1 2 5 dX3_value_45 fg_X3_102 (sh_3 g) (by decide) rfl (rf_3_2 g) ?_
  refine am_iload_n dX3_value_48 rfl ?_
  refine am_iald dX3_value_49 (am_ia.one (sh_5 g)) hb ?_
  refine am_iast dX3_value_50 (am_ia.one (sh_27 g)) (am_lit rfl) ?_
  refine am_aload_n dX3_value_51 rfl ?_
  refine am_getR 3 6 27 dX3_value_52 fg_X3_21 (sh_23 g) (by decide) rfl (rf_23_6 g) ?_
  refine am_iconst 5 (v := 5) dX3_value_55 (by decide) ?_
  refine am_aload_n dX3_value_56 rfl ?_
  refine am_getR 1 3 6 dX3_value_57 fg_X3_105 (sh_3 g) (by decide) rfl (rf_3_3 g) ?_
  refine am_iload_n dX3_value_60 rfl ?_
  refine am_iald dX3_value_61 (am_ia.one (sh_6 g)) hb ?_
  refine am_iast dX3_value_62 (am_ia.one (sh_27 g)) (am_lit rfl) ?_
  refine am_aload_n dX3_value_63 rfl ?_
  refine am_getR 3 6 27 dX3_value_64 fg_X3_21 (sh_23 g) (by decide) rfl (rf_23_6 g) ?_
  refine am_bipush 6 (v := 6) dX3_value_67 (by decide) ?_
  refine am_aload_n dX3_value_69 rfl ?_
  refine am_getR 1 4 7 dX3_value_70 fg_X3_108 (sh_3 g) (by decide) rfl (rf_3_4 g) ?_
  refine am_iload_n dX3_value_73 rfl ?_
  refine am_iald dX3_value_74 (am_ia.one (sh_7 g)) hb ?_
  refine am_iast dX3_value_75 (am_ia.one (sh_27 g)) (am_lit rfl) ?_
  refine am_aload_n dX3_value_76 rfl ?_
  refine am_getR 3 6 27 dX3_value_77 fg_X3_21 (sh_23 g) (by decide) rfl (rf_23_6 g) ?_
  refine am_bipush 7 (v := 7) dX3_value_80 (by decide) ?_
  refine am_iload dX3_value_82 rfl ?_
  refine am_iast dX3_value_84 (am_ia.one (sh_27 g)) (am_lit rfl) ?_
  refine am_iconst 0 (v := 0) dX3_value_85 (by decide) ?_
  refine am_istore dX3_value_86 (am_lb rfl) ?_
  change am_At _ _ _ 88 [_, _, _, _, _, _, _, _] [] _ _
  refine am_iconst 0 (v := 0) dX3_value_88 (by decide) ?_
  refine am_istore dX3_value_89 (am_lb rfl) ?_
  change am_At _ _ _ 91 [_, _, _, _, _, _, _, _] [] _ _
  have key := am_loop (Pr := fun k => am_At am_X0 (d + 1) mX3_value 91 [some (.inr (23, 0)), some (.inr (3, 0)), some (am_I b), some (am_I hr), some (am_I fi), some (am_I (nI (dp k))), some (am_I (nI k)), none] [] (am_hM h (am_row (faM h.2.1 b hr fi) 26 (stkN (h.2.1 24 0) ((faM h.2.1 b hr fi) 27 0) (h.2.1 26 0) dp k))) (.inl (some (am_I ((stkN (h.2.1 24 0) ((faM h.2.1 b hr fi) 27 0) (h.2.1 26 0) dp len) 0)), am_hM h (am_row (faM h.2.1 b hr fi) 26 (stkN (h.2.1 24 0) ((faM h.2.1 b hr fi) 27 0) (h.2.1 26 0) dp len))))) len ?_ ?_ 0 (by omega)
  · have e0 : am_row (faM h.2.1 b hr fi) 26 (stkN (h.2.1 24 0) ((faM h.2.1 b hr fi) 27 0) (h.2.1 26 0) dp 0) = (faM h.2.1 b hr fi) := am_row_id (faM h.2.1 b hr fi) 26
    rw [e0, hd0] at key
    exact key
  · refine am_iload dX3_value_91 rfl ?_
    refine am_aload_n dX3_value_93 rfl ?_
    refine am_getI 3 1 dX3_value_94 fg_X3_55 (sh_23 g) (by decide) rfl ?_
    refine am_icmp_geT (103) 200 dX3_value_97 rfl (by show _ ≤ _; exact hle) ?_
    refine am_aload_n dX3_value_200 rfl ?_
    refine am_getR 3 5 26 dX3_value_201 fg_X3_18 (sh_23 g) (by decide) rfl (rf_23_5 g) ?_
    refine am_iconst 0 (v := 0) dX3_value_204 (by decide) ?_
    refine am_iald dX3_value_205 (am_ia.one (sh_26 g)) (am_lit rfl) ?_
    exact am_iret dX3_value_206 rfl
  · intro k hk ih
    have hcl : (nI k).toNatClampNeg = k := nI_clamp (by omega)
    have w := hwf k hk
    refine am_iload dX3_value_91 rfl ?_
    refine am_aload_n dX3_value_93 rfl ?_
    refine am_getI 3 1 dX3_value_94 fg_X3_55 (sh_23 g) (by decide) rfl ?_
    refine am_icmp_geF (103) 200 dX3_value_97 rfl (by show ¬ _ ≤ _; exact hgt k hk) ?_
    refine am_aload_n dX3_value_100 rfl ?_
    refine am_getR 3 0 24 dX3_value_101 fg_X3_9 (sh_23 g) (by decide) rfl hq ?_
    refine am_iload dX3_value_104 rfl ?_
    refine am_iald dX3_value_106 (am_ia.one (sh_24 g)) (vp_in_nI (by omega) (by omega)) ?_
    refine am_istore dX3_value_107 (am_lb rfl) ?_
    change am_At _ _ _ 109 [_, _, _, _, _, _, _, _] [] _ _
    refine am_iload dX3_value_109 rfl ?_
    refine am_bipush 15 (v := 15) dX3_value_111 (by decide) ?_
    change am_At _ _ _ 113 [_, _, _, _, _, _, _, some (am_I (h.2.1 24 0 (nI k).toNatClampNeg))] [am_I 15, am_I (h.2.1 24 0 (nI k).toNatClampNeg)] _ _
    rw [hcl]
    rcases w with ⟨w1, w2, w3⟩ | ⟨w1, w2, w3, w4, w5⟩ | ⟨w1, w2, w3, w4, w5⟩
    · refine am_icmp_ltF (21) 134 dX3_value_113 rfl w1 ?_
      refine am_aload_n dX3_value_116 rfl ?_
      refine am_getR 3 5 26 dX3_value_117 fg_X3_18 (sh_23 g) (by decide) rfl (rf_23_5 g) ?_
      refine am_iload dX3_value_120 rfl ?_
      refine am_iload dX3_value_122 rfl ?_
      refine am_bipush 15 (v := 15) dX3_value_124 (by decide) ?_
      refine am_isub dX3_value_126 ?_
      refine am_iast dX3_value_127 (am_ia.one (sh_26 g)) (vp_in_nI (by omega) (by omega)) ?_
      refine am_iinc dX3_value_128 rfl (am_ix _) ?_
      change am_At _ _ _ 131 [_, _, _, _, _, _, _, _] [] _ _
      refine am_goto (63) 194 dX3_value_131 rfl ?_
      refine am_iinc dX3_value_194 rfl (am_ix _) ?_
      change am_At _ _ _ 197 [_, _, _, _, _, _, _, _] [] _ _
      refine am_goto (-106) 91 dX3_value_197 rfl ?_
      refine am_At.drop 7 ?_
      change am_At _ _ _ 91 [_, _, _, _, _, _, _, none] [] _ _
      rw [w3, ← nI_1] at ih
      rw [nI_1 k]
      refine am_At.to ?_ ih
      show am_um _ _ _ _ _ = _
      rw [stkN_s]
      unfold am_um stk1
      rw [if_neg w1, nI_clamp (by omega)]
      show (h.1, am_u3 (am_row _ 26 _) 26 0 _ _, h.2.2) = _
      rw [am_row_u]
      rfl
    · refine am_icmp_ltT (21) 134 dX3_value_113 rfl w1 ?_
      refine am_iload dX3_value_134 rfl ?_
      refine am_bipush 8 (v := 8) dX3_value_136 (by decide) ?_
      refine am_icmp_geF (23) 161 dX3_value_138 rfl (Int32.not_le.mpr w2) ?_
      refine am_aload_n dX3_value_141 rfl ?_
      refine am_getR 3 5 26 dX3_value_142 fg_X3_18 (sh_23 g) (by decide) rfl (rf_23_5 g) ?_
      refine am_iload dX3_value_145 rfl ?_
      refine am_aload_n dX3_value_147 rfl ?_
      refine am_getR 3 6 27 dX3_value_148 fg_X3_21 (sh_23 g) (by decide) rfl (rf_23_6 g) ?_
      refine am_iload dX3_value_151 rfl ?_
      refine am_iald dX3_value_153 (am_ia.one (sh_27 g)) (fact_in w2 w3) ?_
      refine am_iast dX3_value_154 (am_ia.one (sh_26 g)) (vp_in_nI (by omega) (by omega)) ?_
      refine am_iinc dX3_value_155 rfl (am_ix _) ?_
      change am_At _ _ _ 158 [_, _, _, _, _, _, _, _] [] _ _
      refine am_goto (36) 194 dX3_value_158 rfl ?_
      refine am_iinc dX3_value_194 rfl (am_ix _) ?_
      change am_At _ _ _ 197 [_, _, _, _, _, _, _, _] [] _ _
      refine am_goto (-106) 91 dX3_value_197 rfl ?_
      refine am_At.drop 7 ?_
      change am_At _ _ _ 91 [_, _, _, _, _, _, _, none] [] _ _
      rw [w5, ← nI_1] at ih
      rw [nI_1 k]
      refine am_At.to ?_ ih
      show am_um _ _ _ _ _ = _
      rw [stkN_s]
      unfold am_um stk1
      rw [if_pos w1, if_pos w2, nI_clamp (by omega)]
      show (h.1, am_u3 (am_row _ 26 _) 26 0 _ _, h.2.2) = _
      rw [am_row_u]
      rfl
    · have e2 : nI (dp k) - 1 = nI (dp k - 1) := by rw [show (1 : Int32) = nI 1 from rfl, pk_sub (by omega)]
      have e3 : nI (dp k - 1) - 1 = nI (dp k - 2) := by rw [show (1 : Int32) = nI 1 from rfl, pk_sub (by omega)]; rfl
      refine am_icmp_ltT (21) 134 dX3_value_113 rfl w1 ?_
      refine am_iload dX3_value_134 rfl ?_
      refine am_bipush 8 (v := 8) dX3_value_136 (by decide) ?_
      refine am_icmp_geT (23) 161 dX3_value_138 rfl (Int32.not_lt.mp w2) ?_
      refine am_iinc dX3_value_161 rfl (am_dx _) ?_
      change am_At _ _ _ 164 [_, _, _, _, _, _, _, _] [] _ _
      rw [e2]
      refine am_aload_n dX3_value_164 rfl ?_
      refine am_getR 3 5 26 dX3_value_165 fg_X3_18 (sh_23 g) (by decide) rfl (rf_23_5 g) ?_
      refine am_iload dX3_value_168 rfl ?_
      refine am_iconst 1 (v := 1) dX3_value_170 (by decide) ?_
      refine am_isub dX3_value_171 ?_
      refine am_iload dX3_value_172 rfl ?_
      refine am_aload_n dX3_value_174 rfl ?_
      refine am_getR 3 5 26 dX3_value_175 fg_X3_18 (sh_23 g) (by decide) rfl (rf_23_5 g) ?_
      refine am_iload dX3_value_178 rfl ?_
      refine am_iconst 1 (v := 1) dX3_value_180 (by decide) ?_
      refine am_isub dX3_value_181 ?_
      refine am_iald dX3_value_182 (am_ia.one (sh_26 g)) (by rw [e3]; exact vp_in_nI (by omega) (by omega)) ?_
      refine am_aload_n dX3_value_183 rfl ?_
      refine am_getR 3 5 26 dX3_value_184 fg_X3_18 (sh_23 g) (by decide) rfl (rf_23_5 g) ?_
      refine am_iload dX3_value_187 rfl ?_
      refine am_iald dX3_value_189 (am_ia.one (sh_26 g)) (vp_in_nI (by omega) (by omega)) ?_
      refine am_callS (c := 0) (k := 0) (n := 0) (w := 0) [_, _, _] dX3_value_190 ml_X3_111 sm_X3_join rfl (fun _ => Nat.le_of_ble_eq_true rfl) (by omega) rfl (ev_join (d := d + 0)  ) rfl ?_
      change am_At _ _ _ 193 [_, _, _, _, _, _, _, _] [_, _, _] _ _
      refine am_iast dX3_value_193 (am_ia.one (sh_26 g)) (by rw [e3]; exact vp_in_nI (by omega) (by omega)) ?_
      refine am_iinc dX3_value_194 rfl (am_ix _) ?_
      change am_At _ _ _ 197 [_, _, _, _, _, _, _, _] [] _ _
      refine am_goto (-106) 91 dX3_value_197 rfl ?_
      refine am_At.drop 7 ?_
      change am_At _ _ _ 91 [_, _, _, _, _, _, _, none] [] _ _
      rw [show dp (k + 1) = dp k - 1 by omega] at ih
      rw [nI_1 k]
      refine am_At.to ?_ ih
      show am_um _ _ _ _ _ = _
      rw [stkN_s]
      unfold am_um stk1
      rw [if_pos w1, if_neg w2, e3, nI_clamp (by omega), nI_clamp (by omega)]
      show (h.1, am_u3 (am_row _ 26 _) 26 0 _ _, h.2.2) = _
      rw [am_row_u]
      rfl
theorem ev_value_25 {d : Nat} {h : am_H} (g : lay h) {b hr fi : Int32} {len : Nat} {dp : Nat → Nat} (hq : h.2.2 23 0 = some 25) (hb : vp_in b 16) (hlen : h.2.1 23 0 1 = nI len) (hl150 : len ≤ 150) (hd0 : dp 0 = 0) (hwf : ∀ k, k < len → lwf (h.2.1 25 0 k) (dp k) (dp (k + 1))) : am_Ev (d + 1) mX3_value [.inr (23, 0), .inr (3, 0), am_I b, am_I hr, am_I fi] h (.inl (some (am_I ((stkN (h.2.1 25 0) ((faM h.2.1 b hr fi) 27 0) (h.2.1 26 0) dp len) 0)), am_hM h (am_row (faM h.2.1 b hr fi) 26 (stkN (h.2.1 25 0) ((faM h.2.1 b hr fi) 27 0) (h.2.1 26 0) dp len)))) := by
  have hle : h.2.1 23 0 1 ≤ nI len := by rw [hlen]; exact Int32.le_refl _
  have hgt : ∀ k, k < len → ¬ h.2.1 23 0 1 ≤ nI k := fun k hk => by rw [hlen]; exact nI_ge hk (by omega)
  refine am_Ev.mk (by decide +kernel) rfl rfl (Nat.le_refl _) (Nat.le_refl _) ?_
  change am_At _ _ _ 0 [_, _, _, _, _, _, _, _] [] _ _
  refine am_aload_n dX3_value_0 rfl ?_
  refine am_getR 3 6 27 dX3_value_1 fg_X3_21 (sh_23 g) (by decide) rfl (rf_23_6 g) ?_
  refine am_iconst 0 (v := 0) dX3_value_4 (by decide) ?_
  refine am_iload_n dX3_value_5 rfl ?_
  refine am_bipush 24 (v := 24) dX3_value_6 (by decide) ?_
  refine am_irem dX3_value_8 (by decide) ?_
  refine am_iast dX3_value_9 (am_ia.one (sh_27 g)) (am_lit rfl) ?_
  refine am_aload_n dX3_value_10 rfl ?_
  refine am_getR 3 6 27 dX3_value_11 fg_X3_21 (sh_23 g) (by decide) rfl (rf_23_6 g) ?_
  refine am_iconst 1 (v := 1) dX3_value_14 (by decide) ?_
  refine am_iload_n dX3_value_15 rfl ?_
  refine am_bipush 24 (v := 24) dX3_value_16 (by decide) ?_
  refine am_idiv dX3_value_18 (by decide) ?_
  refine am_iast dX3_value_19 (am_ia.one (sh_27 g)) (am_lit rfl) ?_
  refine am_aload_n dX3_value_20 rfl ?_
  refine am_getR 3 6 27 dX3_value_21 fg_X3_21 (sh_23 g) (by decide) rfl (rf_23_6 g) ?_
  refine am_iconst 2 (v := 2) dX3_value_24 (by decide) ?_
  refine am_iload_n dX3_value_25 rfl ?_
  refine am_iast dX3_value_26 (am_ia.one (sh_27 g)) (am_lit rfl) ?_
  refine am_aload_n dX3_value_27 rfl ?_
  refine am_getR 3 6 27 dX3_value_28 fg_X3_21 (sh_23 g) (by decide) rfl (rf_23_6 g) ?_
  refine am_iconst 3 (v := 3) dX3_value_31 (by decide) ?_
  refine am_aload_n dX3_value_32 rfl ?_
  refine am_getR 1 1 4 dX3_value_33 fg_X3_97 (sh_3 g) (by decide) rfl (rf_3_1 g) ?_
  refine am_iload_n dX3_value_36 rfl ?_
  refine am_iald dX3_value_37 (am_ia.one (sh_4 g)) hb ?_
  refine am_iast dX3_value_38 (am_ia.one (sh_27 g)) (am_lit rfl) ?_
  refine am_aload_n dX3_value_39 rfl ?_
  refine am_getR 3 6 27 dX3_value_40 fg_X3_21 (sh_23 g) (by decide) rfl (rf_23_6 g) ?_
  refine am_iconst 4 (v := 4) dX3_value_43 (by decide) ?_
  refine am_aload_n dX3_value_44 rfl ?_
  refine am_getR 1 2 5 dX3_value_45 fg_X3_102 (sh_3 g) (by decide) rfl (rf_3_2 g) ?_
  refine am_iload_n dX3_value_48 rfl ?_
  refine am_iald dX3_value_49 (am_ia.one (sh_5 g)) hb ?_
  refine am_iast dX3_value_50 (am_ia.one (sh_27 g)) (am_lit rfl) ?_
  refine am_aload_n dX3_value_51 rfl ?_
  refine am_getR 3 6 27 dX3_value_52 fg_X3_21 (sh_23 g) (by decide) rfl (rf_23_6 g) ?_
  refine am_iconst 5 (v := 5) dX3_value_55 (by decide) ?_
  refine am_aload_n dX3_value_56 rfl ?_
  refine am_getR 1 3 6 dX3_value_57 fg_X3_105 (sh_3 g) (by decide) rfl (rf_3_3 g) ?_
  refine am_iload_n dX3_value_60 rfl ?_
  refine am_iald dX3_value_61 (am_ia.one (sh_6 g)) hb ?_
  refine am_iast dX3_value_62 (am_ia.one (sh_27 g)) (am_lit rfl) ?_
  refine am_aload_n dX3_value_63 rfl ?_
  refine am_getR 3 6 27 dX3_value_64 fg_X3_21 (sh_23 g) (by decide) rfl (rf_23_6 g) ?_
  refine am_bipush 6 (v := 6) dX3_value_67 (by decide) ?_
  refine am_aload_n dX3_value_69 rfl ?_
  refine am_getR 1 4 7 dX3_value_70 fg_X3_108 (sh_3 g) (by decide) rfl (rf_3_4 g) ?_
  refine am_iload_n dX3_value_73 rfl ?_
  refine am_iald dX3_value_74 (am_ia.one (sh_7 g)) hb ?_
  refine am_iast dX3_value_75 (am_ia.one (sh_27 g)) (am_lit rfl) ?_
  refine am_aload_n dX3_value_76 rfl ?_
  refine am_getR 3 6 27 dX3_value_77 fg_X3_21 (sh_23 g) (by decide) rfl (rf_23_6 g) ?_
  refine am_bipush 7 (v := 7) dX3_value_80 (by decide) ?_
  refine am_iload dX3_value_82 rfl ?_
  refine am_iast dX3_value_84 (am_ia.one (sh_27 g)) (am_lit rfl) ?_
  refine am_iconst 0 (v := 0) dX3_value_85 (by decide) ?_
  refine am_istore dX3_value_86 (am_lb rfl) ?_
  change am_At _ _ _ 88 [_, _, _, _, _, _, _, _] [] _ _
  refine am_iconst 0 (v := 0) dX3_value_88 (by decide) ?_
  refine am_istore dX3_value_89 (am_lb rfl) ?_
  change am_At _ _ _ 91 [_, _, _, _, _, _, _, _] [] _ _
  have key := am_loop (Pr := fun k => am_At am_X0 (d + 1) mX3_value 91 [some (.inr (23, 0)), some (.inr (3, 0)), some (am_I b), some (am_I hr), some (am_I fi), some (am_I (nI (dp k))), some (am_I (nI k)), none] [] (am_hM h (am_row (faM h.2.1 b hr fi) 26 (stkN (h.2.1 25 0) ((faM h.2.1 b hr fi) 27 0) (h.2.1 26 0) dp k))) (.inl (some (am_I ((stkN (h.2.1 25 0) ((faM h.2.1 b hr fi) 27 0) (h.2.1 26 0) dp len) 0)), am_hM h (am_row (faM h.2.1 b hr fi) 26 (stkN (h.2.1 25 0) ((faM h.2.1 b hr fi) 27 0) (h.2.1 26 0) dp len))))) len ?_ ?_ 0 (by omega)
  · have e0 : am_row (faM h.2.1 b hr fi) 26 (stkN (h.2.1 25 0) ((faM h.2.1 b hr fi) 27 0) (h.2.1 26 0) dp 0) = (faM h.2.1 b hr fi) := am_row_id (faM h.2.1 b hr fi) 26
    rw [e0, hd0] at key
    exact key
  · refine am_iload dX3_value_91 rfl ?_
    refine am_aload_n dX3_value_93 rfl ?_
    refine am_getI 3 1 dX3_value_94 fg_X3_55 (sh_23 g) (by decide) rfl ?_
    refine am_icmp_geT (103) 200 dX3_value_97 rfl (by show _ ≤ _; exact hle) ?_
    refine am_aload_n dX3_value_200 rfl ?_
    refine am_getR 3 5 26 dX3_value_201 fg_X3_18 (sh_23 g) (by decide) rfl (rf_23_5 g) ?_
    refine am_iconst 0 (v := 0) dX3_value_204 (by decide) ?_
    refine am_iald dX3_value_205 (am_ia.one (sh_26 g)) (am_lit rfl) ?_
    exact am_iret dX3_value_206 rfl
  · intro k hk ih
    have hcl : (nI k).toNatClampNeg = k := nI_clamp (by omega)
    have w := hwf k hk
    refine am_iload dX3_value_91 rfl ?_
    refine am_aload_n dX3_value_93 rfl ?_
    refine am_getI 3 1 dX3_value_94 fg_X3_55 (sh_23 g) (by decide) rfl ?_
    refine am_icmp_geF (103) 200 dX3_value_97 rfl (by show ¬ _ ≤ _; exact hgt k hk) ?_
    refine am_aload_n dX3_value_100 rfl ?_
    refine am_getR 3 0 25 dX3_value_101 fg_X3_9 (sh_23 g) (by decide) rfl hq ?_
    refine am_iload dX3_value_104 rfl ?_
    refine am_iald dX3_value_106 (am_ia.one (sh_25 g)) (vp_in_nI (by omega) (by omega)) ?_
    refine am_istore dX3_value_107 (am_lb rfl) ?_
    change am_At _ _ _ 109 [_, _, _, _, _, _, _, _] [] _ _
    refine am_iload dX3_value_109 rfl ?_
    refine am_bipush 15 (v := 15) dX3_value_111 (by decide) ?_
    change am_At _ _ _ 113 [_, _, _, _, _, _, _, some (am_I (h.2.1 25 0 (nI k).toNatClampNeg))] [am_I 15, am_I (h.2.1 25 0 (nI k).toNatClampNeg)] _ _
    rw [hcl]
    rcases w with ⟨w1, w2, w3⟩ | ⟨w1, w2, w3, w4, w5⟩ | ⟨w1, w2, w3, w4, w5⟩
    · refine am_icmp_ltF (21) 134 dX3_value_113 rfl w1 ?_
      refine am_aload_n dX3_value_116 rfl ?_
      refine am_getR 3 5 26 dX3_value_117 fg_X3_18 (sh_23 g) (by decide) rfl (rf_23_5 g) ?_
      refine am_iload dX3_value_120 rfl ?_
      refine am_iload dX3_value_122 rfl ?_
      refine am_bipush 15 (v := 15) dX3_value_124 (by decide) ?_
      refine am_isub dX3_value_126 ?_
      refine am_iast dX3_value_127 (am_ia.one (sh_26 g)) (vp_in_nI (by omega) (by omega)) ?_
      refine am_iinc dX3_value_128 rfl (am_ix _) ?_
      change am_At _ _ _ 131 [_, _, _, _, _, _, _, _] [] _ _
      refine am_goto (63) 194 dX3_value_131 rfl ?_
      refine am_iinc dX3_value_194 rfl (am_ix _) ?_
      change am_At _ _ _ 197 [_, _, _, _, _, _, _, _] [] _ _
      refine am_goto (-106) 91 dX3_value_197 rfl ?_
      refine am_At.drop 7 ?_
      change am_At _ _ _ 91 [_, _, _, _, _, _, _, none] [] _ _
      rw [w3, ← nI_1] at ih
      rw [nI_1 k]
      refine am_At.to ?_ ih
      show am_um _ _ _ _ _ = _
      rw [stkN_s]
      unfold am_um stk1
      rw [if_neg w1, nI_clamp (by omega)]
      show (h.1, am_u3 (am_row _ 26 _) 26 0 _ _, h.2.2) = _
      rw [am_row_u]
      rfl
    · refine am_icmp_ltT (21) 134 dX3_value_113 rfl w1 ?_
      refine am_iload dX3_value_134 rfl ?_
      refine am_bipush 8 (v := 8) dX3_value_136 (by decide) ?_
      refine am_icmp_geF (23) 161 dX3_value_138 rfl (Int32.not_le.mpr w2) ?_
      refine am_aload_n dX3_value_141 rfl ?_
      refine am_getR 3 5 26 dX3_value_142 fg_X3_18 (sh_23 g) (by decide) rfl (rf_23_5 g) ?_
      refine am_iload dX3_value_145 rfl ?_
      refine am_aload_n dX3_value_147 rfl ?_
      refine am_getR 3 6 27 dX3_value_148 fg_X3_21 (sh_23 g) (by decide) rfl (rf_23_6 g) ?_
      refine am_iload dX3_value_151 rfl ?_
      refine am_iald dX3_value_153 (am_ia.one (sh_27 g)) (fact_in w2 w3) ?_
      refine am_iast dX3_value_154 (am_ia.one (sh_26 g)) (vp_in_nI (by omega) (by omega)) ?_
      refine am_iinc dX3_value_155 rfl (am_ix _) ?_
      change am_At _ _ _ 158 [_, _, _, _, _, _, _, _] [] _ _
      refine am_goto (36) 194 dX3_value_158 rfl ?_
      refine am_iinc dX3_value_194 rfl (am_ix _) ?_
      change am_At _ _ _ 197 [_, _, _, _, _, _, _, _] [] _ _
      refine am_goto (-106) 91 dX3_value_197 rfl ?_
      refine am_At.drop 7 ?_
      change am_At _ _ _ 91 [_, _, _, _, _, _, _, none] [] _ _
      rw [w5, ← nI_1] at ih
      rw [nI_1 k]
      refine am_At.to ?_ ih
      show am_um _ _ _ _ _ = _
      rw [stkN_s]
      unfold am_um stk1
      rw [if_pos w1, if_pos w2, nI_clamp (by omega)]
      show (h.1, am_u3 (am_row _ 26 _) 26 0 _ _, h.2.2) = _
      rw [am_row_u]
      rfl
    · have e2 : nI (dp k) - 1 = nI (dp k - 1) := by rw [show (1 : Int32) = nI 1 from rfl, pk_sub (by omega)]
      have e3 : nI (dp k - 1) - 1 = nI (dp k - 2) := by rw [show (1 : Int32) = nI 1 from rfl, pk_sub (by omega)]; rfl
      refine am_icmp_ltT (21) 134 dX3_value_113 rfl w1 ?_
      refine am_iload dX3_value_134 rfl ?_
      refine am_bipush 8 (v := 8) dX3_value_136 (by decide) ?_
      refine am_icmp_geT (23) 161 dX3_value_138 rfl (Int32.not_lt.mp w2) ?_
      refine am_iinc dX3_value_161 rfl (am_dx _) ?_
      change am_At _ _ _ 164 [_, _, _, _, _, _, _, _] [] _ _
      rw [e2]
      refine am_aload_n dX3_value_164 rfl ?_
      refine am_getR 3 5 26 dX3_value_165 fg_X3_18 (sh_23 g) (by decide) rfl (rf_23_5 g) ?_
      refine am_iload dX3_value_168 rfl ?_
      refine am_iconst 1 (v := 1) dX3_value_170 (by decide) ?_
      refine am_isub dX3_value_171 ?_
      refine am_iload dX3_value_172 rfl ?_
      refine am_aload_n dX3_value_174 rfl ?_
      refine am_getR 3 5 26 dX3_value_175 fg_X3_18 (sh_23 g) (by decide) rfl (rf_23_5 g) ?_
      refine am_iload dX3_value_178 rfl ?_
      refine am_iconst 1 (v := 1) dX3_value_180 (by decide) ?_
      refine am_isub dX3_value_181 ?_
      refine am_iald dX3_value_182 (am_ia.one (sh_26 g)) (by rw [e3]; exact vp_in_nI (by omega) (by omega)) ?_
      refine am_aload_n dX3_value_183 rfl ?_
      refine am_getR 3 5 26 dX3_value_184 fg_X3_18 (sh_23 g) (by decide) rfl (rf_23_5 g) ?_
      refine am_iload dX3_value_187 rfl ?_
      refine am_iald dX3_value_189 (am_ia.one (sh_26 g)) (vp_in_nI (by omega) (by omega)) ?_
      refine am_callS (c := 0) (k := 0) (n := 0) (w := 0) [_, _, _] dX3_value_190 ml_X3_111 sm_X3_join rfl (fun _ => Nat.le_of_ble_eq_true rfl) (by omega) rfl (ev_join (d := d + 0)  ) rfl ?_
      change am_At _ _ _ 193 [_, _, _, _, _, _, _, _] [_, _, _] _ _
      refine am_iast dX3_value_193 (am_ia.one (sh_26 g)) (by rw [e3]; exact vp_in_nI (by omega) (by omega)) ?_
      refine am_iinc dX3_value_194 rfl (am_ix _) ?_
      change am_At _ _ _ 197 [_, _, _, _, _, _, _, _] [] _ _
      refine am_goto (-106) 91 dX3_value_197 rfl ?_
      refine am_At.drop 7 ?_
      change am_At _ _ _ 91 [_, _, _, _, _, _, _, none] [] _ _
      rw [show dp (k + 1) = dp k - 1 by omega] at ih
      rw [nI_1 k]
      refine am_At.to ?_ ih
      show am_um _ _ _ _ _ = _
      rw [stkN_s]
      unfold am_um stk1
      rw [if_pos w1, if_neg w2, e3, nI_clamp (by omega), nI_clamp (by omega)]
      show (h.1, am_u3 (am_row _ 26 _) 26 0 _ _, h.2.2) = _
      rw [am_row_u]
      rfl
