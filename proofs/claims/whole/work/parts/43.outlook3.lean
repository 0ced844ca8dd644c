def bcI (a0 : Int32) : Int32 := (((((((a0 - (((a0.toUInt32 >>> ((1 : Int32).toUInt32 &&& Int32.toUInt32 31)).toInt32) &&& (1431655765 : Int32))) &&& (858993459 : Int32)) + ((((a0 - (((a0.toUInt32 >>> ((1 : Int32).toUInt32 &&& Int32.toUInt32 31)).toInt32) &&& (1431655765 : Int32))).toUInt32 >>> ((2 : Int32).toUInt32 &&& Int32.toUInt32 31)).toInt32) &&& (858993459 : Int32))) + (((((a0 - (((a0.toUInt32 >>> ((1 : Int32).toUInt32 &&& Int32.toUInt32 31)).toInt32) &&& (1431655765 : Int32))) &&& (858993459 : Int32)) + ((((a0 - (((a0.toUInt32 >>> ((1 : Int32).toUInt32 &&& Int32.toUInt32 31)).toInt32) &&& (1431655765 : Int32))).toUInt32 >>> ((2 : Int32).toUInt32 &&& Int32.toUInt32 31)).toInt32) &&& (858993459 : Int32))).toUInt32 >>> ((4 : Int32).toUInt32 &&& Int32.toUInt32 31)).toInt32)) &&& (252645135 : Int32)) + (((((((a0 - (((a0.toUInt32 >>> ((1 : Int32).toUInt32 &&& Int32.toUInt32 31)).toInt32) &&& (1431655765 : Int32))) &&& (858993459 : Int32)) + ((((a0 - (((a0.toUInt32 >>> ((1 : Int32).toUInt32 &&& Int32.toUInt32 31)).toInt32) &&& (1431655765 : Int32))).toUInt32 >>> ((2 : Int32).toUInt32 &&& Int32.toUInt32 31)).toInt32) &&& (858993459 : Int32))) + (((((a0 - (((a0.toUInt32 >>> ((1 : Int32).toUInt32 &&& Int32.toUInt32 31)).toInt32) &&& (1431655765 : Int32))) &&& (858993459 : Int32)) + ((((a0 - (((a0.toUInt32 >>> ((1 : Int32).toUInt32 &&& Int32.toUInt32 31)).toInt32) &&& (1431655765 : Int32))).toUInt32 >>> ((2 : Int32).toUInt32 &&& Int32.toUInt32 31)).toInt32) &&& (858993459 : Int32))).toUInt32 >>> ((4 : Int32).toUInt32 &&& Int32.toUInt32 31)).toInt32)) &&& (252645135 : Int32)).toUInt32 >>> ((8 : Int32).toUInt32 &&& Int32.toUInt32 31)).toInt32)) + ((((((((a0 - (((a0.toUInt32 >>> ((1 : Int32).toUInt32 &&& Int32.toUInt32 31)).toInt32) &&& (1431655765 : Int32))) &&& (858993459 : Int32)) + ((((a0 - (((a0.toUInt32 >>> ((1 : Int32).toUInt32 &&& Int32.toUInt32 31)).toInt32) &&& (1431655765 : Int32))).toUInt32 >>> ((2 : Int32).toUInt32 &&& Int32.toUInt32 31)).toInt32) &&& (858993459 : Int32))) + (((((a0 - (((a0.toUInt32 >>> ((1 : Int32).toUInt32 &&& Int32.toUInt32 31)).toInt32) &&& (1431655765 : Int32))) &&& (858993459 : Int32)) + ((((a0 - (((a0.toUInt32 >>> ((1 : Int32).toUInt32 &&& Int32.toUInt32 31)).toInt32) &&& (1431655765 : Int32))).toUInt32 >>> ((2 : Int32).toUInt32 &&& Int32.toUInt32 31)).toInt32) &&& (858993459 : Int32))).toUInt32 >>> ((4 : Int32).toUInt32 &&& Int32.toUInt32 31)).toInt32)) &&& (252645135 : Int32)) + (((((((a0 - (((a0.toUInt32 >>> ((1 : Int32).toUInt32 &&& Int32.toUInt32 31)).toInt32) &&& (1431655765 : Int32))) &&& (858993459 : Int32)) + ((((a0 - (((a0.toUInt32 >>> ((1 : Int32).toUInt32 &&& Int32.toUInt32 31)).toInt32) &&& (1431655765 : Int32))).toUInt32 >>> ((2 : Int32).toUInt32 &&& Int32.toUInt32 31)).toInt32) &&& (858993459 : Int32))) + (((((a0 - (((a0.toUInt32 >>> ((1 : Int32).toUInt32 &&& Int32.toUInt32 31)).toInt32) &&& (1431655765 : Int32))) &&& (858993459 : Int32)) + ((((a0 - (((a0.toUInt32 >>> ((1 : Int32).toUInt32 &&& Int32.toUInt32 31)).toInt32) &&& (1431655765 : Int32))).toUInt32 >>> ((2 : Int32).toUInt32 &&& Int32.toUInt32 31)).toInt32) &&& (858993459 : Int32))).toUInt32 >>> ((4 : Int32).toUInt32 &&& Int32.toUInt32 31)).toInt32)) &&& (252645135 : Int32)).toUInt32 >>> ((8 : Int32).toUInt32 &&& Int32.toUInt32 31)).toInt32)).toUInt32 >>> ((16 : Int32).toUInt32 &&& Int32.toUInt32 31)).toInt32)) &&& (63 : Int32)
theorem ev_bc {d : Nat} {h : am_H} {x : Int32} : am_Ev (d + 0) mJ6_bitCount_0f7a4 [am_I x] h (.inl (some (am_I (bcI x)), h)) := ev_bitCount
theorem ev_writeTo_29_40 {d : Nat} {h : am_H} (g : lay h) {a0 : Int32} (s1 : ¬ a0 < 0) (s2 : a0.toNatClampNeg + (47 : Int32).toNatClampNeg ≤ 47) : am_Ev (d + 0) mX8_writeTo [.inr (29, 0), .inr (40, 0), am_I a0] h (.inl (none, (am_hM h (am_cp h.2.1 30 0 0 40 0 (a0.toNatClampNeg) 47)))) := by
  refine am_Ev.mk (by decide +kernel) rfl rfl (Nat.le_refl _) (Nat.le_refl _) ?_
  change am_At _ _ _ 0 [_, _, _] [] _ _
  refine am_aload_n dX8_writeTo_0 rfl ?_
  refine am_getR 8 0 30 dX8_writeTo_1 fg_X8_11 (sh_29 g) (by decide) rfl (rf_29_0 g) ?_
  refine am_iconst 0 (v := 0) dX8_writeTo_4 (by decide) ?_
  refine am_aload_n dX8_writeTo_5 rfl ?_
  refine am_iload_n dX8_writeTo_6 rfl ?_
  refine am_bipush 47 (v := 47) dX8_writeTo_7 (by decide) ?_
  refine am_copy dX8_writeTo_9 ml_X8_21 (am_ia.one (sh_30 g)) (am_ia.one (sh_40 g)) (by decide) s1 (by decide) (by decide) s2 (fun _ => Nat.le_of_ble_eq_true rfl) ?_
  change am_At _ _ _ 12 [_, _, _] [] _ _
  exact am_vret dX8_writeTo_12 rfl
/-- a LAW that never asks for fines doesn't mind them -/
theorem stk_ind7 {cd fa fa' S S' : Nat → Int32} {dp : Nat → Nat} {len : Nat} (hd0 : dp 0 = 0) (hwf : ∀ k, k < len → lwf (cd k) (dp k) (dp (k + 1))) (h7 : ∀ k, k < len → ¬ cd k = 7) (hfa : ∀ j, j < 7 → fa j = fa' j) : ∀ k, k ≤ len → ∀ j, j < dp k → stkN cd fa S dp k j = stkN cd fa' S' dp k j := by
  intro k
  induction k with
  | zero => intro _ j hj; omega
  | succ k ih =>
    intro hk j hj
    have ih := ih (by omega)
    rw [stkN_s, stkN_s]
    unfold stk1
    rcases hwf k (by omega) with ⟨w1, w2, w3⟩ | ⟨w1, w2, w3, w4, w5⟩ | ⟨w1, w2, w3, w4, w5⟩
    · rw [if_neg w1, if_neg w1]
      unfold upd
      by_cases e : j = dp k
      · rw [if_pos e, if_pos e]
      · rw [if_neg e, if_neg e]
        exact ih j (by omega)
    · rw [if_pos w1, if_pos w1, if_pos w2, if_pos w2]
      unfold upd
      by_cases e : j = dp k
      · rw [if_pos e, if_pos e]
        obtain ⟨i, hi, e2⟩ := vp_in_of (fact_in w2 w3) (by omega)
        have h9 := h7 k (by omega)
        rw [e2] at h9 ⊢
        rw [nI_clamp (by omega)]
        exact hfa i (by
          by_cases e7 : i = 7
          · exact absurd (by rw [e7]; rfl) h9
          · omega)
      · rw [if_neg e, if_neg e]
        exact ih j (by omega)
    · rw [if_pos w1, if_pos w1, if_neg w2, if_neg w2]
      unfold upd
      by_cases e : j = dp k - 2
      · rw [if_pos e, if_pos e, ih (dp k - 2) (by omega), ih (dp k - 1) (by omega)]
      · rw [if_neg e, if_neg e]
        exact ih j (by omega)
theorem dueB_nofine {M : Nat → Nat → Nat → Int32} {q len : Nat} {dp : Nat → Nat} (w : LW M q len dp) (h7 : ∀ k, k < len → ¬ M q 0 k = 7) (b : Nat) (hr fi fi' : Int32) : dueB M q len dp b hr fi = dueB M q len dp b hr fi' := by
  obtain ⟨w1, w2, w3, w4, w5, w6⟩ := w
  unfold dueB lval
  rw [stk_ind7 (S := fun _ => 0) (S' := fun _ => 0) (fa := facF M b hr fi) (fa' := facF M b hr fi') w4 w6 h7 (fun j hj => by
    match j, hj with
    | 0, _ => rfl
    | 1, _ => rfl
    | 2, _ => rfl
    | 3, _ => rfl
    | 4, _ => rfl
    | 5, _ => rfl
    | 6, _ => rfl) len (Nat.le_refl _) 0 (by omega)]
/-- what is due by a state's row -/
def dueR (M : Nat → Nat → Nat → Int32) (q len : Nat) (dp : Nat → Nat) (n : Nat) (R : Nat → Int32) : Int32 := bitsN (fun b => dueB M q len dp b (R 0) (R (3 + b))) n
def MD (M : Nat → Nat → Nat → Int32) (q len : Nat) : Prop := (M 23 0 4 = 0 ∧ ∀ k, k < len → ¬ M q 0 k = 7) ∨ M 23 0 4 = 1
theorem ev_dueThen {d : Nat} {h : am_H} (g : lay h) {q len : Nat} {dp : Nat → Nat} (hq : h.2.2 23 0 = some q) {M : Nat → Nat → Nat → Int32} (w : LW M q len dp) {n : Nat} (hn : M 3 0 0 = nI n) (hn16 : n ≤ 16) {r : Nat → Nat → Int32} (cv : CV M q len dp n r) (md : MD M q len) {t : Nat} (ht : t < 241) (hh : r 40 0 = M 30 0 0 + nI t) : ∃ r', keepD r r' ∧ CV M q len dp n r' ∧ am_Ev (d + 4) mX6_dueThen [.inr (38, 0), am_I (nI t)] (am_hM h (ol M r)) (.inl (some (am_I (dueR M q len dp n (r 40))), am_hM h (ol M r'))) := by
  obtain ⟨r1, k1, k2, E1⟩ := ev_dueIn (d := d) g hq w hn hn16 cv ht
  rcases md with ⟨m0, m7⟩ | m1
  · refine ⟨r1, k1, k2, ?_⟩
    have eq : dueA M q len dp n t = dueR M q len dp n (r 40) := bitsN_cong (fun b _ => by rw [← hh]; exact dueB_nofine w m7 b _ _ _)
    rw [← eq]
    refine am_Ev.mk (by decide +kernel) rfl rfl (Nat.le_refl _) (Nat.le_refl _) ?_
    change am_At _ _ _ 0 [_, _, _, _, _, _] [] _ _
    refine am_aload_n dX6_dueThen_0 rfl ?_
    refine am_iload_n dX6_dueThen_1 rfl ?_
    refine am_callV [_] dX6_dueThen_2 ml_X6_50 vm_X6_dueIn (sh_38 g) rfl (fun _ => Nat.le_of_ble_eq_true rfl) (by omega) rfl (E1) rfl ?_
    change am_At _ _ _ 5 [_, _, _, _, _, _] [_] _ _
    refine am_istore_n dX6_dueThen_5 (am_lb rfl) ?_
    change am_At _ _ _ 6 [_, _, _, _, _, _] [] _ _
    refine am_aload_n dX6_dueThen_6 rfl ?_
    refine am_getR 6 1 28 dX6_dueThen_7 fg_X6_29 (sh_38 g) (by decide) rfl (rf_38_1 g) ?_
    refine am_getR 4 1 23 dX6_dueThen_10 fg_X6_117 (sh_28 g) (by decide) rfl (rf_28_1 g) ?_
    refine am_callV [] dX6_dueThen_13 ml_X6_121 vm_X3_mindsFines (sh_23 g) rfl (fun _ => Nat.le_of_ble_eq_true rfl) (by omega) rfl (ev_X3_mindsFines (d := d + 3) (h := am_hM h (ol M r1)) g (by show narrow .boolean (.int (M 23 0 4)) = _; rw [show (am_hM h (ol M r1)).2.1 23 0 4 = M 23 0 4 from rfl, m0]; rfl)) rfl ?_
    change am_At _ _ _ 16 [_, _, _, _, _, _] [_] _ _
    refine am_if_neF (5) 21 dX6_dueThen_16 rfl m0 ?_
    refine am_iload_n dX6_dueThen_19 rfl ?_
    exact am_iret dX6_dueThen_20 rfl
  · have key := am_loop (Pr := fun k => ∀ r1, keepD r r1 → CV M q len dp n r1 → ∃ r', keepD r r' ∧ CV M q len dp n r' ∧ am_At am_X0 (d + 4) mX6_dueThen 23 [some (.inr (38, 0)), some (am_I (nI t)), some (am_I (bitsN (fun b => if b < k then dueB M q len dp b (r 40 0) (r 40 (3 + b)) else dueB M q len dp b (M 30 0 0 + nI t) (M 30 0 (3 + b))) n)), some (am_I (nI k)), none, none] [] (am_hM h (ol M r1)) (.inl (some (am_I (dueR M q len dp n (r 40))), am_hM h (ol M r')))) n ?_ ?_ 0 (by omega)
    · obtain ⟨r', b1, b2, b3⟩ := key r1 k1 k2
      refine ⟨r', b1, b2, ?_⟩
      have e0 : (bitsN (fun b => if b < 0 then dueB M q len dp b (r 40 0) (r 40 (3 + b)) else dueB M q len dp b (M 30 0 0 + nI t) (M 30 0 (3 + b))) n) = dueA M q len dp n t := bitsN_cong (fun b _ => if_neg (by omega))
      rw [e0] at b3
      refine am_Ev.mk (by decide +kernel) rfl rfl (Nat.le_refl _) (Nat.le_refl _) ?_
      change am_At _ _ _ 0 [_, _, _, _, _, _] [] _ _
      refine am_aload_n dX6_dueThen_0 rfl ?_
      refine am_iload_n dX6_dueThen_1 rfl ?_
      refine am_callV [_] dX6_dueThen_2 ml_X6_50 vm_X6_dueIn (sh_38 g) rfl (fun _ => Nat.le_of_ble_eq_true rfl) (by omega) rfl (E1) rfl ?_
      change am_At _ _ _ 5 [_, _, _, _, _, _] [_] _ _
      refine am_istore_n dX6_dueThen_5 (am_lb rfl) ?_
      change am_At _ _ _ 6 [_, _, _, _, _, _] [] _ _
      refine am_aload_n dX6_dueThen_6 rfl ?_
      refine am_getR 6 1 28 dX6_dueThen_7 fg_X6_29 (sh_38 g) (by decide) rfl (rf_38_1 g) ?_
      refine am_getR 4 1 23 dX6_dueThen_10 fg_X6_117 (sh_28 g) (by decide) rfl (rf_28_1 g) ?_
      refine am_callV [] dX6_dueThen_13 ml_X6_121 vm_X3_mindsFines (sh_23 g) rfl (fun _ => Nat.le_of_ble_eq_true rfl) (by omega) rfl (ev_X3_mindsFines (d := d + 3) (h := am_hM h (ol M r1)) g (by show narrow .boolean (.int (M 23 0 4)) = _; rw [show (am_hM h (ol M r1)).2.1 23 0 4 = M 23 0 4 from rfl, m1]; rfl)) rfl ?_
      change am_At _ _ _ 16 [_, _, _, _, _, _] [_] _ _
      refine am_if_neT (5) 21 dX6_dueThen_16 rfl (by show ¬ M 23 0 4 = 0; rw [m1]; decide) ?_
      refine am_iconst 0 (v := 0) dX6_dueThen_21 (by decide) ?_
      refine am_istore_n dX6_dueThen_22 (am_lb rfl) ?_
      change am_At _ _ _ 23 [_, _, _, _, _, _] [] _ _
      exact b3
    · intro r1 k1 k2
      refine ⟨r1, k1, k2, ?_⟩
      have e0 : (bitsN (fun b => if b < n then dueB M q len dp b (r 40 0) (r 40 (3 + b)) else dueB M q len dp b (M 30 0 0 + nI t) (M 30 0 (3 + b))) n) = dueR M q len dp n (r 40) := bitsN_cong (fun b hb => if_pos hb)
      rw [e0]
      refine am_iload_n dX6_dueThen_23 rfl ?_
      refine am_aload_n dX6_dueThen_24 rfl ?_
      refine am_getR 6 0 3 dX6_dueThen_25 fg_X6_25 (sh_38 g) (by decide) rfl (rf_38_0 g) ?_
      refine am_getI 1 0 dX6_dueThen_28 fg_X6_80 (sh_3 g) (by decide) rfl ?_
      refine am_icmp_geT (71) 102 dX6_dueThen_31 rfl (by show M 3 0 0 ≤ _; rw [hn]; exact Int32.le_refl _) ?_
      refine am_iload_n dX6_dueThen_102 rfl ?_
      exact am_iret dX6_dueThen_103 rfl
    · intro k hk ih r1 k1 k2
      have a40 : r1 40 = r 40 := k1.1 40 (by omega) (by omega) (by omega) (by omega)
      have e3 : ((3 : Int32) + nI k).toNatClampNeg = 3 + k := n35 3 (by omega)
      have f3 : vp_in ((3 : Int32) + nI k) 47 := n35v 3 47 (by omega) (by omega)
      by_cases hf : r 40 (3 + k) = M 30 0 (3 + k)
      · obtain ⟨r', b1, b2, b3⟩ := ih r1 k1 k2
        refine ⟨r', b1, b2, ?_⟩
        have eb : (bitsN (fun b => if b < k + 1 then dueB M q len dp b (r 40 0) (r 40 (3 + b)) else dueB M q len dp b (M 30 0 0 + nI t) (M 30 0 (3 + b))) n) = (bitsN (fun b => if b < k then dueB M q len dp b (r 40 0) (r 40 (3 + b)) else dueB M q len dp b (M 30 0 0 + nI t) (M 30 0 (3 + b))) n) := bitsN_cong (fun b _ => by
          by_cases e : b = k
          · subst e; rw [if_pos (by omega), if_neg (by omega), hh, hf]
          · by_cases e2 : b < k
            · rw [if_pos (by omega), if_pos e2]
            · rw [if_neg (by omega), if_neg e2])
        rw [eb] at b3
        refine am_iload_n dX6_dueThen_23 rfl ?_
        refine am_aload_n dX6_dueThen_24 rfl ?_
        refine am_getR 6 0 3 dX6_dueThen_25 fg_X6_25 (sh_38 g) (by decide) rfl (rf_38_0 g) ?_
        refine am_getI 1 0 dX6_dueThen_28 fg_X6_80 (sh_3 g) (by decide) rfl ?_
        refine am_icmp_geF (71) 102 dX6_dueThen_31 rfl (by show ¬ M 3 0 0 ≤ _; rw [hn]; exact nI_ge hk (by omega)) ?_
        refine am_aload_n dX6_dueThen_34 rfl ?_
        refine am_getR 6 3 39 dX6_dueThen_35 fg_X6_12 (sh_38 g) (by decide) rfl (rf_38_3 g) ?_
        refine am_iload_n dX6_dueThen_38 rfl ?_
        refine am_callV [_] dX6_dueThen_39 ml_X6_127 vm_X8_finesOf (sh_39 g) rfl (fun _ => Nat.le_of_ble_eq_true rfl) (by omega) rfl (ev_finesOfT (d := d + 3) (h := am_hM h (ol M r1)) (b := nI k) g f3) rfl ?_
        change am_At _ _ _ 42 [_, _, _, _, _, _] [_] _ _
        change am_At _ _ _ _ _ [am_I (r1 40 ((3 : Int32) + nI k).toNatClampNeg)] _ _
        rw [e3, a40]
        refine am_istore dX6_dueThen_42 (am_lb rfl) ?_
        change am_At _ _ _ 44 [_, _, _, _, _, _] [] _ _
        refine am_iload dX6_dueThen_44 rfl ?_
        refine am_aload_n dX6_dueThen_46 rfl ?_
        refine am_getR 6 2 29 dX6_dueThen_47 fg_X6_33 (sh_38 g) (by decide) rfl (rf_38_2 g) ?_
        refine am_iload_n dX6_dueThen_50 rfl ?_
        refine am_callV [_] dX6_dueThen_51 ml_X6_127 vm_X8_finesOf (sh_29 g) rfl (fun _ => Nat.le_of_ble_eq_true rfl) (by omega) rfl (ev_finesOf (d := d + 3) (h := am_hM h (ol M r1)) (b := nI k) g f3) rfl ?_
        change am_At _ _ _ 54 [_, _, _, _, _, _] [_, _] _ _
        change am_At _ _ _ _ _ [am_I (M 30 0 ((3 : Int32) + nI k).toNatClampNeg), _] _ _
        rw [e3]
        refine am_icmp_eqT (42) 96 dX6_dueThen_54 rfl hf ?_
        refine am_iinc dX6_dueThen_96 rfl (am_i1 k) ?_
        change am_At _ _ _ 99 [_, _, _, _, _, _] [] _ _
        refine am_goto (-76) 23 dX6_dueThen_99 rfl ?_
        refine am_At.drop 4 ?_
        change am_At _ _ _ 23 [_, _, _, _, none, none] [] _ _
        exact b3
      · obtain ⟨F, S, E⟩ := ev_isDue (d := d + 1) (h := am_hM h (ol M r1)) g hq (w.ol r1) (b := k) (hr := r 40 0) (fi := r 40 (3 + k)) (by omega)
        have em : am_hM (am_hM h (ol M r1)) (sc (am_hM h (ol M r1)).2.1 F S) = am_hM h (ol M (urow (urow r1 27 F) 26 S)) := by show am_hM h (sc (ol M r1) F S) = _; rw [ol_sc]
        have ed : dueB (am_hM h (ol M r1)).2.1 q len dp k (r 40 0) (r 40 (3 + k)) = dueB M q len dp k (r 40 0) (r 40 (3 + k)) := dueB_ol w.1 r1 k _ _
        rw [em, ed] at E
        obtain ⟨r', b1, b2, b3⟩ := ih (urow (urow r1 27 F) 26 S) (k1.tr ⟨fun c h1 h2 h3 h4 => by simp [urow, h1, h2], fun j hj => by simp [urow]⟩) (by
          obtain ⟨κ, c1, c2, c3⟩ := k2
          exact ⟨κ, c1, by simpa [urow] using c2, fun j hj => by simpa [urow] using c3 j hj⟩)
        refine ⟨r', b1, b2, ?_⟩
        refine am_iload_n dX6_dueThen_23 rfl ?_
        refine am_aload_n dX6_dueThen_24 rfl ?_
        refine am_getR 6 0 3 dX6_dueThen_25 fg_X6_25 (sh_38 g) (by decide) rfl (rf_38_0 g) ?_
        refine am_getI 1 0 dX6_dueThen_28 fg_X6_80 (sh_3 g) (by decide) rfl ?_
        refine am_icmp_geF (71) 102 dX6_dueThen_31 rfl (by show ¬ M 3 0 0 ≤ _; rw [hn]; exact nI_ge hk (by omega)) ?_
        refine am_aload_n dX6_dueThen_34 rfl ?_
        refine am_getR 6 3 39 dX6_dueThen_35 fg_X6_12 (sh_38 g) (by decide) rfl (rf_38_3 g) ?_
        refine am_iload_n dX6_dueThen_38 rfl ?_
        refine am_callV [_] dX6_dueThen_39 ml_X6_127 vm_X8_finesOf (sh_39 g) rfl (fun _ => Nat.le_of_ble_eq_true rfl) (by omega) rfl (ev_finesOfT (d := d + 3) (h := am_hM h (ol M r1)) (b := nI k) g f3) rfl ?_
        change am_At _ _ _ 42 [_, _, _, _, _, _] [_] _ _
        change am_At _ _ _ _ _ [am_I (r1 40 ((3 : Int32) + nI k).toNatClampNeg)] _ _
        rw [e3, a40]
        refine am_istore dX6_dueThen_42 (am_lb rfl) ?_
        change am_At _ _ _ 44 [_, _, _, _, _, _] [] _ _
        refine am_iload dX6_dueThen_44 rfl ?_
        refine am_aload_n dX6_dueThen_46 rfl ?_
        refine am_getR 6 2 29 dX6_dueThen_47 fg_X6_33 (sh_38 g) (by decide) rfl (rf_38_2 g) ?_
        refine am_iload_n dX6_dueThen_50 rfl ?_
        refine am_callV [_] dX6_dueThen_51 ml_X6_127 vm_X8_finesOf (sh_29 g) rfl (fun _ => Nat.le_of_ble_eq_true rfl) (by omega) rfl (ev_finesOf (d := d + 3) (h := am_hM h (ol M r1)) (b := nI k) g f3) rfl ?_
        change am_At _ _ _ 54 [_, _, _, _, _, _] [_, _] _ _
        change am_At _ _ _ _ _ [am_I (M 30 0 ((3 : Int32) + nI k).toNatClampNeg), _] _ _
        rw [e3]
        refine am_icmp_eqF (42) 96 dX6_dueThen_54 rfl hf ?_
        refine am_iconst 1 (v := 1) dX6_dueThen_57 (by decide) ?_
        refine am_iload_n dX6_dueThen_58 rfl ?_
        refine am_ishl dX6_dueThen_59 ?_
        refine am_istore dX6_dueThen_60 (am_lb rfl) ?_
        change am_At _ _ _ 62 [_, _, _, _, _, _] [] _ _
        refine am_aload_n dX6_dueThen_62 rfl ?_
        refine am_getR 6 1 28 dX6_dueThen_63 fg_X6_29 (sh_38 g) (by decide) rfl (rf_38_1 g) ?_
        refine am_iload_n dX6_dueThen_66 rfl ?_
        refine am_aload_n dX6_dueThen_67 rfl ?_
        refine am_getR 6 3 39 dX6_dueThen_68 fg_X6_12 (sh_38 g) (by decide) rfl (rf_38_3 g) ?_
        refine am_callV [] dX6_dueThen_71 ml_X6_40 vm_X8_hour (sh_39 g) rfl (fun _ => Nat.le_of_ble_eq_true rfl) (by omega) rfl (ev_hourT (d := d + 3) (h := am_hM h (ol M r1)) g) rfl ?_
        change am_At _ _ _ 74 [_, _, _, _, _, _] [_, _, _] _ _
        change am_At _ _ _ _ _ [am_I (r1 40 0), _, _] _ _
        rw [a40]
        refine am_iload dX6_dueThen_74 rfl ?_
        refine am_callV [_, _, _] dX6_dueThen_76 ml_X6_130 vm_X4_isDue (sh_28 g) rfl (fun _ => Nat.le_of_ble_eq_true rfl) (by omega) rfl (E) rfl ?_
        change am_At _ _ _ 79 [_, _, _, _, _, _] [_] _ _
        refine am_if_eq (10) 89 dX6_dueThen_79 rfl ?_ ?_
        · intro hc
          have hd : dueB M q len dp k (r 40 0) (r 40 (3 + k)) = false := by
            cases hx : dueB M q len dp k (r 40 0) (r 40 (3 + k)) with
            | true => rw [hx] at hc; exact absurd hc (by decide)
            | false => rfl
          refine am_iload_n dX6_dueThen_89 rfl ?_
          refine am_iload dX6_dueThen_90 rfl ?_
          refine am_iconst (-1) (v := (-1)) dX6_dueThen_92 (by decide) ?_
          refine am_ixor dX6_dueThen_93 ?_
          refine am_iand dX6_dueThen_94 ?_
          refine am_istore_n dX6_dueThen_95 (am_lb rfl) ?_
          change am_At _ _ _ 96 [_, _, _, _, _, _] [] _ _
          refine am_iinc dX6_dueThen_96 rfl (am_i1 k) ?_
          change am_At _ _ _ 99 [_, _, _, _, _, _] [] _ _
          refine am_goto (-76) 23 dX6_dueThen_99 rfl ?_
          refine am_At.drop 4 (am_At.drop 5 ?_)
          change am_At _ _ _ 23 [_, _, _, _, none, none] [] _ _
          have eb : (bitsN (fun b => if b < k + 1 then dueB M q len dp b (r 40 0) (r 40 (3 + b)) else dueB M q len dp b (M 30 0 0 + nI t) (M 30 0 (3 + b))) n) = (bitsN (fun b => if b < k then dueB M q len dp b (r 40 0) (r 40 (3 + b)) else dueB M q len dp b (M 30 0 0 + nI t) (M 30 0 (3 + b))) n) &&& (((1 : Int32) <<< (nI k &&& 31)) ^^^ (-1)) := by
            rw [bitsN_clear _ (by omega) hk]
            exact bitsN_cong (fun b _ => by
              by_cases e : b = k
              · subst e; rw [if_pos (by omega), if_pos rfl, hd]
              · by_cases e2 : b < k
                · rw [if_pos (by omega), if_neg e, if_pos e2]
                · rw [if_neg (by omega), if_neg e, if_neg e2])
          rw [eb] at b3
          exact b3
        · intro hc
          have hd : dueB M q len dp k (r 40 0) (r 40 (3 + k)) = true := by
            cases hx : dueB M q len dp k (r 40 0) (r 40 (3 + k)) with
            | true => rfl
            | false => rw [hx] at hc; exact absurd rfl hc
          refine am_iload_n dX6_dueThen_82 rfl ?_
          refine am_iload dX6_dueThen_83 rfl ?_
          refine am_ior dX6_dueThen_85 ?_
          refine am_goto (9) 95 dX6_dueThen_86 rfl ?_
          refine am_istore_n dX6_dueThen_95 (am_lb rfl) ?_
          change am_At _ _ _ 96 [_, _, _, _, _, _] [] _ _
          refine am_iinc dX6_dueThen_96 rfl (am_i1 k) ?_
          change am_At _ _ _ 99 [_, _, _, _, _, _] [] _ _
          refine am_goto (-76) 23 dX6_dueThen_99 rfl ?_
          refine am_At.drop 4 (am_At.drop 5 ?_)
          change am_At _ _ _ 23 [_, _, _, _, none, none] [] _ _
          have eb : (bitsN (fun b => if b < k + 1 then dueB M q len dp b (r 40 0) (r 40 (3 + b)) else dueB M q len dp b (M 30 0 0 + nI t) (M 30 0 (3 + b))) n) = (bitsN (fun b => if b < k then dueB M q len dp b (r 40 0) (r 40 (3 + b)) else dueB M q len dp b (M 30 0 0 + nI t) (M 30 0 (3 + b))) n) ||| ((1 : Int32) <<< (nI k &&& 31)) := by
            rw [bitsN_set _ (by omega) hk]
            exact bitsN_cong (fun b _ => by
              by_cases e : b = k
              · subst e; rw [if_pos (by omega), if_pos rfl, hd]
              · by_cases e2 : b < k
                · rw [if_pos (by omega), if_neg e, if_pos e2]
                · rw [if_neg (by omega), if_neg e, if_neg e2])
          rw [eb] at b3
          exact b3
