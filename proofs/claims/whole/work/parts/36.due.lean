/-! the LAW's value as mathematics -/
theorem stk_ind {cd fa fa' S S' : Nat → Int32} {dp : Nat → Nat} {len : Nat} (hd0 : dp 0 = 0) (hwf : ∀ k, k < len → lwf (cd k) (dp k) (dp (k + 1))) (hfa : ∀ j, j < 8 → fa j = fa' j) : ∀ k, k ≤ len → ∀ j, j < dp k → stkN cd fa S dp k j = stkN cd fa' S' dp k j := by
  intro k
  induction k with
  | zero => intro _ j hj; omega
  | succ k ih =>
    intro hk j hj
    have ih := ih (by omega)
    rw [stkN_s, stkN_s]
    unfold stk1
    rcases hwf k (by omega) with ⟨w1, w2, w3⟩ | ⟨w1, w2, w3, w4, w5⟩ | ⟨w1, w2, w3, w4, w5⟩
    · rw [if_neg w1, if_neg w1]
      unfold upd
      by_cases e : j = dp k
      · rw [if_pos e, if_pos e]
      · rw [if_neg e, if_neg e]
        exact ih j (by omega)
    · rw [if_pos w1, if_pos w1, if_pos w2, if_pos w2]
      unfold upd
      by_cases e : j = dp k
      · rw [if_pos e, if_pos e]
        obtain ⟨i, hi, e2⟩ := vp_in_of (fact_in w2 w3) (by omega)
        rw [e2, nI_clamp (by omega)]
        exact hfa i hi
      · rw [if_neg e, if_neg e]
        exact ih j (by omega)
    · rw [if_pos w1, if_pos w1, if_neg w2, if_neg w2]
      unfold upd
      by_cases e : j = dp k - 2
      · rw [if_pos e, if_pos e, ih (dp k - 2) (by omega), ih (dp k - 1) (by omega)]
      · rw [if_neg e, if_neg e]
        exact ih j (by omega)
def lval (cd : Nat → Int32) (len : Nat) (dp : Nat → Nat) (fa : Nat → Int32) : Int32 := stkN cd fa (fun _ => 0) dp len 0
/-- what the LAW may ask of a BOARD -/
def facF (M : Nat → Nat → Nat → Int32) (b : Nat) (hr fi : Int32) : Nat → Int32 := fun j => match j with
  | 0 => hr - hr / 24 * 24
  | 1 => hr / 24
  | 2 => nI b
  | 3 => M 4 0 b
  | 4 => M 5 0 b
  | 5 => M 6 0 b
  | 6 => M 7 0 b
  | _ => fi
/-- the LAW's scratch rows -/
def sc (M : Nat → Nat → Nat → Int32) (F S : Nat → Int32) : Nat → Nat → Nat → Int32 := am_row (am_row M 27 F) 26 S
theorem sc_sc (M : Nat → Nat → Nat → Int32) (F S F' S' : Nat → Int32) : sc (sc M F S) F' S' = sc M F' S' := by
  funext c r j
  simp only [sc, am_row]
  by_cases h : c = 26 ∧ r = 0
  · simp only [if_pos h]
  · by_cases h2 : c = 27 ∧ r = 0
    · simp only [if_neg h, if_pos h2]
    · simp only [if_neg h, if_neg h2]
theorem sc_out (M : Nat → Nat → Nat → Int32) (F S : Nat → Int32) {c : Nat} (h1 : c ≠ 26) (h2 : c ≠ 27) : sc M F S c = M c := by
  funext r j
  simp [sc, am_row, h1, h2]
theorem sc_id (M : Nat → Nat → Nat → Int32) : sc M (M 27 0) (M 26 0) = M := by
  unfold sc
  rw [am_row_id]
  exact am_row_id M 26
/-- the LAW stands well in its row q -/
def LW (M : Nat → Nat → Nat → Int32) (q len : Nat) (dp : Nat → Nat) : Prop := (q = 24 ∨ q = 25) ∧ M 23 0 1 = nI len ∧ len ≤ 150 ∧ dp 0 = 0 ∧ 1 ≤ dp len ∧ ∀ k, k < len → lwf (M q 0 k) (dp k) (dp (k + 1))
theorem LW.sc {M : Nat → Nat → Nat → Int32} {q len : Nat} {dp : Nat → Nat} (w : LW M q len dp) (F S : Nat → Int32) : LW (sc M F S) q len dp := by
  obtain ⟨w1, w2, w3, w4, w5, w6⟩ := w
  refine ⟨w1, w2, w3, w4, w5, ?_⟩
  rw [sc_out M F S (by omega) (by omega)]
  exact w6
theorem ev_value {d : Nat} {h : am_H} (g : lay h) {q len : Nat} {dp : Nat → Nat} (hq : h.2.2 23 0 = some q) (w : LW h.2.1 q len dp) {b : Nat} {hr fi : Int32} (hb : b < 16) :
    ∃ F S, am_Ev (d + 1) mX3_value [.inr (23, 0), .inr (3, 0), am_I (nI b), am_I hr, am_I fi] h (.inl (some (am_I (lval (h.2.1 q 0) len dp (facF h.2.1 b hr fi))), am_hM h (sc h.2.1 F S))) := by
  obtain ⟨w1, w2, w3, w4, w5, w6⟩ := w
  have key : ∀ q', q' = q → lval (h.2.1 q 0) len dp (facF h.2.1 b hr fi) = stkN (h.2.1 q' 0) (faM h.2.1 (nI b) hr fi 27 0) (h.2.1 26 0) dp len 0 := by
    intro q' e
    subst e
    refine stk_ind w4 w6 (fun j hj => ?_) len (Nat.le_refl _) 0 (by omega)
    have e1 : (nI b).toNatClampNeg = b := nI_clamp (by omega)
    match j, hj with
    | 0, _ => rfl
    | 1, _ => rfl
    | 2, _ => rfl
    | 3, _ => show h.2.1 4 0 b = h.2.1 4 0 (nI b).toNatClampNeg; rw [e1]
    | 4, _ => show h.2.1 5 0 b = h.2.1 5 0 (nI b).toNatClampNeg; rw [e1]
    | 5, _ => show h.2.1 6 0 b = h.2.1 6 0 (nI b).toNatClampNeg; rw [e1]
    | 6, _ => show h.2.1 7 0 b = h.2.1 7 0 (nI b).toNatClampNeg; rw [e1]
    | 7, _ => rfl
  have mem : ∀ S, am_row (faM h.2.1 (nI b) hr fi) 26 S = sc h.2.1 (faM h.2.1 (nI b) hr fi 27 0) S := by
    intro S
    funext c r j
    by_cases h1 : c = 26 ∧ r = 0
    · obtain ⟨rfl, rfl⟩ := h1
      rfl
    · by_cases h2 : c = 27 ∧ r = 0
      · obtain ⟨rfl, rfl⟩ := h2
        rfl
      · have h3 : ∀ i, ¬ (c = 27 ∧ r = 0 ∧ j = i) := fun i z => h2 ⟨z.1, z.2.1⟩
        simp only [sc, am_row, faM, am_u3, if_neg h1, if_neg h2, if_neg (h3 _)]
  have hb' : vp_in (nI b) 16 := vp_in_nI hb (by omega)
  rcases w1 with rfl | rfl
  · refine ⟨faM h.2.1 (nI b) hr fi 27 0, stkN (h.2.1 24 0) (faM h.2.1 (nI b) hr fi 27 0) (h.2.1 26 0) dp len, ?_⟩
    rw [key 24 rfl, ← mem]
    exact ev_value_24 g hq hb' w2 w3 w4 w6
  · refine ⟨faM h.2.1 (nI b) hr fi 27 0, stkN (h.2.1 25 0) (faM h.2.1 (nI b) hr fi 27 0) (h.2.1 26 0) dp len, ?_⟩
    rw [key 25 rfl, ← mem]
    exact ev_value_25 g hq hb' w2 w3 w4 w6
/-- a BOARD is due -/
def dueB (M : Nat → Nat → Nat → Int32) (q len : Nat) (dp : Nat → Nat) (b : Nat) (hr fi : Int32) : Bool := decide (0 < lval (M q 0) len dp (facF M b hr fi))
theorem dueB_sc {M : Nat → Nat → Nat → Int32} {q len : Nat} {dp : Nat → Nat} (w : q = 24 ∨ q = 25) (F S : Nat → Int32) (b : Nat) (hr fi : Int32) : lval (sc M F S q 0) len dp (facF (sc M F S) b hr fi) = lval (M q 0) len dp (facF M b hr fi) := by
  rw [sc_out M F S (c := q) (by omega) (by omega)]
  rfl
theorem ev_isDue {d : Nat} {h : am_H} (g : lay h) {q len : Nat} {dp : Nat → Nat} (hq : h.2.2 23 0 = some q) (w : LW h.2.1 q len dp) {b : Nat} {hr fi : Int32} (hb : b < 16) : ∃ F S, am_Ev (d + 2) mX4_isDue [.inr (28, 0), am_I (nI b), am_I hr, am_I fi] h (.inl (some (am_I (if dueB h.2.1 q len dp b hr fi = true then 1 else 0)), am_hM h (sc h.2.1 F S))) := by
  obtain ⟨F, S, E⟩ := ev_value (d := d) g hq w (b := b) (hr := hr) (fi := fi) hb
  refine ⟨F, S, ?_⟩
  refine am_Ev.mk (by decide +kernel) rfl rfl (Nat.le_refl _) (Nat.le_refl _) ?_
  change am_At _ _ _ 0 [_, _, _, _] [] _ _
  refine am_aload_n dX4_isDue_0 rfl ?_
  refine am_getR 4 1 23 dX4_isDue_1 fg_X4_15 (sh_28 g) (by decide) rfl (rf_28_1 g) ?_
  refine am_aload_n dX4_isDue_4 rfl ?_
  refine am_getR 4 0 3 dX4_isDue_5 fg_X4_9 (sh_28 g) (by decide) rfl (rf_28_0 g) ?_
  refine am_iload_n dX4_isDue_8 rfl ?_
  refine am_iload_n dX4_isDue_9 rfl ?_
  refine am_iload_n dX4_isDue_10 rfl ?_
  refine am_callV [_, _, _, _] dX4_isDue_11 ml_X4_19 vm_X3_value (sh_23 g) rfl (fun _ => Nat.le_of_ble_eq_true rfl) (by omega) rfl (E) rfl ?_
  change am_At _ _ _ 14 [_, _, _, _] [_] _ _
  refine am_if_le (7) 21 dX4_isDue_14 rfl ?_ ?_
  · intro hc
    have hd : dueB h.2.1 q len dp b hr fi = false := by unfold dueB; simp [Int32.not_lt.mpr hc]
    rw [hd]
    refine am_iconst 0 (v := 0) dX4_isDue_21 (by decide) ?_
    exact am_zret dX4_isDue_22 rfl rfl
  · intro hc
    have hd : dueB h.2.1 q len dp b hr fi = true := by unfold dueB; simp [Int32.not_le.mp hc]
    rw [hd]
    refine am_iconst 1 (v := 1) dX4_isDue_17 (by decide) ?_
    refine am_goto (4) 22 dX4_isDue_18 rfl ?_
    exact am_zret dX4_isDue_22 rfl rfl
theorem ev_dueBits {d : Nat} {h : am_H} (g : lay h) {q len : Nat} {dp : Nat → Nat} (hq : h.2.2 23 0 = some q) (w : LW h.2.1 q len dp) {n : Nat} (hn : h.2.1 3 0 0 = nI n) (hn16 : n ≤ 16) {hr : Int32} : ∃ F S, am_Ev (d + 2) mX4_dueBits [.inr (28, 0), .inr (29, 0), am_I hr] h (.inl (some (am_I (bitsN (fun b => dueB h.2.1 q len dp b hr (h.2.1 30 0 (3 + b))) n)), am_hM h (sc h.2.1 F S))) := by
  have key := am_loop (Pr := fun k => ∀ F0 S0, ∃ F S, am_At am_X0 (d + 2) mX4_dueBits 5 [some (.inr (28, 0)), some (.inr (29, 0)), some (am_I hr), some (am_I (bitsN (fun b => dueB h.2.1 q len dp b hr (h.2.1 30 0 (3 + b))) k)), some (am_I (nI k))] [] (am_hM h (sc h.2.1 F0 S0)) (.inl (some (am_I (bitsN (fun b => dueB h.2.1 q len dp b hr (h.2.1 30 0 (3 + b))) n)), am_hM h (sc h.2.1 F S)))) n ?_ ?_ 0 (by omega)
  · obtain ⟨F, S, key⟩ := key (h.2.1 27 0) (h.2.1 26 0)
    refine ⟨F, S, ?_⟩
    rw [sc_id] at key
    refine am_Ev.mk (by decide +kernel) rfl rfl (Nat.le_refl _) (Nat.le_refl _) ?_
    change am_At _ _ _ 0 [_, _, _, _, _] [] _ _
    refine am_iconst 0 (v := 0) dX4_dueBits_0 (by decide) ?_
    refine am_istore_n dX4_dueBits_1 (am_lb rfl) ?_
    change am_At _ _ _ 2 [_, _, _, _, _] [] _ _
    refine am_iconst 0 (v := 0) dX4_dueBits_2 (by decide) ?_
    refine am_istore dX4_dueBits_3 (am_lb rfl) ?_
    change am_At _ _ _ 5 [_, _, _, _, _] [] _ _
    exact key
  · intro F0 S0
    refine ⟨F0, S0, ?_⟩
    refine am_iload dX4_dueBits_5 rfl ?_
    refine am_aload_n dX4_dueBits_7 rfl ?_
    refine am_getR 4 0 3 dX4_dueBits_8 fg_X4_9 (sh_28 g) (by decide) rfl (rf_28_0 g) ?_
    refine am_getI 1 0 dX4_dueBits_11 fg_X4_25 (sh_3 g) (by decide) rfl ?_
    refine am_icmp_geT (43) 57 dX4_dueBits_14 rfl (by show h.2.1 3 0 0 ≤ _; rw [hn]; exact Int32.le_refl _) ?_
    refine am_iload_n dX4_dueBits_57 rfl ?_
    exact am_iret dX4_dueBits_58 rfl
  · intro k hk ih F0 S0
    obtain ⟨F1, S1, E⟩ := ev_value (d := d) (h := am_hM h (sc h.2.1 F0 S0)) g hq (w.sc F0 S0) (b := k) (hr := hr) (fi := h.2.1 30 0 (3 + k)) (by omega)
    have em : am_hM (am_hM h (sc h.2.1 F0 S0)) (sc (am_hM h (sc h.2.1 F0 S0)).2.1 F1 S1) = am_hM h (sc h.2.1 F1 S1) := by show am_hM h (sc (sc h.2.1 F0 S0) F1 S1) = _; rw [sc_sc]
    have ev : lval ((am_hM h (sc h.2.1 F0 S0)).2.1 q 0) len dp (facF (am_hM h (sc h.2.1 F0 S0)).2.1 k hr (h.2.1 30 0 (3 + k))) = lval (h.2.1 q 0) len dp (facF h.2.1 k hr (h.2.1 30 0 (3 + k))) := dueB_sc w.1 F0 S0 k hr _
    rw [em, ev] at E
    obtain ⟨F, S, ih⟩ := ih F1 S1
    refine ⟨F, S, ?_⟩
    have e3 : ((3 : Int32) + nI k).toNatClampNeg = 3 + k := by rw [show (3 : Int32) = nI 3 from rfl, nI_add]; exact nI_clamp (by omega)
    refine am_iload dX4_dueBits_5 rfl ?_
    refine am_aload_n dX4_dueBits_7 rfl ?_
    refine am_getR 4 0 3 dX4_dueBits_8 fg_X4_9 (sh_28 g) (by decide) rfl (rf_28_0 g) ?_
    refine am_getI 1 0 dX4_dueBits_11 fg_X4_25 (sh_3 g) (by decide) rfl ?_
    refine am_icmp_geF (43) 57 dX4_dueBits_14 rfl (by show ¬ h.2.1 3 0 0 ≤ _; rw [hn]; exact nI_ge hk (by omega)) ?_
    refine am_iload_n dX4_dueBits_17 rfl ?_
    refine am_aload_n dX4_dueBits_18 rfl ?_
    refine am_getR 4 1 23 dX4_dueBits_19 fg_X4_15 (sh_28 g) (by decide) rfl (rf_28_1 g) ?_
    refine am_aload_n dX4_dueBits_22 rfl ?_
    refine am_getR 4 0 3 dX4_dueBits_23 fg_X4_9 (sh_28 g) (by decide) rfl (rf_28_0 g) ?_
    refine am_iload dX4_dueBits_26 rfl ?_
    refine am_iload_n dX4_dueBits_28 rfl ?_
    refine am_aload_n dX4_dueBits_29 rfl ?_
    refine am_iload dX4_dueBits_30 rfl ?_
    refine am_callV [_] dX4_dueBits_32 ml_X4_31 vm_X8_finesOf (sh_29 g) rfl (fun _ => Nat.le_of_ble_eq_true rfl) (by omega) rfl (ev_finesOf (d := d + 1) (h := am_hM h (sc h.2.1 F0 S0)) (b := nI k) g (by rw [show (3 : Int32) = nI 3 from rfl, nI_add]; exact vp_in_nI (by omega) (by omega))) rfl ?_
    change am_At _ _ _ 35 [_, _, _, _, _] [_, _, _, _, _, _] _ _
    change am_At _ _ _ _ _ [am_I (h.2.1 30 0 ((3 : Int32) + nI k).toNatClampNeg), _, _, _, _, _] _ _
    rw [e3]
    refine am_callV [_, _, _, _] dX4_dueBits_35 ml_X4_19 vm_X3_value (sh_23 g) rfl (fun _ => Nat.le_of_ble_eq_true rfl) (by omega) rfl (E) rfl ?_
    change am_At _ _ _ 38 [_, _, _, _, _] [_, _] _ _
    refine am_if_le (10) 48 dX4_dueBits_38 rfl ?_ ?_
    · intro hc
      have hd : dueB h.2.1 q len dp k hr (h.2.1 30 0 (3 + k)) = false := by unfold dueB; simp [Int32.not_lt.mpr hc]
      refine am_iconst 0 (v := 0) dX4_dueBits_48 (by decide) ?_
      refine am_ior dX4_dueBits_49 ?_
      refine am_istore_n dX4_dueBits_50 (am_lb rfl) ?_
      change am_At _ _ _ 51 [_, _, _, _, _] [] _ _
      refine am_iinc dX4_dueBits_51 rfl (am_i1 k) ?_
      change am_At _ _ _ 54 [_, _, _, _, _] [] _ _
      refine am_goto (-49) 5 dX4_dueBits_54 rfl ?_
      simpa [bitsN_s, hd] using ih
    · intro hc
      have hd : dueB h.2.1 q len dp k hr (h.2.1 30 0 (3 + k)) = true := by unfold dueB; simp [Int32.not_le.mp hc]
      refine am_iconst 1 (v := 1) dX4_dueBits_41 (by decide) ?_
      refine am_iload dX4_dueBits_42 rfl ?_
      refine am_ishl dX4_dueBits_44 ?_
      refine am_goto (4) 49 dX4_dueBits_45 rfl ?_
      refine am_ior dX4_dueBits_49 ?_
      refine am_istore_n dX4_dueBits_50 (am_lb rfl) ?_
      change am_At _ _ _ 51 [_, _, _, _, _] [] _ _
      refine am_iinc dX4_dueBits_51 rfl (am_i1 k) ?_
      change am_At _ _ _ 54 [_, _, _, _, _] [] _ _
      refine am_goto (-49) 5 dX4_dueBits_54 rfl ?_
      simpa [bitsN_s, hd] using ih
theorem ev_dueBitsT {d : Nat} {h : am_H} (g : lay h) {q len : Nat} {dp : Nat → Nat} (hq : h.2.2 23 0 = some q) (w : LW h.2.1 q len dp) {n : Nat} (hn : h.2.1 3 0 0 = nI n) (hn16 : n ≤ 16) {hr : Int32} : ∃ F S, am_Ev (d + 2) mX4_dueBits [.inr (28, 0), .inr (39, 0), am_I hr] h (.inl (some (am_I (bitsN (fun b => dueB h.2.1 q len dp b hr (h.2.1 40 0 (3 + b))) n)), am_hM h (sc h.2.1 F S))) := by
  have key := am_loop (Pr := fun k => ∀ F0 S0, ∃ F S, am_At am_X0 (d + 2) mX4_dueBits 5 [some (.inr (28, 0)), some (.inr (39, 0)), some (am_I hr), some (am_I (bitsN (fun b => dueB h.2.1 q len dp b hr (h.2.1 40 0 (3 + b))) k)), some (am_I (nI k))] [] (am_hM h (sc h.2.1 F0 S0)) (.inl (some (am_I (bitsN (fun b => dueB h.2.1 q len dp b hr (h.2.1 40 0 (3 + b))) n)), am_hM h (sc h.2.1 F S)))) n ?_ ?_ 0 (by omega)
  · obtain ⟨F, S, key⟩ := key (h.2.1 27 0) (h.2.1 26 0)
    refine ⟨F, S, ?_⟩
    rw [sc_id] at key
    refine am_Ev.mk (by decide +kernel) rfl rfl (Nat.le_refl _) (Nat.le_refl _) ?_
    change am_At _ _ _ 0 [_, _, _, _, _] [] _ _
    refine am_iconst 0 (v := 0) dX4_dueBits_0 (by decide) ?_
    refine am_istore_n dX4_dueBits_1 (am_lb rfl) ?_
    change am_At _ _ _ 2 [_, _, _, _, _] [] _ _
    refine am_iconst 0 (v := 0) dX4_dueBits_2 (by decide) ?_
    refine am_istore dX4_dueBits_3 (am_lb rfl) ?_
    change am_At _ _ _ 5 [_, _, _, _, _] [] _ _
    exact key
  · intro F0 S0
    refine ⟨F0, S0, ?_⟩
    refine am_iload dX4_dueBits_5 rfl ?_
    refine am_aload_n dX4_dueBits_7 rfl ?_
    refine am_getR 4 0 3 dX4_dueBits_8 fg_X4_9 (sh_28 g) (by decide) rfl (rf_28_0 g) ?_
    refine am_getI 1 0 dX4_dueBits_11 fg_X4_25 (sh_3 g) (by decide) rfl ?_
    refine am_icmp_geT (43) 57 dX4_dueBits_14 rfl (by show h.2.1 3 0 0 ≤ _; rw [hn]; exact Int32.le_refl _) ?_
    refine am_iload_n dX4_dueBits_57 rfl ?_
    exact am_iret dX4_dueBits_58 rfl
  · intro k hk ih F0 S0
    obtain ⟨F1, S1, E⟩ := ev_value (d := d) (h := am_hM h (sc h.2.1 F0 S0)) g hq (w.sc F0 S0) (b := k) (hr := hr) (fi := h.2.1 40 0 (3 + k)) (by omega)
    have em : am_hM (am_hM h (sc h.2.1 F0 S0)) (sc (am_hM h (sc h.2.1 F0 S0)).2.1 F1 S1) = am_hM h (sc h.2.1 F1 S1) := by show am_hM h (sc (sc h.2.1 F0 S0) F1 S1) = _; rw [sc_sc]
    have ev : lval ((am_hM h (sc h.2.1 F0 S0)).2.1 q 0) len dp (facF (am_hM h (sc h.2.1 F0 S0)).2.1 k hr (h.2.1 40 0 (3 + k))) = lval (h.2.1 q 0) len dp (facF h.2.1 k hr (h.2.1 40 0 (3 + k))) := dueB_sc w.1 F0 S0 k hr _
    rw [em, ev] at E
    obtain ⟨F, S, ih⟩ := ih F1 S1
    refine ⟨F, S, ?_⟩
    have e3 : ((3 : Int32) + nI k).toNatClampNeg = 3 + k := by rw [show (3 : Int32) = nI 3 from rfl, nI_add]; exact nI_clamp (by omega)
    refine am_iload dX4_dueBits_5 rfl ?_
    refine am_aload_n dX4_dueBits_7 rfl ?_
    refine am_getR 4 0 3 dX4_dueBits_8 fg_X4_9 (sh_28 g) (by decide) rfl (rf_28_0 g) ?_
    refine am_getI 1 0 dX4_dueBits_11 fg_X4_25 (sh_3 g) (by decide) rfl ?_
    refine am_icmp_geF (43) 57 dX4_dueBits_14 rfl (by show ¬ h.2.1 3 0 0 ≤ _; rw [hn]; exact nI_ge hk (by omega)) ?_
    refine am_iload_n dX4_dueBits_17 rfl ?_
    refine am_aload_n dX4_dueBits_18 rfl ?_
    refine am_getR 4 1 23 dX4_dueBits_19 fg_X4_15 (sh_28 g) (by decide) rfl (rf_28_1 g) ?_
    refine am_aload_n dX4_dueBits_22 rfl ?_
    refine am_getR 4 0 3 dX4_dueBits_23 fg_X4_9 (sh_28 g) (by decide) rfl (rf_28_0 g) ?_
    refine am_iload dX4_dueBits_26 rfl ?_
    refine am_iload_n dX4_dueBits_28 rfl ?_
    refine am_aload_n dX4_dueBits_29 rfl ?_
    refine am_iload dX4_dueBits_30 rfl ?_
    refine am_callV [_] dX4_dueBits_32 ml_X4_31 vm_X8_finesOf (sh_39 g) rfl (fun _ => Nat.le_of_ble_eq_true rfl) (by omega) rfl (ev_finesOfT (d := d + 1) (h := am_hM h (sc h.2.1 F0 S0)) (b := nI k) g (by rw [show (3 : Int32) = nI 3 from rfl, nI_add]; exact vp_in_nI (by omega) (by omega))) rfl ?_
    change am_At _ _ _ 35 [_, _, _, _, _] [_, _, _, _, _, _] _ _
    change am_At _ _ _ _ _ [am_I (h.2.1 40 0 ((3 : Int32) + nI k).toNatClampNeg), _, _, _, _, _] _ _
    rw [e3]
    refine am_callV [_, _, _, _] dX4_dueBits_35 ml_X4_19 vm_X3_value (sh_23 g) rfl (fun _ => Nat.le_of_ble_eq_true rfl) (by omega) rfl (E) rfl ?_
    change am_At _ _ _ 38 [_, _, _, _, _] [_, _] _ _
    refine am_if_le (10) 48 dX4_dueBits_38 rfl ?_ ?_
    · intro hc
      have hd : dueB h.2.1 q len dp k hr (h.2.1 40 0 (3 + k)) = false := by unfold dueB; simp [Int32.not_lt.mpr hc]
      refine am_iconst 0 (v := 0) dX4_dueBits_48 (by decide) ?_
      refine am_ior dX4_dueBits_49 ?_
      refine am_istore_n dX4_dueBits_50 (am_lb rfl) ?_
      change am_At _ _ _ 51 [_, _, _, _, _] [] _ _
      refine am_iinc dX4_dueBits_51 rfl (am_i1 k) ?_
      change am_At _ _ _ 54 [_, _, _, _, _] [] _ _
      refine am_goto (-49) 5 dX4_dueBits_54 rfl ?_
      simpa [bitsN_s, hd] using ih
    · intro hc
      have hd : dueB h.2.1 q len dp k hr (h.2.1 40 0 (3 + k)) = true := by unfold dueB; simp [Int32.not_le.mp hc]
      refine am_iconst 1 (v := 1) dX4_dueBits_41 (by decide) ?_
      refine am_iload dX4_dueBits_42 rfl ?_
      refine am_ishl dX4_dueBits_44 ?_
      refine am_goto (4) 49 dX4_dueBits_45 rfl ?_
      refine am_ior dX4_dueBits_49 ?_
      refine am_istore_n dX4_dueBits_50 (am_lb rfl) ?_
      change am_At _ _ _ 51 [_, _, _, _, _] [] _ _
      refine am_iinc dX4_dueBits_51 rfl (am_i1 k) ?_
      change am_At _ _ _ 54 [_, _, _, _, _] [] _ _
      refine am_goto (-49) 5 dX4_dueBits_54 rfl ?_
      simpa [bitsN_s, hd] using ih
