/-! an HOUR as mathematics: a state's row is a function R -/
theorem n35 {k : Nat} (a : Nat) (h : a + k < 2 ^ 31) : (nI a + nI k).toNatClampNeg = a + k := by rw [nI_add]; exact nI_clamp h
theorem n35v {k : Nat} (a n : Nat) (h : a + k < n) (hn : n < 2 ^ 31) : vp_in (nI a + nI k) n := by rw [nI_add]; exact vp_in_nI h hn
def letB (M : Nat → Nat → Nat → Int32) (ms op : Int32) (b : Nat) : Bool := decide (ms ≤ M 4 0 b) || decide (¬ bitZ op (nI b) = 0)
/-- from p on, by m BOARDS at most, while f lets pass -/
def pon (f : Nat → Bool) : Nat → Nat → Nat
  | 0, p => p
  | m + 1, p => if f p = true then pon f m (p + 1) else p
theorem pon_le (f : Nat → Bool) : ∀ m p, pon f m p ≤ p + m
  | 0, p => Nat.le_refl _
  | m + 1, p => by
    unfold pon
    split
    · have := pon_le f m (p + 1); omega
    · omega
theorem pon_ge (f : Nat → Bool) : ∀ m p, p ≤ pon f m p
  | 0, p => Nat.le_refl _
  | m + 1, p => by
    unfold pon
    split
    · have := pon_ge f m (p + 1); omega
    · omega
def ponE (f : Nat → Bool) (n V p : Nat) : Nat := pon f (min (p + V) n - p) p
theorem ponE_le (f : Nat → Bool) {n V p : Nat} (h : p ≤ n) : ponE f n V p ≤ n := by
  have := pon_le f (min (p + V) n - p) p
  unfold ponE
  omega
theorem ponE_leV (f : Nat → Bool) {n V p : Nat} : ponE f n V p ≤ p + V := by
  have := pon_le f (min (p + V) n - p) p
  unfold ponE
  omega
theorem ponE_ge (f : Nat → Bool) {n V p : Nat} : p ≤ ponE f n V p := pon_ge f _ p
def fineR (R : Nat → Int32) (b : Int32) : Nat → Int32 := fun j => if 3 ≤ j ∧ j < 19 then R j + (b >>> (nI (j - 3) &&& 31) &&& 1) else R j
/-- BARGE k's part of an HOUR: it comes; it goes on and KNOCKS; it is THROUGH -/
def r1R (cm : Int32) (k : Nat) (R : Nat → Int32) : Nat → Int32 := if R (35 + k) = 0 then (if cm = R 0 then upd R (35 + k) 1 else R) else R
def onR (n V : Nat) (lt : Nat → Bool) (k : Nat) (R : Nat → Int32) : Nat := ponE lt n V (R (39 + k)).toNatClampNeg
def r2R (n V : Nat) (lt : Nat → Bool) (k : Nat) (R : Nat → Int32) : Nat → Int32 := if onR n V lt k R < n ∧ onR n V lt k R < (R (39 + k)).toNatClampNeg + V then upd (upd R (39 + k) (nI (onR n V lt k R))) (19 + onR n V lt k R) (upd R (39 + k) (nI (onR n V lt k R)) (19 + onR n V lt k R) + 1) else upd R (39 + k) (nI (onR n V lt k R))
def r3R (n V : Nat) (lt : Nat → Bool) (k : Nat) (R : Nat → Int32) : Nat → Int32 := if onR n V lt k R = n then upd (upd (r2R n V lt k R) (35 + k) 2) (43 + k) (r2R n V lt k R 0) else r2R n V lt k R
def barR (n V : Nat) (lt : Nat → Bool) (cm : Int32) (k : Nat) (R : Nat → Int32) : Nat → Int32 := if r1R cm k R (35 + k) = 1 then r3R n V lt k (r1R cm k R) else r1R cm k R
def barsR (n V : Nat) (lt : Nat → Nat → Bool) (cm : Nat → Int32) : Nat → (Nat → Int32) → (Nat → Int32)
  | 0, R => R
  | k + 1, R => barR n V (lt k) (cm k) k (barsR n V lt cm k R)
def opR (R : Nat → Int32) (due : Int32) : Int32 := R 1 ||| (due &&& (R 2 ^^^ -1))
def hourR (M : Nat → Nat → Nat → Int32) (n V nb : Nat) (due fz : Int32) (R : Nat → Int32) : Nat → Int32 :=
  let op := opR R due &&& (fz ^^^ -1)
  let R1 := barsR n V (fun k => letB M (M 8 0 k) op) (fun k => M 9 0 k) nb (fineR R ((op ^^^ due) &&& (fz ^^^ -1)))
  upd R1 0 (R1 0 + 1)
theorem fineM_row (M : Nat → Nat → Nat → Int32) (q : Nat) (R : Nat → Int32) (b : Int32) : fineM (am_row M q R) q b 16 = am_row M q (fineR R b) := by
  funext c r j
  simp only [fineM, am_row, fineR]
  by_cases h : c = q ∧ r = 0
  · by_cases h2 : 3 ≤ j ∧ j < 19
    · rw [if_pos ⟨h.1, h.2, h2.1, by omega⟩, if_pos h, if_pos h, if_pos h2]
    · rw [if_neg (fun z => h2 ⟨z.2.2.1, by omega⟩), if_pos h, if_pos h, if_neg h2]
  · rw [if_neg (fun z => h ⟨z.1, z.2.1⟩), if_neg h, if_neg h]
theorem hM_row (h : am_H) (M : Nat → Nat → Nat → Int32) (q j : Nat) (R : Nat → Int32) (v : Int32) : am_hM (am_hM h (am_row M q R)) (am_u3 (am_hM h (am_row M q R)).2.1 q 0 j v) = am_hM h (am_row M q (upd R j v)) := by
  show am_hM h (am_u3 (am_row M q R) q 0 j v) = _
  rw [am_row_u]
theorem evr_whereIs {d : Nat} {h : am_H} (g : lay h) {M : Nat → Nat → Nat → Int32} {R : Nat → Int32} {k : Nat} (hk : k < 4) : am_Ev (d + 0) mX8_whereIs [.inr (29, 0), am_I (nI k)] (am_hM h (am_row M 30 R)) (.inl (some (am_I (R (35 + k))), (am_hM h (am_row M 30 R)))) := by
  have E := ev_whereIs (d := d) (h := (am_hM h (am_row M 30 R))) g (b := nI k) (n35v 35 47 (by omega) (by omega))
  rw [show ((35 : Int32) + nI k).toNatClampNeg = 35 + k from n35 35 (by omega)] at E
  exact E
theorem evr_passedBy {d : Nat} {h : am_H} (g : lay h) {M : Nat → Nat → Nat → Int32} {R : Nat → Int32} {k : Nat} (hk : k < 4) : am_Ev (d + 0) mX8_passedBy [.inr (29, 0), am_I (nI k)] (am_hM h (am_row M 30 R)) (.inl (some (am_I (R (39 + k))), (am_hM h (am_row M 30 R)))) := by
  have E := ev_passedBy (d := d) (h := (am_hM h (am_row M 30 R))) g (b := nI k) (n35v 39 47 (by omega) (by omega))
  rw [show ((39 : Int32) + nI k).toNatClampNeg = 39 + k from n35 39 (by omega)] at E
  exact E
theorem evr_hour {d : Nat} {h : am_H} (g : lay h) {M : Nat → Nat → Nat → Int32} {R : Nat → Int32} : am_Ev (d + 0) mX8_hour [.inr (29, 0)] (am_hM h (am_row M 30 R)) (.inl (some (am_I (R 0)), (am_hM h (am_row M 30 R)))) := by
  have E := ev_hour (d := d) (h := (am_hM h (am_row M 30 R))) g
  exact E
theorem evr_come {d : Nat} {h : am_H} (g : lay h) {M : Nat → Nat → Nat → Int32} {R : Nat → Int32} {k : Nat} (hk : k < 4) : am_Ev (d + 0) mX8_come [.inr (29, 0), am_I (nI k)] (am_hM h (am_row M 30 R)) (.inl (none, (am_hM h (am_row M 30 (upd R (35 + k) 1))))) := by
  have E := ev_come (d := d) (h := (am_hM h (am_row M 30 R))) g (b := nI k) (n35v 35 47 (by omega) (by omega))
  rw [show ((35 : Int32) + nI k).toNatClampNeg = 35 + k from n35 35 (by omega), hM_row] at E
  exact E
theorem evr_pass {d : Nat} {h : am_H} (g : lay h) {M : Nat → Nat → Nat → Int32} {R : Nat → Int32} {k : Nat} (hk : k < 4) {v : Int32} : am_Ev (d + 0) mX8_pass [.inr (29, 0), am_I (nI k), am_I v] (am_hM h (am_row M 30 R)) (.inl (none, (am_hM h (am_row M 30 (upd R (39 + k) v))))) := by
  have E := ev_pass (d := d) (h := (am_hM h (am_row M 30 R))) g (b := nI k) (v := v) (n35v 39 47 (by omega) (by omega))
  rw [show ((39 : Int32) + nI k).toNatClampNeg = 39 + k from n35 39 (by omega), hM_row] at E
  exact E
theorem evr_knock {d : Nat} {h : am_H} (g : lay h) {M : Nat → Nat → Nat → Int32} {R : Nat → Int32} {k : Nat} (hk : k < 16) : am_Ev (d + 0) mX8_knock [.inr (29, 0), am_I (nI k)] (am_hM h (am_row M 30 R)) (.inl (none, (am_hM h (am_row M 30 (upd R (19 + k) (R (19 + k) + 1)))))) := by
  have E := ev_knock (d := d) (h := (am_hM h (am_row M 30 R))) g (b := nI k) (n35v 19 47 (by omega) (by omega)) (n35v 19 47 (by omega) (by omega))
  rw [show ((19 : Int32) + nI k).toNatClampNeg = 19 + k from n35 19 (by omega), hM_row] at E
  exact E
theorem evr_leave {d : Nat} {h : am_H} (g : lay h) {M : Nat → Nat → Nat → Int32} {R : Nat → Int32} {k : Nat} (hk : k < 4) : am_Ev (d + 1) mX8_leave [.inr (29, 0), am_I (nI k)] (am_hM h (am_row M 30 R)) (.inl (none, (am_hM h (am_row M 30 (upd (upd R (35 + k) 2) (43 + k) (R 0)))))) := by
  have E := ev_leave (d := d) (h := (am_hM h (am_row M 30 R))) g (b := nI k) (n35v 35 47 (by omega) (by omega)) (n35v 43 47 (by omega) (by omega))
  rw [show ((35 : Int32) + nI k).toNatClampNeg = 35 + k from n35 35 (by omega), show ((43 : Int32) + nI k).toNatClampNeg = 43 + k from n35 43 (by omega)] at E
  have e0 : am_u3 (am_hM h (am_row M 30 R)).2.1 30 0 (35 + k) 2 30 0 0 = R 0 := by
    show (if _ then _ else _) = _
    rw [if_neg (by omega)]
    rfl
  rw [e0] at E
  have e1 : am_u3 (am_u3 (am_hM h (am_row M 30 R)).2.1 30 0 (35 + k) 2) 30 0 (43 + k) (R 0) = am_row M 30 (upd (upd R (35 + k) 2) (43 + k) (R 0)) := by
    show am_u3 (am_u3 (am_row M 30 R) 30 0 (35 + k) 2) 30 0 (43 + k) (R 0) = _
    rw [am_row_u, am_row_u]
  rw [e1] at E
  exact E
theorem evr_addHour {d : Nat} {h : am_H} (g : lay h) {M : Nat → Nat → Nat → Int32} {R : Nat → Int32} : am_Ev (d + 0) mX8_addHour [.inr (29, 0)] (am_hM h (am_row M 30 R)) (.inl (none, (am_hM h (am_row M 30 (upd R 0 (R 0 + 1)))))) := by
  have E := ev_addHour (d := d) (h := (am_hM h (am_row M 30 R))) g
  rw [hM_row] at E
  exact E
theorem evr_fine {d : Nat} {h : am_H} (g : lay h) {M : Nat → Nat → Nat → Int32} {R : Nat → Int32} {b : Int32} : am_Ev d mX8_fine [.inr (29, 0), am_I b] (am_hM h (am_row M 30 R)) (.inl (none, am_hM h (am_row M 30 (fineR R b)))) := by
  have E := ev_fine (d := d) (h := (am_hM h (am_row M 30 R))) (b := b) g
  have e : am_hM (am_hM h (am_row M 30 R)) (fineM (am_hM h (am_row M 30 R)).2.1 30 b 16) = am_hM h (am_row M 30 (fineR R b)) := by
    show am_hM h (fineM (am_row M 30 R) 30 b 16) = _
    rw [fineM_row]
  rw [e] at E
  exact E
theorem evr_whereIsT {d : Nat} {h : am_H} (g : lay h) {M : Nat → Nat → Nat → Int32} {R : Nat → Int32} {k : Nat} (hk : k < 4) : am_Ev (d + 0) mX8_whereIs [.inr (39, 0), am_I (nI k)] (am_hM h (am_row M 40 R)) (.inl (some (am_I (R (35 + k))), (am_hM h (am_row M 40 R)))) := by
  have E := ev_whereIsT (d := d) (h := (am_hM h (am_row M 40 R))) g (b := nI k) (n35v 35 47 (by omega) (by omega))
  rw [show ((35 : Int32) + nI k).toNatClampNeg = 35 + k from n35 35 (by omega)] at E
  exact E
theorem evr_passedByT {d : Nat} {h : am_H} (g : lay h) {M : Nat → Nat → Nat → Int32} {R : Nat → Int32} {k : Nat} (hk : k < 4) : am_Ev (d + 0) mX8_passedBy [.inr (39, 0), am_I (nI k)] (am_hM h (am_row M 40 R)) (.inl (some (am_I (R (39 + k))), (am_hM h (am_row M 40 R)))) := by
  have E := ev_passedByT (d := d) (h := (am_hM h (am_row M 40 R))) g (b := nI k) (n35v 39 47 (by omega) (by omega))
  rw [show ((39 : Int32) + nI k).toNatClampNeg = 39 + k from n35 39 (by omega)] at E
  exact E
theorem evr_hourT {d : Nat} {h : am_H} (g : lay h) {M : Nat → Nat → Nat → Int32} {R : Nat → Int32} : am_Ev (d + 0) mX8_hour [.inr (39, 0)] (am_hM h (am_row M 40 R)) (.inl (some (am_I (R 0)), (am_hM h (am_row M 40 R)))) := by
  have E := ev_hourT (d := d) (h := (am_hM h (am_row M 40 R))) g
  exact E
theorem evr_comeT {d : Nat} {h : am_H} (g : lay h) {M : Nat → Nat → Nat → Int32} {R : Nat → Int32} {k : Nat} (hk : k < 4) : am_Ev (d + 0) mX8_come [.inr (39, 0), am_I (nI k)] (am_hM h (am_row M 40 R)) (.inl (none, (am_hM h (am_row M 40 (upd R (35 + k) 1))))) := by
  have E := ev_comeT (d := d) (h := (am_hM h (am_row M 40 R))) g (b := nI k) (n35v 35 47 (by omega) (by omega))
  rw [show ((35 : Int32) + nI k).toNatClampNeg = 35 + k from n35 35 (by omega), hM_row] at E
  exact E
theorem evr_passT {d : Nat} {h : am_H} (g : lay h) {M : Nat → Nat → Nat → Int32} {R : Nat → Int32} {k : Nat} (hk : k < 4) {v : Int32} : am_Ev (d + 0) mX8_pass [.inr (39, 0), am_I (nI k), am_I v] (am_hM h (am_row M 40 R)) (.inl (none, (am_hM h (am_row M 40 (upd R (39 + k) v))))) := by
  have E := ev_passT (d := d) (h := (am_hM h (am_row M 40 R))) g (b := nI k) (v := v) (n35v 39 47 (by omega) (by omega))
  rw [show ((39 : Int32) + nI k).toNatClampNeg = 39 + k from n35 39 (by omega), hM_row] at E
  exact E
theorem evr_knockT {d : Nat} {h : am_H} (g : lay h) {M : Nat → Nat → Nat → Int32} {R : Nat → Int32} {k : Nat} (hk : k < 16) : am_Ev (d + 0) mX8_knock [.inr (39, 0), am_I (nI k)] (am_hM h (am_row M 40 R)) (.inl (none, (am_hM h (am_row M 40 (upd R (19 + k) (R (19 + k) + 1)))))) := by
  have E := ev_knockT (d := d) (h := (am_hM h (am_row M 40 R))) g (b := nI k) (n35v 19 47 (by omega) (by omega)) (n35v 19 47 (by omega) (by omega))
  rw [show ((19 : Int32) + nI k).toNatClampNeg = 19 + k from n35 19 (by omega), hM_row] at E
  exact E
theorem evr_leaveT {d : Nat} {h : am_H} (g : lay h) {M : Nat → Nat → Nat → Int32} {R : Nat → Int32} {k : Nat} (hk : k < 4) : am_Ev (d + 1) mX8_leave [.inr (39, 0), am_I (nI k)] (am_hM h (am_row M 40 R)) (.inl (none, (am_hM h (am_row M 40 (upd (upd R (35 + k) 2) (43 + k) (R 0)))))) := by
  have E := ev_leaveT (d := d) (h := (am_hM h (am_row M 40 R))) g (b := nI k) (n35v 35 47 (by omega) (by omega)) (n35v 43 47 (by omega) (by omega))
  rw [show ((35 : Int32) + nI k).toNatClampNeg = 35 + k from n35 35 (by omega), show ((43 : Int32) + nI k).toNatClampNeg = 43 + k from n35 43 (by omega)] at E
  have e0 : am_u3 (am_hM h (am_row M 40 R)).2.1 40 0 (35 + k) 2 40 0 0 = R 0 := by
    show (if _ then _ else _) = _
    rw [if_neg (by omega)]
    rfl
  rw [e0] at E
  have e1 : am_u3 (am_u3 (am_hM h (am_row M 40 R)).2.1 40 0 (35 + k) 2) 40 0 (43 + k) (R 0) = am_row M 40 (upd (upd R (35 + k) 2) (43 + k) (R 0)) := by
    show am_u3 (am_u3 (am_row M 40 R) 40 0 (35 + k) 2) 40 0 (43 + k) (R 0) = _
    rw [am_row_u, am_row_u]
  rw [e1] at E
  exact E
theorem evr_addHourT {d : Nat} {h : am_H} (g : lay h) {M : Nat → Nat → Nat → Int32} {R : Nat → Int32} : am_Ev (d + 0) mX8_addHour [.inr (39, 0)] (am_hM h (am_row M 40 R)) (.inl (none, (am_hM h (am_row M 40 (upd R 0 (R 0 + 1)))))) := by
  have E := ev_addHourT (d := d) (h := (am_hM h (am_row M 40 R))) g
  rw [hM_row] at E
  exact E
theorem evr_fineT {d : Nat} {h : am_H} (g : lay h) {M : Nat → Nat → Nat → Int32} {R : Nat → Int32} {b : Int32} : am_Ev d mX8_fine [.inr (39, 0), am_I b] (am_hM h (am_row M 40 R)) (.inl (none, am_hM h (am_row M 40 (fineR R b)))) := by
  have E := ev_fineT (d := d) (h := (am_hM h (am_row M 40 R))) (b := b) g
  have e : am_hM (am_hM h (am_row M 40 R)) (fineM (am_hM h (am_row M 40 R)).2.1 40 b 16) = am_hM h (am_row M 40 (fineR R b)) := by
    show am_hM h (fineM (am_row M 40 R) 40 b 16) = _
    rw [fineM_row]
  rw [e] at E
  exact E
theorem ev_passedOn {d : Nat} {h : am_H} (g : lay h) {n V p : Nat} {ms op : Int32} (hn : h.2.1 3 0 0 = nI n) (hn16 : n ≤ 16) (hV : h.2.1 3 0 12 = nI V) (hV4 : V ≤ 4) (hp : p ≤ n) : am_Ev (d + 2) mX4_passedOn [.inr (28, 0), am_I ms, am_I (nI p), am_I op] h (.inl (some (am_I (nI (ponE (letB h.2.1 ms op) n V p))), h)) := by
  have hmin : (if nI n < nI (p + V) then nI n else nI (p + V)) = nI (min (p + V) n) := by
    by_cases c : n < p + V
    · rw [if_pos (nI_lt c (by omega)), show min (p + V) n = n by omega]
    · rw [if_neg (nI_nlt (by omega) (by omega)), show min (p + V) n = p + V by omega]
  refine am_Ev.mk (by decide +kernel) rfl rfl (Nat.le_refl _) (Nat.le_refl _) ?_
  change am_At _ _ _ 0 [_, _, _, _, _, _] [] _ _
  refine am_iload_n dX4_passedOn_0 rfl ?_
  refine am_istore dX4_passedOn_1 (am_lb rfl) ?_
  change am_At _ _ _ 3 [_, _, _, _, _, _] [] _ _
  refine am_iload_n dX4_passedOn_3 rfl ?_
  refine am_aload_n dX4_passedOn_4 rfl ?_
  refine am_getR 4 0 3 dX4_passedOn_5 fg_X4_9 (sh_28 g) (by decide) rfl (rf_28_0 g) ?_
  refine am_getI 1 12 dX4_passedOn_8 fg_X4_52 (sh_3 g) (by decide) rfl ?_
  refine am_iadd dX4_passedOn_11 ?_
  refine am_aload_n dX4_passedOn_12 rfl ?_
  refine am_getR 4 0 3 dX4_passedOn_13 fg_X4_9 (sh_28 g) (by decide) rfl (rf_28_0 g) ?_
  refine am_getI 1 0 dX4_passedOn_16 fg_X4_25 (sh_3 g) (by decide) rfl ?_
  change am_At _ _ _ 19 _ [am_I (h.2.1 3 0 0), am_I (nI p + h.2.1 3 0 12)] _ _
  rw [hn, hV, nI_add]
  refine am_min dX4_passedOn_19 ml_X4_55 (fun _ => Nat.le_of_ble_eq_true rfl) ?_
  rw [hmin]
  refine am_istore dX4_passedOn_22 (am_lb rfl) ?_
  change am_At _ _ _ 24 [_, _, _, _, _, _] [] _ _
  have key : ∀ m q, q + m = min (p + V) n → am_At am_X0 (d + 2) mX4_passedOn 24 [some (.inr (28, 0)), some (am_I ms), some (am_I (nI p)), some (am_I op), some (am_I (nI q)), some (am_I (nI (min (p + V) n)))] [] h (.inl (some (am_I (nI (pon (letB h.2.1 ms op) m q))), h)) := by
    intro m
    induction m with
    | zero =>
      intro q hq
      refine am_iload dX4_passedOn_24 rfl ?_
      refine am_iload dX4_passedOn_26 rfl ?_
      refine am_icmp_geT (20) 48 dX4_passedOn_28 rfl (nI_le (by omega) (by omega)) ?_
      refine am_iload dX4_passedOn_48 rfl ?_
      exact am_iret dX4_passedOn_50 rfl
    | succ m ih =>
      intro q hq
      refine am_iload dX4_passedOn_24 rfl ?_
      refine am_iload dX4_passedOn_26 rfl ?_
      refine am_icmp_geF (20) 48 dX4_passedOn_28 rfl (nI_ge (by omega) (by omega)) ?_
      refine am_aload_n dX4_passedOn_31 rfl ?_
      refine am_iload_n dX4_passedOn_32 rfl ?_
      refine am_iload dX4_passedOn_33 rfl ?_
      refine am_iload_n dX4_passedOn_35 rfl ?_
      refine am_callV [_, _, _] dX4_passedOn_36 ml_X4_61 vm_X4_lets (sh_28 g) rfl (fun _ => Nat.le_of_ble_eq_true rfl) (by omega) rfl (ev_X4_lets (d := d) (a0 := ms) (a1 := nI q) (a2 := op) g (vp_in_nI (by omega) (by omega))) rfl ?_
      change am_At _ _ _ 39 [_, _, _, _, _, _] [_] _ _
      rw [nI_clamp (by omega)]
      unfold pon
      refine am_if_eq (9) 48 dX4_passedOn_39 rfl ?_ ?_
      · intro hc
        have hb : letB h.2.1 ms op q = false := by
          unfold letB
          by_cases c1 : ms ≤ h.2.1 4 0 q
          · rw [if_pos c1] at hc; exact absurd hc (by decide)
          · rw [if_neg c1] at hc
            by_cases c2 : bitZ op (nI q) = 0
            · simp [c1, c2]
            · rw [if_neg c2] at hc; exact absurd hc (by decide)
        rw [hb]
        refine am_iload dX4_passedOn_48 rfl ?_
        exact am_iret dX4_passedOn_50 rfl
      · intro hc
        have hb : letB h.2.1 ms op q = true := by
          unfold letB
          by_cases c1 : ms ≤ h.2.1 4 0 q
          · simp [c1]
          · rw [if_neg c1] at hc
            by_cases c2 : bitZ op (nI q) = 0
            · rw [if_pos c2] at hc; exact absurd rfl hc
            · simp [c2]
        rw [hb]
        refine am_iinc dX4_passedOn_42 rfl (am_i1 q) ?_
        change am_At _ _ _ 45 [_, _, _, _, _, _] [] _ _
        refine am_goto (-21) 24 dX4_passedOn_45 rfl ?_
        exact ih (q + 1) (by omega)
  exact key (min (p + V) n - p) p (by omega)
