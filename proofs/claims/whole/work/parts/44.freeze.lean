/-! WINTERS as mathematics: the row, the SEED, how often one was frozen shut -/
def wst (M : Nat → Nat → Nat → Int32) (q len : Nat) (dp : Nat → Nat) (n V nb : Nat) (qq : Int32) (R0 : Nat → Int32) (s : Int32) : Nat → (Nat → Int32) × Int32 × Int32
  | 0 => (R0, s, 0)
  | g + 1 => (hourR M n V nb (dueR M q len dp n (wst M q len dp n V nb qq R0 s g).1) (frz (wst M q len dp n V nb qq R0 s g).2.1 qq n) (wst M q len dp n V nb qq R0 s g).1, seedN (wst M q len dp n V nb qq R0 s g).2.1 n,
    (wst M q len dp n V nb qq R0 s g).2.2 + bcI (opR (wst M q len dp n V nb qq R0 s g).1 (dueR M q len dp n (wst M q len dp n V nb qq R0 s g).1) &&& frz (wst M q len dp n V nb qq R0 s g).2.1 qq n))
theorem bar_0 {n V : Nat} {lt : Nat → Bool} {cm : Int32} {k : Nat} {R : Nat → Int32} : barR n V lt cm k R 0 = R 0 := by
  have e1 : r1R cm k R 0 = R 0 := by
    unfold r1R
    split
    · split
      · rw [upd_n (by omega)]
      · rfl
    · rfl
  have e2 : ∀ R, r2R n V lt k R 0 = R 0 := by
    intro R
    unfold r2R
    split
    · rw [upd_n (by omega), upd_n (by omega)]
    · rw [upd_n (by omega)]
  unfold barR
  split
  · unfold r3R
    split
    · rw [upd_n (by omega), upd_n (by omega), e2, e1]
    · rw [e2, e1]
  · exact e1
theorem bars_0 {n V : Nat} {lt : Nat → Nat → Bool} {cm : Nat → Int32} {R : Nat → Int32} : ∀ k, barsR n V lt cm k R 0 = R 0
  | 0 => rfl
  | k + 1 => by
    show barR _ _ _ _ _ _ 0 = _
    rw [bar_0, bars_0 k]
theorem hour_0 {M : Nat → Nat → Nat → Int32} {n V nb : Nat} {due fz : Int32} {R : Nat → Int32} : hourR M n V nb due fz R 0 = R 0 + 1 := by
  unfold hourR
  rw [upd_s, bars_0]
  rfl
theorem wst_0 {M : Nat → Nat → Nat → Int32} {q len : Nat} {dp : Nat → Nat} {n V nb : Nat} {qq s : Int32} {R0 : Nat → Int32} : ∀ g, (wst M q len dp n V nb qq R0 s g).1 0 = R0 0 + nI g
  | 0 => by show R0 0 = R0 0 + nI 0; rw [nI_0]; simp
  | g + 1 => by
    show hourR _ _ _ _ _ _ _ 0 = _
    rw [hour_0, wst_0 g, Int32.add_assoc, nI_1]
theorem wst_p {M : Nat → Nat → Nat → Int32} {q len : Nat} {dp : Nat → Nat} {n V nb : Nat} {qq s : Int32} {R0 : Nat → Int32} (hnb : nb ≤ 4) (hn : n ≤ 16) (h : psd n R0) : ∀ g, psd n (wst M q len dp n V nb qq R0 s g).1
  | 0 => h
  | g + 1 => psd.hour hnb hn (wst_p hnb hn h g)
theorem hM_ol40 (h : am_H) (M : Nat → Nat → Nat → Int32) (r : Nat → Nat → Int32) : am_hM h (ol M r) = am_hM h (am_row (ol M r) 40 (r 40)) := by
  rw [ol_row (by decide)]
  have e : urow r 40 (r 40) = r := by
    funext c
    simp only [urow]
    split
    next h => rw [h]
    next h => rfl
  rw [e]
theorem ev_freeze {d : Nat} {h : am_H} (g : lay h) {q len : Nat} {dp : Nat → Nat} (hq : h.2.2 23 0 = some q) {M : Nat → Nat → Nat → Int32} (w : LW M q len dp) {n : Nat} (hn : M 3 0 0 = nI n) (hn16 : n ≤ 16) {r0 : Nat → Nat → Int32} {V nb : Nat} (hV : M 3 0 12 = nI V) (hV4 : V ≤ 4) (hb : M 3 0 5 = nI nb) (hnb : nb ≤ 4) (hp : psd n (M 30 0)) (cv : CV M q len dp n r0) (md : MD M q len) {sd qq : Int32} {hs : Nat} (hhs : hs ≤ 240) : ∃ r', CV M q len dp n r' ∧ r' 40 = (wst M q len dp n V nb qq (fun j => if j < 47 then M 30 0 j else r0 40 j) sd hs).1 ∧ r' 38 10 = (wst M q len dp n V nb qq (fun j => if j < 47 then M 30 0 j else r0 40 j) sd hs).2.2 ∧ am_Ev (d + 5) mX6_freeze [.inr (38, 0), am_I sd, am_I qq, am_I (nI hs)] (am_hM h (ol M r0)) (.inl (none, am_hM h (ol M r'))) := by
  have hp0 : psd n (fun j => if j < 47 then M 30 0 j else r0 40 j) := fun k hk => by
    obtain ⟨p, e1, e2⟩ := hp k hk
    exact ⟨p, e1, by show (if 39 + k < 47 then _ else _) = _; rw [if_pos (by omega)]; exact e2⟩
  have key := am_loop (Pr := fun k => ∀ r, CV M q len dp n r → r 40 = (wst M q len dp n V nb qq (fun j => if j < 47 then M 30 0 j else r0 40 j) sd k).1 → r 38 9 = (wst M q len dp n V nb qq (fun j => if j < 47 then M 30 0 j else r0 40 j) sd k).2.1 → r 38 10 = (wst M q len dp n V nb qq (fun j => if j < 47 then M 30 0 j else r0 40 j) sd k).2.2 → ∃ r', CV M q len dp n r' ∧ r' 40 = (wst M q len dp n V nb qq (fun j => if j < 47 then M 30 0 j else r0 40 j) sd hs).1 ∧ r' 38 10 = (wst M q len dp n V nb qq (fun j => if j < 47 then M 30 0 j else r0 40 j) sd hs).2.2 ∧ am_At am_X0 (d + 5) mX6_freeze 28 [some (.inr (38, 0)), some (am_I sd), some (am_I qq), some (am_I (nI hs)), some (am_I (nI k)), none, none] [] (am_hM h (ol M r)) (.inl (none, am_hM h (ol M r')))) hs ?_ ?_ 0 (by omega)
  · let R1 := u2 (u2 (urow r0 40 (fun j => if j < 47 then M 30 0 j else r0 40 j)) 38 9 sd) 38 10 0
    obtain ⟨r', b1, b2, b3, b4⟩ := key R1 (by
      obtain ⟨κ, c1, c2, c3⟩ := cv
      exact ⟨κ, c1, by simpa [R1, u2, urow] using c2, fun j hj => by simpa [R1, u2, urow] using c3 j hj⟩) (by funext j; simp [R1, u2, urow, wst]) (by simp [R1, u2, urow, wst]) (by simp [R1, u2, urow, wst])
    refine ⟨r', b1, b2, b3, ?_⟩
    refine am_Ev.mk (by decide +kernel) rfl rfl (Nat.le_refl _) (Nat.le_refl _) ?_
    change am_At _ _ _ 0 [_, _, _, _, _, _, _] [] _ _
    refine am_aload_n dX6_freeze_0 rfl ?_
    refine am_getR 6 2 29 dX6_freeze_1 fg_X6_33 (sh_38 g) (by decide) rfl (rf_38_2 g) ?_
    refine am_aload_n dX6_freeze_4 rfl ?_
    refine am_getR 6 3 39 dX6_freeze_5 fg_X6_12 (sh_38 g) (by decide) rfl (rf_38_3 g) ?_
    refine am_getR 8 0 40 dX6_freeze_8 fg_X6_89 (sh_39 g) (by decide) rfl (rf_39_0 g) ?_
    refine am_iconst 0 (v := 0) dX6_freeze_11 (by decide) ?_
    refine am_callV [_, _] dX6_freeze_12 ml_X6_92 vm_X8_writeTo (sh_29 g) rfl (fun _ => Nat.le_of_ble_eq_true rfl) (by omega) rfl (ev_writeTo_29_40 (d := d + 4) (h := am_hM h (ol M r0)) (a0 := 0) g (by decide) (by decide)) rfl ?_
    change am_At _ _ _ 15 [_, _, _, _, _, _, _] [] _ _
    refine am_aload_n dX6_freeze_15 rfl ?_
    refine am_iload_n dX6_freeze_16 rfl ?_
    refine am_putI 6 9 dX6_freeze_17 (Or.inl fp_X6_95) (sh_38 g) (by decide) rfl rfl rfl ?_
    refine am_aload_n dX6_freeze_20 rfl ?_
    refine am_iconst 0 (v := 0) dX6_freeze_21 (by decide) ?_
    refine am_putI 6 10 dX6_freeze_22 (Or.inl fp_X6_98) (sh_38 g) (by decide) rfl rfl rfl ?_
    refine am_iconst 0 (v := 0) dX6_freeze_25 (by decide) ?_
    refine am_istore dX6_freeze_26 (am_lb rfl) ?_
    change am_At _ _ _ 28 [_, _, _, _, _, _, _] [] _ _
    refine am_At.to ?_ b4
    show am_um (am_um _ _ _ _ _) _ _ _ _ = _
    have e1 : am_cp (ol M r0) 30 0 0 40 0 (Int32.toNatClampNeg 0) 47 = ol M (urow r0 40 (fun j => if j < 47 then M 30 0 j else r0 40 j)) := by
      rw [← ol_row (by decide)]
      funext c ρ j
      simp only [am_cp, am_row]
      have e0 : Int32.toNatClampNeg 0 = 0 := rfl
      rw [e0]
      by_cases h1 : c = 40 ∧ ρ = 0
      · obtain ⟨rfl, rfl⟩ := h1
        by_cases h2 : j < 47
        · rw [if_pos ⟨rfl, rfl, by omega, by omega⟩, if_pos ⟨rfl, rfl⟩, if_pos h2]
          show ol M r0 30 0 (0 + (j - 0)) = _
          rw [show 0 + (j - 0) = j by omega]
          rfl
        · rw [if_neg (fun z => h2 (by omega)), if_pos ⟨rfl, rfl⟩, if_neg h2]
          rfl
      · rw [if_neg (fun z => h1 ⟨z.1, z.2.1⟩), if_neg h1]
    show am_um (am_um (am_hM h (am_cp (ol M r0) 30 0 0 40 0 (Int32.toNatClampNeg 0) 47)) 38 0 9 sd) 38 0 10 0 = _
    rw [e1, hM_ol (by decide), hM_ol (by decide)]
  · intro r k2 e40 e9 e10
    refine ⟨r, k2, e40, e10, ?_⟩
    refine am_iload dX6_freeze_28 rfl ?_
    refine am_iload_n dX6_freeze_30 rfl ?_
    refine am_icmp_geT (67) 98 dX6_freeze_31 rfl (Int32.le_refl _) ?_
    exact am_vret dX6_freeze_98 rfl
  · intro k hk ih r k2 e40 e9 e10
    have hpk : psd n (wst M q len dp n V nb qq (fun j => if j < 47 then M 30 0 j else r0 40 j) sd k).1 := wst_p hnb hn16 hp0 k
    have hh : (u2 r 38 9 (seedN (r 38 9) n)) 40 0 = M 30 0 0 + nI k := by
      show u2 _ _ _ _ 40 0 = _
      have : r 40 0 = (fun j => if j < 47 then M 30 0 j else r0 40 j) 0 + nI k := by rw [e40]; exact wst_0 k
      simpa [u2] using this
    obtain ⟨r2, k3, k4, E2⟩ := ev_dueThen (d := d) g hq w hn hn16 (r := u2 r 38 9 (seedN (r 38 9) n)) (by
      obtain ⟨κ, c1, c2, c3⟩ := k2
      exact ⟨κ, c1, by simpa [u2] using c2, fun j hj => by simpa [u2] using c3 j hj⟩) md (t := k) (by omega) hh
    have f40 : r2 40 = r 40 := by
      rw [k3.1 40 (by omega) (by omega) (by omega) (by omega)]
      funext j
      simp [u2]
    have f9 : r2 38 9 = seedN (r 38 9) n := by rw [k3.2 9 (by omega)]; simp [u2]
    have f10 : r2 38 10 = r 38 10 := by rw [k3.2 10 (by omega)]; simp [u2]
    have g40 : (u2 r 38 9 (seedN (r 38 9) n)) 40 = r 40 := by funext j; simp [u2]
    rw [g40] at E2
    generalize hD : dueR M q len dp n (r 40) = D at E2
    generalize hF : frz (r 38 9) qq n = F
    let r3 := u2 r2 38 10 (r 38 10 + bcI (opR (r 40) D &&& F))
    have h40 : r3 40 = r 40 := by show u2 _ _ _ _ 40 = _; rw [← f40]; funext j; simp [u2]
    obtain ⟨r', b1, b2, b3, b4⟩ := ih (urow r3 40 (hourR M n V nb D F (r 40))) (by
      obtain ⟨κ, c1, c2, c3⟩ := k4
      exact ⟨κ, c1, by simpa [r3, u2, urow] using c2, fun j hj => by simpa [r3, u2, urow] using c3 j hj⟩) (by
      show urow _ _ _ 40 = _
      rw [show urow r3 40 (hourR M n V nb D F (r 40)) 40 = hourR M n V nb D F (r 40) from if_pos rfl]
      show _ = hourR M n V nb (dueR M q len dp n (wst M q len dp n V nb qq (fun j => if j < 47 then M 30 0 j else r0 40 j) sd k).1) (frz (wst M q len dp n V nb qq (fun j => if j < 47 then M 30 0 j else r0 40 j) sd k).2.1 qq n) (wst M q len dp n V nb qq (fun j => if j < 47 then M 30 0 j else r0 40 j) sd k).1
      rw [← e40, ← e9, hD, hF]) (by
      show urow r3 40 _ 38 9 = seedN (wst M q len dp n V nb qq (fun j => if j < 47 then M 30 0 j else r0 40 j) sd k).2.1 n
      rw [← e9]
      simpa [r3, u2, urow] using f9) (by
      show urow r3 40 _ 38 10 = (wst M q len dp n V nb qq (fun j => if j < 47 then M 30 0 j else r0 40 j) sd k).2.2 + bcI (opR (wst M q len dp n V nb qq (fun j => if j < 47 then M 30 0 j else r0 40 j) sd k).1 (dueR M q len dp n (wst M q len dp n V nb qq (fun j => if j < 47 then M 30 0 j else r0 40 j) sd k).1) &&& frz (wst M q len dp n V nb qq (fun j => if j < 47 then M 30 0 j else r0 40 j) sd k).2.1 qq n)
      rw [← e40, ← e9, ← e10, hD, hF]
      simp [r3, u2, urow])
    refine ⟨r', b1, b2, b3, ?_⟩
    refine am_iload dX6_freeze_28 rfl ?_
    refine am_iload_n dX6_freeze_30 rfl ?_
    refine am_icmp_geF (67) 98 dX6_freeze_31 rfl (nI_ge hk (by omega)) ?_
    refine am_aload_n dX6_freeze_34 rfl ?_
    refine am_iload_n dX6_freeze_35 rfl ?_
    refine am_callV [_] dX6_freeze_36 ml_X6_101 vm_X6_drawFrozen (sh_38 g) rfl (fun _ => Nat.le_of_ble_eq_true rfl) (by omega) rfl (ev_drawFrozen (d := d + 4) (M := M) (r := r) (n := n) (qq := qq) g hn hn16) rfl ?_
    change am_At _ _ _ 39 [_, _, _, _, _, _, _] [_] _ _
    rw [hF]
    refine am_istore dX6_freeze_39 (am_lb rfl) ?_
    change am_At _ _ _ 41 [_, _, _, _, _, _, _] [] _ _
    refine am_aload_n dX6_freeze_41 rfl ?_
    refine am_iload dX6_freeze_42 rfl ?_
    refine am_callV [_] dX6_freeze_44 ml_X6_104 vm_X6_dueThen (sh_38 g) rfl (fun _ => Nat.le_of_ble_eq_true rfl) (by omega) rfl (E2) rfl ?_
    change am_At _ _ _ 47 [_, _, _, _, _, _, _] [_] _ _
    refine am_istore dX6_freeze_47 (am_lb rfl) ?_
    change am_At _ _ _ 49 [_, _, _, _, _, _, _] [] _ _
    refine am_aload_n dX6_freeze_49 rfl ?_
    refine am_dup dX6_freeze_50 (fun _ => rfl) ?_
    refine am_getI 6 10 dX6_freeze_51 fg_X6_98 (sh_38 g) (by decide) rfl ?_
    refine am_aload_n dX6_freeze_54 rfl ?_
    refine am_getR 6 1 28 dX6_freeze_55 fg_X6_29 (sh_38 g) (by decide) rfl (rf_38_1 g) ?_
    refine am_aload_n dX6_freeze_58 rfl ?_
    refine am_getR 6 3 39 dX6_freeze_59 fg_X6_12 (sh_38 g) (by decide) rfl (rf_38_3 g) ?_
    refine am_iload dX6_freeze_62 rfl ?_
    refine am_callV [_, _] dX6_freeze_64 ml_X6_54 vm_X4_openBits (sh_28 g) rfl (fun _ => Nat.le_of_ble_eq_true rfl) (by omega) rfl (ev_X4_openBits_28_39 (d := d + 3) (h := am_hM h (ol M r2)) (a0 := D) g) rfl ?_
    change am_At _ _ _ 67 [_, _, _, _, _, _, _] [_, _, _] _ _
    change am_At _ _ _ _ _ [am_I (r2 40 1 ||| (D &&& (r2 40 2 ^^^ -1))), am_I (r2 38 10), _] _ _
    rw [f40, f10]
    change am_At _ _ _ _ _ [am_I (opR (r 40) D), _, _] _ _
    refine am_iload dX6_freeze_67 rfl ?_
    refine am_iand dX6_freeze_69 ?_
    refine am_callS (c := 0) (k := 0) (n := 0) (w := 0) [_] dX6_freeze_70 ml_X6_107 sm_J6_bitCount_0f7a4 rfl (fun _ => Nat.le_of_ble_eq_true rfl) (by omega) rfl (ev_bc (d := d + 4) (h := am_hM h (ol M r2)) (x := opR (r 40) D &&& F)) rfl ?_
    change am_At _ _ _ 73 [_, _, _, _, _, _, _] [_, _, _] _ _
    refine am_iadd dX6_freeze_73 ?_
    refine am_putI 6 10 dX6_freeze_74 (Or.inl fp_X6_98) (sh_38 g) (by decide) rfl rfl rfl ?_
    refine am_aload_n dX6_freeze_77 rfl ?_
    refine am_getR 6 1 28 dX6_freeze_78 fg_X6_29 (sh_38 g) (by decide) rfl (rf_38_1 g) ?_
    refine am_aload_n dX6_freeze_81 rfl ?_
    refine am_getR 6 3 39 dX6_freeze_82 fg_X6_12 (sh_38 g) (by decide) rfl (rf_38_3 g) ?_
    refine am_iload dX6_freeze_85 rfl ?_
    refine am_iload dX6_freeze_87 rfl ?_
    refine am_At.to (h := am_hM h (am_row (ol M r3) 40 (r 40))) (by rw [hM_ol (by decide)]; have e := hM_ol40 h M r3; rw [h40] at e; exact e) ?_
    refine am_callV [_, _, _] dX6_freeze_89 ml_X6_112 vm_X4_passHour (sh_28 g) rfl (fun _ => Nat.le_of_ble_eq_true rfl) (by omega) rfl (ev_passHourT (d := d + 1) (M := ol M r3) (R := r 40) (n := n) (V := V) (nb := nb) (due := D) (fz := F) g hn hn16 hV hV4 hb hnb (by rw [e40]; exact hpk)) rfl ?_
    change am_At _ _ _ 92 [_, _, _, _, _, _, _] [] _ _
    refine am_iinc dX6_freeze_92 rfl (am_i1 k) ?_
    change am_At _ _ _ 95 [_, _, _, _, _, _, _] [] _ _
    refine am_goto (-67) 28 dX6_freeze_95 rfl ?_
    refine am_At.drop 5 (am_At.drop 6 ?_)
    change am_At _ _ _ 28 [_, _, _, _, _, none, none] [] _ _
    refine am_At.to ?_ b4
    show am_hM h (am_row (ol M r3) 40 (hourR (ol M r3) n V nb D F (r 40))) = _
    rw [ol_row (by decide)]
    rfl
