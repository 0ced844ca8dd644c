def bitZ (x k : Int32) : Int32 := if (x >>> (k &&& 31)) &&& 1 = 1 then 1 else 0
theorem ev_isBitOf {d : Nat} {h : am_H} {x k : Int32} : am_Ev (d) mX11_isBitOf [am_I x, am_I k] h (.inl (some (am_I (bitZ x k)), h)) := by
  refine am_Ev.mk (by decide +kernel) rfl rfl (Nat.le_refl _) (Nat.le_refl _) ?_
  change am_At _ _ _ 0 [_, _] [] _ _
  refine am_iload_n dX11_isBitOf_0 rfl ?_
  refine am_iload_n dX11_isBitOf_1 rfl ?_
  refine am_ishr dX11_isBitOf_2 ?_
  refine am_iconst 1 (v := 1) dX11_isBitOf_3 (by decide) ?_
  refine am_iand dX11_isBitOf_4 ?_
  refine am_iconst 1 (v := 1) dX11_isBitOf_5 (by decide) ?_
  refine am_icmp_ne (7) 13 dX11_isBitOf_6 rfl ?_ ?_
  · intro hc
    refine am_iconst 0 (v := 0) dX11_isBitOf_13 (by decide) ?_
    unfold bitZ
    rw [if_neg hc]
    exact am_zret dX11_isBitOf_14 rfl rfl
  · intro hc
    refine am_iconst 1 (v := 1) dX11_isBitOf_9 (by decide) ?_
    refine am_goto (4) 14 dX11_isBitOf_10 rfl ?_
    unfold bitZ
    rw [if_pos hc]
    exact am_zret dX11_isBitOf_14 rfl rfl
theorem ev_hour {d : Nat} {h : am_H} (g : lay h) : am_Ev (d) mX8_hour [.inr (29, 0)] h (.inl (some (am_I (h.2.1 30 0 0)), h)) := by
  refine am_Ev.mk (by decide +kernel) rfl rfl (Nat.le_refl _) (Nat.le_refl _) ?_
  change am_At _ _ _ 0 [_] [] _ _
  refine am_aload_n dX8_hour_0 rfl ?_
  refine am_getR 8 0 30 dX8_hour_1 fg_X8_11 (sh_29 g) (by decide) rfl (rf_29_0 g) ?_
  refine am_iconst 0 (v := 0) dX8_hour_4 (by decide) ?_
  refine am_iald dX8_hour_5 (am_ia.one (sh_30 g)) (am_lit rfl) ?_
  exact am_iret dX8_hour_6 rfl
theorem ev_finesOf {d : Nat} {h : am_H} (g : lay h) {b : Int32} (hb : vp_in (3 + b) 47) : am_Ev (d) mX8_finesOf [.inr (29, 0), am_I b] h (.inl (some (am_I (h.2.1 30 0 (3 + b).toNatClampNeg)), h)) := by
  refine am_Ev.mk (by decide +kernel) rfl rfl (Nat.le_refl _) (Nat.le_refl _) ?_
  change am_At _ _ _ 0 [_, _] [] _ _
  refine am_aload_n dX8_finesOf_0 rfl ?_
  refine am_getR 8 0 30 dX8_finesOf_1 fg_X8_11 (sh_29 g) (by decide) rfl (rf_29_0 g) ?_
  refine am_iconst 3 (v := 3) dX8_finesOf_4 (by decide) ?_
  refine am_iload_n dX8_finesOf_5 rfl ?_
  refine am_iadd dX8_finesOf_6 ?_
  refine am_iald dX8_finesOf_7 (am_ia.one (sh_30 g)) hb ?_
  exact am_iret dX8_finesOf_8 rfl
theorem ev_hourT {d : Nat} {h : am_H} (g : lay h) : am_Ev (d) mX8_hour [.inr (39, 0)] h (.inl (some (am_I (h.2.1 40 0 0)), h)) := by
  refine am_Ev.mk (by decide +kernel) rfl rfl (Nat.le_refl _) (Nat.le_refl _) ?_
  change am_At _ _ _ 0 [_] [] _ _
  refine am_aload_n dX8_hour_0 rfl ?_
  refine am_getR 8 0 40 dX8_hour_1 fg_X8_11 (sh_39 g) (by decide) rfl (rf_39_0 g) ?_
  refine am_iconst 0 (v := 0) dX8_hour_4 (by decide) ?_
  refine am_iald dX8_hour_5 (am_ia.one (sh_40 g)) (am_lit rfl) ?_
  exact am_iret dX8_hour_6 rfl
theorem ev_finesOfT {d : Nat} {h : am_H} (g : lay h) {b : Int32} (hb : vp_in (3 + b) 47) : am_Ev (d) mX8_finesOf [.inr (39, 0), am_I b] h (.inl (some (am_I (h.2.1 40 0 (3 + b).toNatClampNeg)), h)) := by
  refine am_Ev.mk (by decide +kernel) rfl rfl (Nat.le_refl _) (Nat.le_refl _) ?_
  change am_At _ _ _ 0 [_, _] [] _ _
  refine am_aload_n dX8_finesOf_0 rfl ?_
  refine am_getR 8 0 40 dX8_finesOf_1 fg_X8_11 (sh_39 g) (by decide) rfl (rf_39_0 g) ?_
  refine am_iconst 3 (v := 3) dX8_finesOf_4 (by decide) ?_
  refine am_iload_n dX8_finesOf_5 rfl ?_
  refine am_iadd dX8_finesOf_6 ?_
  refine am_iald dX8_finesOf_7 (am_ia.one (sh_40 g)) hb ?_
  exact am_iret dX8_finesOf_8 rfl
def fineM (M : Nat → Nat → Nat → Int32) (q : Nat) (b : Int32) (n : Nat) : Nat → Nat → Nat → Int32 := fun c r j => if c = q ∧ r = 0 ∧ 3 ≤ j ∧ j < 3 + n then M c r j + (b >>> (nI (j - 3) &&& 31) &&& 1) else M c r j
theorem fineM_0 (M : Nat → Nat → Nat → Int32) (q : Nat) (b : Int32) : fineM M q b 0 = M := by
  funext c r j
  unfold fineM
  rw [if_neg (by omega)]
theorem fineM_s (M : Nat → Nat → Nat → Int32) (q : Nat) (b : Int32) (n : Nat) : fineM M q b (n + 1) = am_u3 (fineM M q b n) q 0 (3 + n) (M q 0 (3 + n) + (b >>> (nI n &&& 31) &&& 1)) := by
  funext c r j
  simp only [fineM, am_u3]
  by_cases h : c = q ∧ r = 0 ∧ j = 3 + n
  · obtain ⟨rfl, rfl, rfl⟩ := h
    rw [if_pos (by omega), if_pos (by omega), show 3 + n - 3 = n by omega]
  · rw [if_neg h]
    by_cases h2 : c = q ∧ r = 0 ∧ 3 ≤ j ∧ j < 3 + n
    · rw [if_pos h2, if_pos (by omega)]
    · rw [if_neg h2, if_neg (by omega)]
theorem ev_fine {d : Nat} {h : am_H} (g : lay h) {b : Int32} : am_Ev (d) mX8_fine [.inr (29, 0), am_I b] h (.inl (none, am_hM h (fineM h.2.1 30 b 16))) := by
  have hin : ∀ k, k < 16 → vp_in (3 + nI k) 47 := fun k hk => by rw [show (3 : Int32) = nI 3 from rfl, nI_add]; exact vp_in_nI (by omega) (by omega)
  have hcl : ∀ k, k < 16 → (3 + nI k).toNatClampNeg = 3 + k := fun k hk => by rw [show (3 : Int32) = nI 3 from rfl, nI_add]; exact nI_clamp (by omega)
  refine am_Ev.mk (by decide +kernel) rfl rfl (Nat.le_refl _) (Nat.le_refl _) ?_
  change am_At _ _ _ 0 [_, _, _] [] _ _
  refine am_iconst 0 (v := 0) dX8_fine_0 (by decide) ?_
  refine am_istore_n dX8_fine_1 (am_lb rfl) ?_
  change am_At _ _ _ 2 [_, _, _] [] _ _
  have key := am_loop (Pr := fun k => am_At am_X0 d mX8_fine 2 [some (.inr (29, 0)), some (am_I b), some (am_I (nI k))] [] (am_hM h (fineM h.2.1 30 b k)) (.inl (none, am_hM h (fineM h.2.1 30 b 16)))) 16 ?_ ?_ 0 (by omega)
  · rw [fineM_0] at key
    exact key
  · refine am_iload_n dX8_fine_2 rfl ?_
    refine am_bipush 16 (v := 16) dX8_fine_3 (by decide) ?_
    refine am_icmp_geT (25) 30 dX8_fine_5 rfl (by decide) ?_
    exact am_vret dX8_fine_30 rfl
  · intro k hk ih
    refine am_iload_n dX8_fine_2 rfl ?_
    refine am_bipush 16 (v := 16) dX8_fine_3 (by decide) ?_
    refine am_icmp_geF (25) 30 dX8_fine_5 rfl (nI_ge (a := k) (b := 16) hk (by omega)) ?_
    refine am_aload_n dX8_fine_8 rfl ?_
    refine am_getR 8 0 30 dX8_fine_9 fg_X8_11 (sh_29 g) (by decide) rfl (rf_29_0 g) ?_
    refine am_iconst 3 (v := 3) dX8_fine_12 (by decide) ?_
    refine am_iload_n dX8_fine_13 rfl ?_
    refine am_iadd dX8_fine_14 ?_
    refine am_dup2 dX8_fine_15 (fun _ => rfl) (fun _ => rfl) ?_
    refine am_iald dX8_fine_16 (am_ia.one (sh_30 g)) (hin k hk) ?_
    refine am_iload_n dX8_fine_17 rfl ?_
    refine am_iload_n dX8_fine_18 rfl ?_
    refine am_ishr dX8_fine_19 ?_
    refine am_iconst 1 (v := 1) dX8_fine_20 (by decide) ?_
    refine am_iand dX8_fine_21 ?_
    refine am_iadd dX8_fine_22 ?_
    refine am_iast dX8_fine_23 (am_ia.one (sh_30 g)) (hin k hk) ?_
    refine am_iinc dX8_fine_24 rfl (am_i1 k) ?_
    change am_At _ _ _ 27 [_, _, _] [] _ _
    refine am_goto (-25) 2 dX8_fine_27 rfl ?_
    rw [fineM_s] at ih
    refine am_At.to ?_ ih
    show am_um _ _ _ _ _ = _
    unfold am_um am_hM
    rw [hcl k hk]
    simp only [fineM]
    rw [if_neg (by omega)]
theorem ev_fineT {d : Nat} {h : am_H} (g : lay h) {b : Int32} : am_Ev (d) mX8_fine [.inr (39, 0), am_I b] h (.inl (none, am_hM h (fineM h.2.1 40 b 16))) := by
  have hin : ∀ k, k < 16 → vp_in (3 + nI k) 47 := fun k hk => by rw [show (3 : Int32) = nI 3 from rfl, nI_add]; exact vp_in_nI (by omega) (by omega)
  have hcl : ∀ k, k < 16 → (3 + nI k).toNatClampNeg = 3 + k := fun k hk => by rw [show (3 : Int32) = nI 3 from rfl, nI_add]; exact nI_clamp (by omega)
  refine am_Ev.mk (by decide +kernel) rfl rfl (Nat.le_refl _) (Nat.le_refl _) ?_
  change am_At _ _ _ 0 [_, _, _] [] _ _
  refine am_iconst 0 (v := 0) dX8_fine_0 (by decide) ?_
  refine am_istore_n dX8_fine_1 (am_lb rfl) ?_
  change am_At _ _ _ 2 [_, _, _] [] _ _
  have key := am_loop (Pr := fun k => am_At am_X0 d mX8_fine 2 [some (.inr (39, 0)), some (am_I b), some (am_I (nI k))] [] (am_hM h (fineM h.2.1 40 b k)) (.inl (none, am_hM h (fineM h.2.1 40 b 16)))) 16 ?_ ?_ 0 (by omega)
  · rw [fineM_0] at key
    exact key
  · refine am_iload_n dX8_fine_2 rfl ?_
    refine am_bipush 16 (v := 16) dX8_fine_3 (by decide) ?_
    refine am_icmp_geT (25) 30 dX8_fine_5 rfl (by decide) ?_
    exact am_vret dX8_fine_30 rfl
  · intro k hk ih
    refine am_iload_n dX8_fine_2 rfl ?_
    refine am_bipush 16 (v := 16) dX8_fine_3 (by decide) ?_
    refine am_icmp_geF (25) 30 dX8_fine_5 rfl (nI_ge (a := k) (b := 16) hk (by omega)) ?_
    refine am_aload_n dX8_fine_8 rfl ?_
    refine am_getR 8 0 40 dX8_fine_9 fg_X8_11 (sh_39 g) (by decide) rfl (rf_39_0 g) ?_
    refine am_iconst 3 (v := 3) dX8_fine_12 (by decide) ?_
    refine am_iload_n dX8_fine_13 rfl ?_
    refine am_iadd dX8_fine_14 ?_
    refine am_dup2 dX8_fine_15 (fun _ => rfl) (fun _ => rfl) ?_
    refine am_iald dX8_fine_16 (am_ia.one (sh_40 g)) (hin k hk) ?_
    refine am_iload_n dX8_fine_17 rfl ?_
    refine am_iload_n dX8_fine_18 rfl ?_
    refine am_ishr dX8_fine_19 ?_
    refine am_iconst 1 (v := 1) dX8_fine_20 (by decide) ?_
    refine am_iand dX8_fine_21 ?_
    refine am_iadd dX8_fine_22 ?_
    refine am_iast dX8_fine_23 (am_ia.one (sh_40 g)) (hin k hk) ?_
    refine am_iinc dX8_fine_24 rfl (am_i1 k) ?_
    change am_At _ _ _ 27 [_, _, _] [] _ _
    refine am_goto (-25) 2 dX8_fine_27 rfl ?_
    rw [fineM_s] at ih
    refine am_At.to ?_ ih
    show am_um _ _ _ _ _ = _
    unfold am_um am_hM
    rw [hcl k hk]
    simp only [fineM]
    rw [if_neg (by omega)]
