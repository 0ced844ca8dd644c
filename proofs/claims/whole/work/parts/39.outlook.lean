/-! the outlook's scratch rows, laid over the rest -/
def ol (M : Nat → Nat → Nat → Int32) (r : Nat → Nat → Int32) : Nat → Nat → Nat → Int32 := fun c ρ j => if ρ = 0 ∧ (c = 26 ∨ c = 27 ∨ c = 38 ∨ c = 40 ∨ c = 41 ∨ c = 42) then r c j else M c ρ j
abbrev olc (c : Nat) : Prop := c = 26 ∨ c = 27 ∨ c = 38 ∨ c = 40 ∨ c = 41 ∨ c = 42
def u2 (r : Nat → Nat → Int32) (c j : Nat) (v : Int32) : Nat → Nat → Int32 := fun c' j' => if c' = c ∧ j' = j then v else r c' j'
def urow (r : Nat → Nat → Int32) (c : Nat) (f : Nat → Int32) : Nat → Nat → Int32 := fun c' => if c' = c then f else r c'
theorem ol_u {M : Nat → Nat → Nat → Int32} {r : Nat → Nat → Int32} {c j : Nat} {v : Int32} (hc : olc c) : am_u3 (ol M r) c 0 j v = ol M (u2 r c j v) := by
  funext c' ρ j'
  simp only [am_u3, ol, u2]
  by_cases h : c' = c ∧ ρ = 0 ∧ j' = j
  · obtain ⟨rfl, rfl, rfl⟩ := h
    rw [if_pos ⟨rfl, rfl, rfl⟩, if_pos ⟨rfl, hc⟩, if_pos ⟨rfl, rfl⟩]
  · rw [if_neg h]
    by_cases h2 : ρ = 0 ∧ (c' = 26 ∨ c' = 27 ∨ c' = 38 ∨ c' = 40 ∨ c' = 41 ∨ c' = 42)
    · rw [if_pos h2, if_pos h2, if_neg (fun z => h ⟨z.1, h2.1, z.2⟩)]
    · rw [if_neg h2, if_neg h2]
theorem ol_row {M : Nat → Nat → Nat → Int32} {r : Nat → Nat → Int32} {c : Nat} {f : Nat → Int32} (hc : olc c) : am_row (ol M r) c f = ol M (urow r c f) := by
  funext c' ρ j'
  simp only [am_row, ol, urow]
  by_cases h : c' = c ∧ ρ = 0
  · obtain ⟨rfl, rfl⟩ := h
    rw [if_pos ⟨rfl, rfl⟩, if_pos ⟨rfl, hc⟩, if_pos rfl]
  · rw [if_neg h]
    by_cases h2 : ρ = 0 ∧ (c' = 26 ∨ c' = 27 ∨ c' = 38 ∨ c' = 40 ∨ c' = 41 ∨ c' = 42)
    · rw [if_pos h2, if_pos h2, if_neg (fun z => h ⟨z, h2.1⟩)]
    · rw [if_neg h2, if_neg h2]
theorem ol_id (M : Nat → Nat → Nat → Int32) : ol M (fun c j => M c 0 j) = M := by
  funext c ρ j
  simp only [ol]
  split
  next h => rw [h.1]
  next h => rfl
theorem ol_out {M : Nat → Nat → Nat → Int32} {r : Nat → Nat → Int32} {c : Nat} (hc : ¬ olc c) : ol M r c = M c := by
  funext ρ j
  simp only [ol]
  rw [if_neg (fun z => hc z.2)]
theorem ol_sc {M : Nat → Nat → Nat → Int32} {r : Nat → Nat → Int32} {F S : Nat → Int32} : sc (ol M r) F S = ol M (urow (urow r 27 F) 26 S) := by
  unfold sc
  rw [ol_row (by decide), ol_row (by decide)]
theorem LW.ol {M : Nat → Nat → Nat → Int32} {q len : Nat} {dp : Nat → Nat} (w : LW M q len dp) (r : Nat → Nat → Int32) : LW (ol M r) q len dp := by
  obtain ⟨w1, w2, w3, w4, w5, w6⟩ := w
  refine ⟨w1, w2, w3, w4, w5, ?_⟩
  rw [ol_out (by unfold olc; omega)]
  exact w6
theorem dueB_ol {M : Nat → Nat → Nat → Int32} {q len : Nat} {dp : Nat → Nat} (w : q = 24 ∨ q = 25) (r : Nat → Nat → Int32) (b : Nat) (hr fi : Int32) : dueB (ol M r) q len dp b hr fi = dueB M q len dp b hr fi := by
  unfold dueB
  rw [ol_out (c := q) (by unfold olc; omega)]
  rfl
/-- what is due in t HOURS, fined as now; what is open then -/
def dueA (M : Nat → Nat → Nat → Int32) (q len : Nat) (dp : Nat → Nat) (n t : Nat) : Int32 := bitsN (fun b => dueB M q len dp b (M 30 0 0 + nI t) (M 30 0 (3 + b))) n
def openA (M : Nat → Nat → Nat → Int32) (q len : Nat) (dp : Nat → Nat) (n t : Nat) : Int32 := opR (M 30 0) (dueA M q len dp n t)
/-- the outlook's row holds what is due, as far as it is known -/
def CV (M : Nat → Nat → Nat → Int32) (q len : Nat) (dp : Nat → Nat) (n : Nat) (r : Nat → Nat → Int32) : Prop := ∃ κ, κ ≤ 241 ∧ r 38 5 = nI κ ∧ ∀ j, j < κ → r 41 j = dueA M q len dp n j
/-- nothing else of the outlook changes -/
def keepD (r r' : Nat → Nat → Int32) : Prop := (∀ c, c ≠ 26 → c ≠ 27 → c ≠ 41 → c ≠ 38 → r' c = r c) ∧ ∀ j, j ≠ 5 → r' 38 j = r 38 j
theorem keepD.rf {r : Nat → Nat → Int32} : keepD r r := ⟨fun _ _ _ _ _ => rfl, fun _ _ => rfl⟩
theorem keepD.tr {r r1 r2 : Nat → Nat → Int32} (a : keepD r r1) (b : keepD r1 r2) : keepD r r2 := ⟨fun c h1 h2 h3 h4 => (b.1 c h1 h2 h3 h4).trans (a.1 c h1 h2 h3 h4), fun j hj => (b.2 j hj).trans (a.2 j hj)⟩
theorem ev_dueIn {d : Nat} {h : am_H} (g : lay h) {q len : Nat} {dp : Nat → Nat} (hq : h.2.2 23 0 = some q) {M : Nat → Nat → Nat → Int32} (w : LW M q len dp) {n : Nat} (hn : M 3 0 0 = nI n) (hn16 : n ≤ 16) {r : Nat → Nat → Int32} (cv : CV M q len dp n r) {t : Nat} (ht : t < 241) : ∃ r', keepD r r' ∧ CV M q len dp n r' ∧ am_Ev (d + 3) mX6_dueIn [.inr (38, 0), am_I (nI t)] (am_hM h (ol M r)) (.inl (some (am_I (dueA M q len dp n t)), am_hM h (ol M r'))) := by
  have key : ∀ m κ r, κ + m = 241 → κ ≤ 241 → r 38 5 = nI κ → (∀ j, j < κ → r 41 j = dueA M q len dp n j) → ∃ r', keepD r r' ∧ CV M q len dp n r' ∧ am_At am_X0 (d + 3) mX6_dueIn 15 [some (.inr (38, 0)), some (am_I (nI t))] [] (am_hM h (ol M r)) (.inl (some (am_I (dueA M q len dp n t)), am_hM h (ol M r'))) := by
    intro m
    induction m with
    | zero =>
      intro κ r e1 e2 e3 e4
      refine ⟨r, keepD.rf, ⟨κ, e2, e3, e4⟩, ?_⟩
      have et := e4 t (by omega)
      refine am_aload_n dX6_dueIn_15 rfl ?_
      refine am_getI 6 5 dX6_dueIn_16 fg_X6_36 (sh_38 g) (by decide) rfl ?_
      refine am_iload_n dX6_dueIn_19 rfl ?_
      change am_At _ _ _ _ _ [am_I (nI t), am_I (r 38 5)] _ _
      rw [e3]
      refine am_icmp_gtT (48) 68 dX6_dueIn_20 rfl (nI_lt (by omega) (by omega)) ?_
      refine am_aload_n dX6_dueIn_68 rfl ?_
      refine am_getR 6 4 41 dX6_dueIn_69 fg_X6_18 (sh_38 g) (by decide) rfl (rf_38_4 g) ?_
      refine am_iload_n dX6_dueIn_72 rfl ?_
      refine am_iald dX6_dueIn_73 (am_ia.one (sh_41 g)) (vp_in_nI ht (by omega)) ?_
      change am_At _ _ _ _ _ [am_I (r 41 (nI t).toNatClampNeg)] _ _
      rw [nI_clamp (by omega), et]
      exact am_iret dX6_dueIn_74 rfl
    | succ m ih =>
      intro κ r e1 e2 e3 e4
      by_cases hκ : t < κ
      · refine ⟨r, keepD.rf, ⟨κ, e2, e3, e4⟩, ?_⟩
        have et := e4 t hκ
        refine am_aload_n dX6_dueIn_15 rfl ?_
        refine am_getI 6 5 dX6_dueIn_16 fg_X6_36 (sh_38 g) (by decide) rfl ?_
        refine am_iload_n dX6_dueIn_19 rfl ?_
        change am_At _ _ _ _ _ [am_I (nI t), am_I (r 38 5)] _ _
        rw [e3]
        refine am_icmp_gtT (48) 68 dX6_dueIn_20 rfl (nI_lt (by omega) (by omega)) ?_
        refine am_aload_n dX6_dueIn_68 rfl ?_
        refine am_getR 6 4 41 dX6_dueIn_69 fg_X6_18 (sh_38 g) (by decide) rfl (rf_38_4 g) ?_
        refine am_iload_n dX6_dueIn_72 rfl ?_
        refine am_iald dX6_dueIn_73 (am_ia.one (sh_41 g)) (vp_in_nI ht (by omega)) ?_
        change am_At _ _ _ _ _ [am_I (r 41 (nI t).toNatClampNeg)] _ _
        rw [nI_clamp (by omega), et]
        exact am_iret dX6_dueIn_74 rfl
      · obtain ⟨F, S, E⟩ := ev_dueBits (d := d) (h := am_hM h (ol M r)) g hq (w.ol r) (n := n) hn hn16 (hr := M 30 0 0 + nI κ)
        have eb : bitsN (fun b => dueB (am_hM h (ol M r)).2.1 q len dp b (M 30 0 0 + nI κ) ((am_hM h (ol M r)).2.1 30 0 (3 + b))) n = dueA M q len dp n κ := bitsN_cong (fun b _ => dueB_ol w.1 r b _ _)
        have em : am_hM (am_hM h (ol M r)) (sc (am_hM h (ol M r)).2.1 F S) = am_hM h (ol M (urow (urow r 27 F) 26 S)) := by show am_hM h (sc (ol M r) F S) = _; rw [ol_sc]
        rw [eb, em] at E
        have E := E
        obtain ⟨r', k1, k2, k3⟩ := ih (κ + 1) (u2 (u2 (urow (urow r 27 F) 26 S) 41 κ (dueA M q len dp n κ)) 38 5 (nI κ + 1)) (by omega) (by omega) (by simp [u2, nI_1]) (fun j hj => by
          by_cases ej : j = κ
          · simp [u2, ej]
          · have := e4 j (by omega)
            simp [u2, urow, ej, this])
        refine ⟨r', keepD.tr ⟨fun c h1 h2 h3 h4 => by funext j; simp [u2, urow, h1, h2, h3, h4], fun j hj => by simp [u2, urow, hj]⟩ k1, k2, ?_⟩
        refine am_aload_n dX6_dueIn_15 rfl ?_
        refine am_getI 6 5 dX6_dueIn_16 fg_X6_36 (sh_38 g) (by decide) rfl ?_
        refine am_iload_n dX6_dueIn_19 rfl ?_
        change am_At _ _ _ _ _ [am_I (nI t), am_I (r 38 5)] _ _
        rw [e3]
        refine am_icmp_gtF (48) 68 dX6_dueIn_20 rfl (nI_nlt (by omega) (by omega)) ?_
        refine am_aload_n dX6_dueIn_23 rfl ?_
        refine am_getR 6 4 41 dX6_dueIn_24 fg_X6_18 (sh_38 g) (by decide) rfl (rf_38_4 g) ?_
        refine am_aload_n dX6_dueIn_27 rfl ?_
        refine am_getI 6 5 dX6_dueIn_28 fg_X6_36 (sh_38 g) (by decide) rfl ?_
        refine am_aload_n dX6_dueIn_31 rfl ?_
        refine am_getR 6 1 28 dX6_dueIn_32 fg_X6_29 (sh_38 g) (by decide) rfl (rf_38_1 g) ?_
        refine am_aload_n dX6_dueIn_35 rfl ?_
        refine am_getR 6 2 29 dX6_dueIn_36 fg_X6_33 (sh_38 g) (by decide) rfl (rf_38_2 g) ?_
        refine am_aload_n dX6_dueIn_39 rfl ?_
        refine am_getR 6 2 29 dX6_dueIn_40 fg_X6_33 (sh_38 g) (by decide) rfl (rf_38_2 g) ?_
        refine am_callV [] dX6_dueIn_43 ml_X6_40 vm_X8_hour (sh_29 g) rfl (fun _ => Nat.le_of_ble_eq_true rfl) (by omega) rfl (ev_hour (d := d + 2) (h := am_hM h (ol M r)) g) rfl ?_
        change am_At _ _ _ 46 [_, _] [_, _, _, _, _] _ _
        refine am_aload_n dX6_dueIn_46 rfl ?_
        refine am_getI 6 5 dX6_dueIn_47 fg_X6_36 (sh_38 g) (by decide) rfl ?_
        refine am_iadd dX6_dueIn_50 ?_
        change am_At _ _ _ _ _ [am_I (M 30 0 0 + r 38 5), _, _, am_I (r 38 5), _] _ _
        rw [e3]
        refine am_callV [_, _] dX6_dueIn_51 ml_X6_44 vm_X4_dueBits (sh_28 g) rfl (fun _ => Nat.le_of_ble_eq_true rfl) (by omega) rfl (E) rfl ?_
        change am_At _ _ _ 54 [_, _] [_, _, _] _ _
        refine am_iast dX6_dueIn_54 (am_ia.one (sh_41 g)) (vp_in_nI (by omega) (by omega)) ?_
        refine am_aload_n dX6_dueIn_55 rfl ?_
        refine am_dup dX6_dueIn_56 (fun _ => rfl) ?_
        refine am_getI 6 5 dX6_dueIn_57 fg_X6_36 (sh_38 g) (by decide) rfl ?_
        refine am_iconst 1 (v := 1) dX6_dueIn_60 (by decide) ?_
        refine am_iadd dX6_dueIn_61 ?_
        refine am_putI 6 5 dX6_dueIn_62 (Or.inl fp_X6_36) (sh_38 g) (by decide) rfl rfl rfl ?_
        refine am_goto (-50) 15 dX6_dueIn_65 rfl ?_
        refine am_At.to ?_ k3
        show am_um (am_um _ _ _ _ _) _ _ _ _ = _
        unfold am_um
        show (h.1, am_u3 (am_u3 (ol M _) 41 0 (nI κ).toNatClampNeg (dueA M q len dp n κ)) 38 0 5 (am_u3 (ol M (urow (urow r 27 F) 26 S)) 41 0 (nI κ).toNatClampNeg (dueA M q len dp n κ) 38 0 5 + 1), h.2.2) = _
        rw [nI_clamp (by omega), ol_u (by decide)]
        have e5 : ol M (u2 (urow (urow r 27 F) 26 S) 41 κ (dueA M q len dp n κ)) 38 0 5 = nI κ := by
          simp [ol, u2, urow, e3]
        rw [e5, ol_u (by decide)]
        rfl
  obtain ⟨κ, c1, c2, c3⟩ := cv
  obtain ⟨r', k1, k2, k3⟩ := key (241 - κ) κ r (by omega) c1 c2 c3
  refine ⟨r', k1, k2, ?_⟩
  refine am_Ev.mk (by decide +kernel) rfl rfl (Nat.le_refl _) (Nat.le_refl _) ?_
  change am_At _ _ _ 0 [_, _] [] _ _
  refine am_iload_n dX6_dueIn_0 rfl ?_
  refine am_if_ltF (12) 13 dX6_dueIn_1 rfl (nI_pos (by omega)) ?_
  refine am_iload_n dX6_dueIn_4 rfl ?_
  refine am_aload_n dX6_dueIn_5 rfl ?_
  refine am_getR 6 4 41 dX6_dueIn_6 fg_X6_18 (sh_38 g) (by decide) rfl (rf_38_4 g) ?_
  refine am_alen dX6_dueIn_9 (am_ia.one (sh_41 g)) rfl ?_
  change am_At _ _ _ _ _ [am_I (nI 241), _] _ _
  refine am_icmp_ltT (5) 15 dX6_dueIn_10 rfl (nI_lt ht (by omega)) ?_
  exact k3
theorem ev_openIn {d : Nat} {h : am_H} (g : lay h) {q len : Nat} {dp : Nat → Nat} (hq : h.2.2 23 0 = some q) {M : Nat → Nat → Nat → Int32} (w : LW M q len dp) {n : Nat} (hn : M 3 0 0 = nI n) (hn16 : n ≤ 16) {r : Nat → Nat → Int32} (cv : CV M q len dp n r) {t : Nat} (ht : t < 241) : ∃ r', keepD r r' ∧ CV M q len dp n r' ∧ am_Ev (d + 4) mX6_openIn [.inr (38, 0), am_I (nI t)] (am_hM h (ol M r)) (.inl (some (am_I (openA M q len dp n t)), am_hM h (ol M r'))) := by
  obtain ⟨r', k1, k2, E⟩ := ev_dueIn (d := d) g hq w hn hn16 cv ht
  refine ⟨r', k1, k2, ?_⟩
  refine am_Ev.mk (by decide +kernel) rfl rfl (Nat.le_refl _) (Nat.le_refl _) ?_
  change am_At _ _ _ 0 [_, _] [] _ _
  refine am_aload_n dX6_openIn_0 rfl ?_
  refine am_getR 6 1 28 dX6_openIn_1 fg_X6_29 (sh_38 g) (by decide) rfl (rf_38_1 g) ?_
  refine am_aload_n dX6_openIn_4 rfl ?_
  refine am_getR 6 2 29 dX6_openIn_5 fg_X6_33 (sh_38 g) (by decide) rfl (rf_38_2 g) ?_
  refine am_aload_n dX6_openIn_8 rfl ?_
  refine am_iload_n dX6_openIn_9 rfl ?_
  refine am_callV [_] dX6_openIn_10 ml_X6_50 vm_X6_dueIn (sh_38 g) rfl (fun _ => Nat.le_of_ble_eq_true rfl) (by omega) rfl (E) rfl ?_
  change am_At _ _ _ 13 [_, _] [_, _, _] _ _
  refine am_callV [_, _] dX6_openIn_13 ml_X6_54 vm_X4_openBits (sh_28 g) rfl (fun _ => Nat.le_of_ble_eq_true rfl) (by omega) rfl (ev_X4_openBits_28_29 (d := d + 2) (h := am_hM h (ol M r')) (a0 := dueA M q len dp n t) g) rfl ?_
  change am_At _ _ _ 16 [_, _] [_] _ _
  exact am_iret dX6_openIn_16 rfl
theorem ev_openNow {d : Nat} {h : am_H} (g : lay h) {q len : Nat} {dp : Nat → Nat} (hq : h.2.2 23 0 = some q) {M : Nat → Nat → Nat → Int32} (w : LW M q len dp) {n : Nat} (hn : M 3 0 0 = nI n) (hn16 : n ≤ 16) {r : Nat → Nat → Int32} (cv : CV M q len dp n r) : ∃ r', keepD r r' ∧ CV M q len dp n r' ∧ am_Ev (d + 5) mX11_openNow [.inr (0, 0)] (am_hM h (ol M r)) (.inl (some (am_I (openA M q len dp n 0)), am_hM h (ol M r'))) := by
  obtain ⟨r', k1, k2, E⟩ := ev_openIn (d := d) g hq w hn hn16 cv (t := 0) (by omega)
  refine ⟨r', k1, k2, ?_⟩
  refine am_Ev.mk (by decide +kernel) rfl rfl (Nat.le_refl _) (Nat.le_refl _) ?_
  change am_At _ _ _ 0 [_] [] _ _
  refine am_aload_n dX11_openNow_0 rfl ?_
  refine am_getR 11 8 38 dX11_openNow_1 fg_X11_68 (sh_0 g) (by decide) rfl (rf_0_8 g) ?_
  refine am_iconst 0 (v := 0) dX11_openNow_4 (by decide) ?_
  refine am_callV [_] dX11_openNow_5 ml_X11_278 vm_X6_openIn (sh_38 g) rfl (fun _ => Nat.le_of_ble_eq_true rfl) (by omega) rfl (E) rfl ?_
  change am_At _ _ _ 8 [_] [_] _ _
  exact am_iret dX11_openNow_8 rfl
