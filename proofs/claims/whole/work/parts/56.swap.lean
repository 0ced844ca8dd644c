def swW (h : am_H) (a b : Nat) : am_H := am_ur (am_ur h 23 0 (some b)) 23 2 (some a)
def swN (h : am_H) (a b : Nat) : am_H := am_ur (am_ur h 45 1 (some b)) 45 2 (some a)
theorem lay.swW {h : am_H} {a b : Nat} (g : lay h) : lay (swW h a b) := by
  refine ⟨g.1, fun q hq => ?_⟩
  have z : ∀ q ∈ am_RF, ¬ (q.1 = 23 ∧ q.2.1 = 0) ∧ ¬ (q.1 = 23 ∧ q.2.1 = 2) := by decide
  show (if q.1 = 23 ∧ q.2.1 = 2 then _ else if q.1 = 23 ∧ q.2.1 = 0 then _ else _) = _
  rw [if_neg (z q hq).2, if_neg (z q hq).1]
  exact g.2 q hq
theorem lay.swN {h : am_H} {a b : Nat} (g : lay h) : lay (swN h a b) := by
  refine ⟨g.1, fun q hq => ?_⟩
  have z : ∀ q ∈ am_RF, ¬ (q.1 = 45 ∧ q.2.1 = 1) ∧ ¬ (q.1 = 45 ∧ q.2.1 = 2) := by decide
  show (if q.1 = 45 ∧ q.2.1 = 2 then _ else if q.1 = 45 ∧ q.2.1 = 1 then _ else _) = _
  rw [if_neg (z q hq).2, if_neg (z q hq).1]
  exact g.2 q hq
def swb (b : Bool) (x y : am_H) : am_H := match b with
  | true => x
  | false => y
def am_o1w (f : Bool → am_H) (x : (Int32 ⊕ String) × Bool × Mem) : am_R := match x.1 with
  | .inl a => .inl (some (am_I a), am_hM (f x.2.1) x.2.2)
  | .inr E => .inr (E, am_hM (f x.2.1) x.2.2)
theorem am_oc1w {h : am_H} {f : Bool → am_H} (hf : ∀ b, (f b).1 = h.1) (x : (Int32 ⊕ String) × Bool × Mem) {M : Mem} : am_nc (am_hM h M) ≤ am_rc (am_o1w f x) := by
  obtain ⟨a | a, b, M1⟩ := x
  · show am_nc (am_hM h M) ≤ am_nc (am_hM (f b) M1)
    show (h.1.map am_c1).sum ≤ ((f b).1.map am_c1).sum
    rw [hf]
    exact Nat.le_refl _
  · show (h.1.map am_c1).sum ≤ ((f b).1.map am_c1).sum + 1
    rw [hf]
    exact Nat.le_succ _
theorem am_os1w {h : am_H} {f : Bool → am_H} (hf : ∀ b, (f b).1 = h.1) (x : (Int32 ⊕ String) × Bool × Mem) {M : Mem} : am_ns (am_hM h M) ≤ am_rs (am_o1w f x) := by
  obtain ⟨a | a, b, M1⟩ := x
  · show (h.1.map am_s1).sum ≤ ((f b).1.map am_s1).sum
    rw [hf]
    exact Nat.le_refl _
  · show (h.1.map am_s1).sum ≤ ((f b).1.map am_s1).sum + 6
    rw [hf]
    exact Nat.le_add_right _ 6
theorem eL_X3_adoptDraft_33_25 {d : Nat} {h : am_H} (g : lay h) (hW : h.2.2 23 0 = some 25 ∧ h.2.2 23 2 = some 24) {r : am_R} (n : Nat) : ∀ (s : Int32 × Mem) (e : Mem), wh (L_X3_adoptDraft_33 25 24) n s = some e → ((fun (M : Mem) => am_At am_X0 (d + 0) mX3_adoptDraft 74 [some (.inr (23, 0)), some (.inr (24, 0)), none] [] (am_hM h M) r) e) → (match s with | (x2, M) => am_At am_X0 (d + 0) mX3_adoptDraft 33 [some (.inr (23, 0)), some (.inr (24, 0)), some (am_I (x2))] [] (am_hM h M) r) := by
  refine am_wh (At := fun (s : Int32 × Mem) => match s with | (x2, M) => am_At am_X0 (d + 0) mX3_adoptDraft 33 [some (.inr (23, 0)), some (.inr (24, 0)), some (am_I (x2))] [] (am_hM h M) r) (Ex := fun (e : Mem) => (fun (M : Mem) => am_At am_X0 (d + 0) mX3_adoptDraft 74 [some (.inr (23, 0)), some (.inr (24, 0)), none] [] (am_hM h M) r) e) ?_ n
  rintro ⟨x2, M⟩ y hyp hx
  unfold L_X3_adoptDraft_33 at hyp
  try dsimp only at hyp
  change am_At _ _ _ 33 [_, _, _] [] _ _
  refine am_iload_n dX3_adoptDraft_33 rfl ?_
  refine am_aload_n dX3_adoptDraft_34 rfl ?_
  refine am_getI 3 1 dX3_adoptDraft_35 fg_X3_55 (sh_23 g) (by decide) rfl ?_
  refine am_icmp_ge (36) 74 dX3_adoptDraft_38 rfl ?_ ?_
  · intro hc1
    have hc1 : (M 23 0 1) ≤ x2 := hc1
    replace hyp := it_pos hc1 hyp
    cases hyp
    refine am_At.drop 2 ?_
    exact hx
  · intro hc1n
    have hc1n : ¬ ((M 23 0 1) ≤ x2) := hc1n
    replace hyp := it_neg hc1n hyp
    refine am_aload_n dX3_adoptDraft_41 rfl ?_
    refine am_aload_n dX3_adoptDraft_42 rfl ?_
    refine am_getI 3 4 dX3_adoptDraft_43 fg_X3_51 (sh_23 g) (by decide) rfl ?_
    refine am_if_ne (14) 60 dX3_adoptDraft_46 rfl ?_ ?_
    · intro hc2n
      have hc2n : ¬ ((M 23 0 4) = 0) := hc2n
      replace hyp := it_neg hc2n hyp
      refine am_iconst 1 (v := 1) dX3_adoptDraft_60 (by decide) ?_
      refine am_goto (4) 65 dX3_adoptDraft_61 rfl ?_
      refine am_putI 3 4 dX3_adoptDraft_65 (Or.inl fp_X3_51) (sh_23 g) (by decide) rfl rfl rfl ?_
      refine am_iinc dX3_adoptDraft_68 rfl (am_ix _) ?_
      change am_At _ _ _ 71 [_, _, _] [] _ _
      refine am_goto (-38) 33 dX3_adoptDraft_71 rfl ?_
      cases hyp
      exact hx
    · intro hc2
      have hc2 : (M 23 0 4) = 0 := hc2
      replace hyp := it_pos hc2 hyp
      refine am_aload_n dX3_adoptDraft_49 rfl ?_
      refine am_getR 3 0 25 dX3_adoptDraft_50 fg_X3_9 (sh_23 g) (by decide) rfl hW.1 ?_
      refine am_iload_n dX3_adoptDraft_53 rfl ?_
      obtain ⟨hg3, hyp⟩ := gd_some hyp
      refine am_iald dX3_adoptDraft_54 (am_ia.one (sh_25 g)) (am_lit hg3) ?_
      refine am_bipush 7 (v := 7) dX3_adoptDraft_55 (by decide) ?_
      refine am_icmp_ne (7) 64 dX3_adoptDraft_57 rfl ?_ ?_
      · intro hc4n
        have hc4n : ¬ ((M 25 0 x2.toNatClampNeg) = (7 : Int32)) := hc4n
        replace hyp := it_neg hc4n hyp
        refine am_iconst 0 (v := 0) dX3_adoptDraft_64 (by decide) ?_
        refine am_putI 3 4 dX3_adoptDraft_65 (Or.inl fp_X3_51) (sh_23 g) (by decide) rfl rfl rfl ?_
        refine am_iinc dX3_adoptDraft_68 rfl (am_ix _) ?_
        change am_At _ _ _ 71 [_, _, _] [] _ _
        refine am_goto (-38) 33 dX3_adoptDraft_71 rfl ?_
        cases hyp
        exact hx
      · intro hc4
        have hc4 : (M 25 0 x2.toNatClampNeg) = (7 : Int32) := hc4
        replace hyp := it_pos hc4 hyp
        refine am_iconst 1 (v := 1) dX3_adoptDraft_60 (by decide) ?_
        refine am_goto (4) 65 dX3_adoptDraft_61 rfl ?_
        refine am_putI 3 4 dX3_adoptDraft_65 (Or.inl fp_X3_51) (sh_23 g) (by decide) rfl rfl rfl ?_
        refine am_iinc dX3_adoptDraft_68 rfl (am_ix _) ?_
        change am_At _ _ _ 71 [_, _, _] [] _ _
        refine am_goto (-38) 33 dX3_adoptDraft_71 rfl ?_
        cases hyp
        exact hx
theorem ef_X3_adoptDraft_24 {d : Nat} {h : am_H} (g : lay h) (hW : h.2.2 23 0 = some 24 ∧ h.2.2 23 2 = some 25) {M : Mem} {M' : Mem} (hyp : f_X3_adoptDraft 24 25 M = some M') : am_Ev (d + 0) mX3_adoptDraft [.inr (23, 0)] (am_hM h M) (.inl (none, am_hM (swW h 24 25) M')) := by
  unfold f_X3_adoptDraft at hyp
  refine am_Ev.mk (by decide +kernel) rfl rfl (Nat.le_refl _) (Nat.le_refl _) ?_
  change am_At _ _ _ 0 [_, _, _] [] _ _
  refine am_aload_n dX3_adoptDraft_0 rfl ?_
  refine am_getR 3 0 24 dX3_adoptDraft_1 fg_X3_9 (sh_23 g) (by decide) rfl hW.1 ?_
  refine am_astore_n dX3_adoptDraft_4 (am_lb rfl) ?_
  change am_At _ _ _ 5 [_, _, _] [] _ _
  refine am_aload_n dX3_adoptDraft_5 rfl ?_
  refine am_aload_n dX3_adoptDraft_6 rfl ?_
  refine am_getR 3 2 25 dX3_adoptDraft_7 fg_X3_15 (sh_23 g) (by decide) rfl hW.2 ?_
  refine am_putR 3 0 (t := 25) dX3_adoptDraft_10 (Or.inl fp_X3_9) (sh_23 g) (by decide) rfl (fun _ => rfl) (fun _ => rfl) ?_
  refine am_aload_n dX3_adoptDraft_13 rfl ?_
  refine am_aload_n dX3_adoptDraft_14 rfl ?_
  refine am_putR 3 2 (t := 24) dX3_adoptDraft_15 (Or.inl fp_X3_15) (sh_23 (h := h) g) (by decide) rfl (fun _ => rfl) (fun _ => rfl) ?_
  have g2 : lay (swW h 24 25) := lay.swW g
  have hW2 : (swW h 24 25).2.2 23 0 = some 25 ∧ (swW h 24 25).2.2 23 2 = some 24 := ⟨rfl, rfl⟩
  change am_At _ _ _ 18 [_, _, _] [] (am_hM (swW h 24 25) M) _
  refine am_aload_n dX3_adoptDraft_18 rfl ?_
  refine am_aload_n dX3_adoptDraft_19 rfl ?_
  refine am_getI 3 3 dX3_adoptDraft_20 fg_X3_27 (sh_23 g2) (by decide) rfl ?_
  refine am_putI 3 1 dX3_adoptDraft_23 (Or.inl fp_X3_55) (sh_23 g2) (by decide) rfl rfl rfl ?_
  refine am_aload_n dX3_adoptDraft_26 rfl ?_
  refine am_iconst 0 (v := 0) dX3_adoptDraft_27 (by decide) ?_
  refine am_putI 3 4 dX3_adoptDraft_28 (Or.inl fp_X3_51) (sh_23 g2) (by decide) rfl rfl rfl ?_
  refine am_iconst 0 (v := 0) dX3_adoptDraft_31 (by decide) ?_
  refine am_istore_n dX3_adoptDraft_32 (am_lb rfl) ?_
  change am_At _ _ _ 33 [_, _, _] [] _ _
  obtain ⟨M1, hw1, hyp⟩ := bd_some hyp
  try dsimp only at hyp
  refine eL_X3_adoptDraft_33_25 (d := d) (h := (swW h 24 25)) g2 hW2  FU ((0 : Int32), (am_u3 (am_u3 M 23 0 1 (M 23 0 3)) 23 0 4 (0 : Int32))) M1 hw1 ?_
  change am_At _ _ _ 74 [_, _, _] [] _ _
  cases hyp
  exact am_vret dX3_adoptDraft_74 rfl
theorem eL_X3_adoptDraft_33_24 {d : Nat} {h : am_H} (g : lay h) (hW : h.2.2 23 0 = some 24 ∧ h.2.2 23 2 = some 25) {r : am_R} (n : Nat) : ∀ (s : Int32 × Mem) (e : Mem), wh (L_X3_adoptDraft_33 24 25) n s = some e → ((fun (M : Mem) => am_At am_X0 (d + 0) mX3_adoptDraft 74 [some (.inr (23, 0)), some (.inr (25, 0)), none] [] (am_hM h M) r) e) → (match s with | (x2, M) => am_At am_X0 (d + 0) mX3_adoptDraft 33 [some (.inr (23, 0)), some (.inr (25, 0)), some (am_I (x2))] [] (am_hM h M) r) := by
  refine am_wh (At := fun (s : Int32 × Mem) => match s with | (x2, M) => am_At am_X0 (d + 0) mX3_adoptDraft 33 [some (.inr (23, 0)), some (.inr (25, 0)), some (am_I (x2))] [] (am_hM h M) r) (Ex := fun (e : Mem) => (fun (M : Mem) => am_At am_X0 (d + 0) mX3_adoptDraft 74 [some (.inr (23, 0)), some (.inr (25, 0)), none] [] (am_hM h M) r) e) ?_ n
  rintro ⟨x2, M⟩ y hyp hx
  unfold L_X3_adoptDraft_33 at hyp
  try dsimp only at hyp
  change am_At _ _ _ 33 [_, _, _] [] _ _
  refine am_iload_n dX3_adoptDraft_33 rfl ?_
  refine am_aload_n dX3_adoptDraft_34 rfl ?_
  refine am_getI 3 1 dX3_adoptDraft_35 fg_X3_55 (sh_23 g) (by decide) rfl ?_
  refine am_icmp_ge (36) 74 dX3_adoptDraft_38 rfl ?_ ?_
  · intro hc1
    have hc1 : (M 23 0 1) ≤ x2 := hc1
    replace hyp := it_pos hc1 hyp
    cases hyp
    refine am_At.drop 2 ?_
    exact hx
  · intro hc1n
    have hc1n : ¬ ((M 23 0 1) ≤ x2) := hc1n
    replace hyp := it_neg hc1n hyp
    refine am_aload_n dX3_adoptDraft_41 rfl ?_
    refine am_aload_n dX3_adoptDraft_42 rfl ?_
    refine am_getI 3 4 dX3_adoptDraft_43 fg_X3_51 (sh_23 g) (by decide) rfl ?_
    refine am_if_ne (14) 60 dX3_adoptDraft_46 rfl ?_ ?_
    · intro hc2n
      have hc2n : ¬ ((M 23 0 4) = 0) := hc2n
      replace hyp := it_neg hc2n hyp
      refine am_iconst 1 (v := 1) dX3_adoptDraft_60 (by decide) ?_
      refine am_goto (4) 65 dX3_adoptDraft_61 rfl ?_
      refine am_putI 3 4 dX3_adoptDraft_65 (Or.inl fp_X3_51) (sh_23 g) (by decide) rfl rfl rfl ?_
      refine am_iinc dX3_adoptDraft_68 rfl (am_ix _) ?_
      change am_At _ _ _ 71 [_, _, _] [] _ _
      refine am_goto (-38) 33 dX3_adoptDraft_71 rfl ?_
      cases hyp
      exact hx
    · intro hc2
      have hc2 : (M 23 0 4) = 0 := hc2
      replace hyp := it_pos hc2 hyp
      refine am_aload_n dX3_adoptDraft_49 rfl ?_
      refine am_getR 3 0 24 dX3_adoptDraft_50 fg_X3_9 (sh_23 g) (by decide) rfl hW.1 ?_
      refine am_iload_n dX3_adoptDraft_53 rfl ?_
      obtain ⟨hg3, hyp⟩ := gd_some hyp
      refine am_iald dX3_adoptDraft_54 (am_ia.one (sh_24 g)) (am_lit hg3) ?_
      refine am_bipush 7 (v := 7) dX3_adoptDraft_55 (by decide) ?_
      refine am_icmp_ne (7) 64 dX3_adoptDraft_57 rfl ?_ ?_
      · intro hc4n
        have hc4n : ¬ ((M 24 0 x2.toNatClampNeg) = (7 : Int32)) := hc4n
        replace hyp := it_neg hc4n hyp
        refine am_iconst 0 (v := 0) dX3_adoptDraft_64 (by decide) ?_
        refine am_putI 3 4 dX3_adoptDraft_65 (Or.inl fp_X3_51) (sh_23 g) (by decide) rfl rfl rfl ?_
        refine am_iinc dX3_adoptDraft_68 rfl (am_ix _) ?_
        change am_At _ _ _ 71 [_, _, _] [] _ _
        refine am_goto (-38) 33 dX3_adoptDraft_71 rfl ?_
        cases hyp
        exact hx
      · intro hc4
        have hc4 : (M 24 0 x2.toNatClampNeg) = (7 : Int32) := hc4
        replace hyp := it_pos hc4 hyp
        refine am_iconst 1 (v := 1) dX3_adoptDraft_60 (by decide) ?_
        refine am_goto (4) 65 dX3_adoptDraft_61 rfl ?_
        refine am_putI 3 4 dX3_adoptDraft_65 (Or.inl fp_X3_51) (sh_23 g) (by decide) rfl rfl rfl ?_
        refine am_iinc dX3_adoptDraft_68 rfl (am_ix _) ?_
        change am_At _ _ _ 71 [_, _, _] [] _ _
        refine am_goto (-38) 33 dX3_adoptDraft_71 rfl ?_
        cases hyp
        exact hx
theorem ef_X3_adoptDraft_25 {d : Nat} {h : am_H} (g : lay h) (hW : h.2.2 23 0 = some 25 ∧ h.2.2 23 2 = some 24) {M : Mem} {M' : Mem} (hyp : f_X3_adoptDraft 25 24 M = some M') : am_Ev (d + 0) mX3_adoptDraft [.inr (23, 0)] (am_hM h M) (.inl (none, am_hM (swW h 25 24) M')) := by
  unfold f_X3_adoptDraft at hyp
  refine am_Ev.mk (by decide +kernel) rfl rfl (Nat.le_refl _) (Nat.le_refl _) ?_
  change am_At _ _ _ 0 [_, _, _] [] _ _
  refine am_aload_n dX3_adoptDraft_0 rfl ?_
  refine am_getR 3 0 25 dX3_adoptDraft_1 fg_X3_9 (sh_23 g) (by decide) rfl hW.1 ?_
  refine am_astore_n dX3_adoptDraft_4 (am_lb rfl) ?_
  change am_At _ _ _ 5 [_, _, _] [] _ _
  refine am_aload_n dX3_adoptDraft_5 rfl ?_
  refine am_aload_n dX3_adoptDraft_6 rfl ?_
  refine am_getR 3 2 24 dX3_adoptDraft_7 fg_X3_15 (sh_23 g) (by decide) rfl hW.2 ?_
  refine am_putR 3 0 (t := 24) dX3_adoptDraft_10 (Or.inl fp_X3_9) (sh_23 g) (by decide) rfl (fun _ => rfl) (fun _ => rfl) ?_
  refine am_aload_n dX3_adoptDraft_13 rfl ?_
  refine am_aload_n dX3_adoptDraft_14 rfl ?_
  refine am_putR 3 2 (t := 25) dX3_adoptDraft_15 (Or.inl fp_X3_15) (sh_23 (h := h) g) (by decide) rfl (fun _ => rfl) (fun _ => rfl) ?_
  have g2 : lay (swW h 25 24) := lay.swW g
  have hW2 : (swW h 25 24).2.2 23 0 = some 24 ∧ (swW h 25 24).2.2 23 2 = some 25 := ⟨rfl, rfl⟩
  change am_At _ _ _ 18 [_, _, _] [] (am_hM (swW h 25 24) M) _
  refine am_aload_n dX3_adoptDraft_18 rfl ?_
  refine am_aload_n dX3_adoptDraft_19 rfl ?_
  refine am_getI 3 3 dX3_adoptDraft_20 fg_X3_27 (sh_23 g2) (by decide) rfl ?_
  refine am_putI 3 1 dX3_adoptDraft_23 (Or.inl fp_X3_55) (sh_23 g2) (by decide) rfl rfl rfl ?_
  refine am_aload_n dX3_adoptDraft_26 rfl ?_
  refine am_iconst 0 (v := 0) dX3_adoptDraft_27 (by decide) ?_
  refine am_putI 3 4 dX3_adoptDraft_28 (Or.inl fp_X3_51) (sh_23 g2) (by decide) rfl rfl rfl ?_
  refine am_iconst 0 (v := 0) dX3_adoptDraft_31 (by decide) ?_
  refine am_istore_n dX3_adoptDraft_32 (am_lb rfl) ?_
  change am_At _ _ _ 33 [_, _, _] [] _ _
  obtain ⟨M1, hw1, hyp⟩ := bd_some hyp
  try dsimp only at hyp
  refine eL_X3_adoptDraft_33_24 (d := d) (h := (swW h 25 24)) g2 hW2  FU ((0 : Int32), (am_u3 (am_u3 M 23 0 1 (M 23 0 3)) 23 0 4 (0 : Int32))) M1 hw1 ?_
  change am_At _ _ _ 74 [_, _, _] [] _ _
  cases hyp
  exact am_vret dX3_adoptDraft_74 rfl
theorem ef_X3_beUntold_24 {d : Nat} {h : am_H} (g : lay h) (hW : h.2.2 23 0 = some 24 ∧ h.2.2 23 2 = some 25) {M : Mem} {M' : Mem} (hyp : f_X3_beUntold 24 25 M = some M') : am_Ev (d + 1) mX3_beUntold [.inr (23, 0)] (am_hM h M) (.inl (none, am_hM (swW h 24 25) M')) := by
  unfold f_X3_beUntold at hyp
  refine am_Ev.mk (by decide +kernel) rfl rfl (Nat.le_refl _) (Nat.le_refl _) ?_
  change am_At _ _ _ 0 [_] [] _ _
  refine am_aload_n dX3_beUntold_0 rfl ?_
  refine am_iconst 0 (v := 0) dX3_beUntold_1 (by decide) ?_
  refine am_putI 3 3 dX3_beUntold_2 (Or.inl fp_X3_27) (sh_23 g) (by decide) rfl rfl rfl ?_
  refine am_aload_n dX3_beUntold_5 rfl ?_
  refine am_bipush 16 (v := 16) dX3_beUntold_6 (by decide) ?_
  obtain ⟨M1, hk1, hyp⟩ := bd_some hyp
  try dsimp only at hyp
  refine am_callV [_] dX3_beUntold_8 ml_X3_31 vm_X3_add (sh_23 g) rfl (fun _ => Nat.le_of_ble_eq_true rfl) (by omega) rfl (ef_X3_add_24 (d := d + 0) (h := h) g hW hk1) rfl ?_
  change am_At _ _ _ 11 [_] [] _ _
  refine am_aload_n dX3_beUntold_11 rfl ?_
  refine am_iconst 0 (v := 0) dX3_beUntold_12 (by decide) ?_
  obtain ⟨M2, hk2, hyp⟩ := bd_some hyp
  try dsimp only at hyp
  refine am_callV [_] dX3_beUntold_13 ml_X3_31 vm_X3_add (sh_23 g) rfl (fun _ => Nat.le_of_ble_eq_true rfl) (by omega) rfl (ef_X3_add_24 (d := d + 0) (h := h) g hW hk2) rfl ?_
  change am_At _ _ _ 16 [_] [] _ _
  refine am_aload_n dX3_beUntold_16 rfl ?_
  refine am_bipush 27 (v := 27) dX3_beUntold_17 (by decide) ?_
  obtain ⟨M3, hk3, hyp⟩ := bd_some hyp
  try dsimp only at hyp
  refine am_callV [_] dX3_beUntold_19 ml_X3_31 vm_X3_add (sh_23 g) rfl (fun _ => Nat.le_of_ble_eq_true rfl) (by omega) rfl (ef_X3_add_24 (d := d + 0) (h := h) g hW hk3) rfl ?_
  change am_At _ _ _ 22 [_] [] _ _
  refine am_aload_n dX3_beUntold_22 rfl ?_
  refine am_bipush 11 (v := 11) dX3_beUntold_23 (by decide) ?_
  obtain ⟨M4, hk4, hyp⟩ := bd_some hyp
  try dsimp only at hyp
  refine am_callV [_] dX3_beUntold_25 ml_X3_31 vm_X3_add (sh_23 g) rfl (fun _ => Nat.le_of_ble_eq_true rfl) (by omega) rfl (ef_X3_add_24 (d := d + 0) (h := h) g hW hk4) rfl ?_
  change am_At _ _ _ 28 [_] [] _ _
  refine am_aload_n dX3_beUntold_28 rfl ?_
  refine am_bipush 27 (v := 27) dX3_beUntold_29 (by decide) ?_
  obtain ⟨M5, hk5, hyp⟩ := bd_some hyp
  try dsimp only at hyp
  refine am_callV [_] dX3_beUntold_31 ml_X3_31 vm_X3_add (sh_23 g) rfl (fun _ => Nat.le_of_ble_eq_true rfl) (by omega) rfl (ef_X3_add_24 (d := d + 0) (h := h) g hW hk5) rfl ?_
  change am_At _ _ _ 34 [_] [] _ _
  refine am_aload_n dX3_beUntold_34 rfl ?_
  refine am_iconst 0 (v := 0) dX3_beUntold_35 (by decide) ?_
  obtain ⟨M6, hk6, hyp⟩ := bd_some hyp
  try dsimp only at hyp
  refine am_callV [_] dX3_beUntold_36 ml_X3_31 vm_X3_add (sh_23 g) rfl (fun _ => Nat.le_of_ble_eq_true rfl) (by omega) rfl (ef_X3_add_24 (d := d + 0) (h := h) g hW hk6) rfl ?_
  change am_At _ _ _ 39 [_] [] _ _
  refine am_aload_n dX3_beUntold_39 rfl ?_
  refine am_bipush 11 (v := 11) dX3_beUntold_40 (by decide) ?_
  obtain ⟨M7, hk7, hyp⟩ := bd_some hyp
  try dsimp only at hyp
  refine am_callV [_] dX3_beUntold_42 ml_X3_31 vm_X3_add (sh_23 g) rfl (fun _ => Nat.le_of_ble_eq_true rfl) (by omega) rfl (ef_X3_add_24 (d := d + 0) (h := h) g hW hk7) rfl ?_
  change am_At _ _ _ 45 [_] [] _ _
  refine am_aload_n dX3_beUntold_45 rfl ?_
  refine am_bipush 9 (v := 9) dX3_beUntold_46 (by decide) ?_
  obtain ⟨M8, hk8, hyp⟩ := bd_some hyp
  try dsimp only at hyp
  refine am_callV [_] dX3_beUntold_48 ml_X3_31 vm_X3_add (sh_23 g) rfl (fun _ => Nat.le_of_ble_eq_true rfl) (by omega) rfl (ef_X3_add_24 (d := d + 0) (h := h) g hW hk8) rfl ?_
  change am_At _ _ _ 51 [_] [] _ _
  refine am_aload_n dX3_beUntold_51 rfl ?_
  refine am_bipush 11 (v := 11) dX3_beUntold_52 (by decide) ?_
  obtain ⟨M9, hk9, hyp⟩ := bd_some hyp
  try dsimp only at hyp
  refine am_callV [_] dX3_beUntold_54 ml_X3_31 vm_X3_add (sh_23 g) rfl (fun _ => Nat.le_of_ble_eq_true rfl) (by omega) rfl (ef_X3_add_24 (d := d + 0) (h := h) g hW hk9) rfl ?_
  change am_At _ _ _ 57 [_] [] _ _
  refine am_aload_n dX3_beUntold_57 rfl ?_
  obtain ⟨M10, hk10, hyp⟩ := bd_some hyp
  try dsimp only at hyp
  refine am_callV [] dX3_beUntold_58 ml_X3_35 vm_X3_adoptDraft (sh_23 g) rfl (fun _ => Nat.le_of_ble_eq_true rfl) (by omega) rfl (ef_X3_adoptDraft_24 (d := d + 0) (h := h) g hW hk10) rfl ?_
  change am_At _ _ _ 61 [_] [] _ _
  have g2 : lay (swW h 24 25) := lay.swW g
  have hW2 : (swW h 24 25).2.2 23 0 = some 25 ∧ (swW h 24 25).2.2 23 2 = some 24 := ⟨rfl, rfl⟩
  change am_At _ _ _ 61 [_] [] (am_hM (swW h 24 25) M10) _
  cases hyp
  exact am_vret dX3_beUntold_61 rfl
theorem ef_X3_beUntold_25 {d : Nat} {h : am_H} (g : lay h) (hW : h.2.2 23 0 = some 25 ∧ h.2.2 23 2 = some 24) {M : Mem} {M' : Mem} (hyp : f_X3_beUntold 25 24 M = some M') : am_Ev (d + 1) mX3_beUntold [.inr (23, 0)] (am_hM h M) (.inl (none, am_hM (swW h 25 24) M')) := by
  unfold f_X3_beUntold at hyp
  refine am_Ev.mk (by decide +kernel) rfl rfl (Nat.le_refl _) (Nat.le_refl _) ?_
  change am_At _ _ _ 0 [_] [] _ _
  refine am_aload_n dX3_beUntold_0 rfl ?_
  refine am_iconst 0 (v := 0) dX3_beUntold_1 (by decide) ?_
  refine am_putI 3 3 dX3_beUntold_2 (Or.inl fp_X3_27) (sh_23 g) (by decide) rfl rfl rfl ?_
  refine am_aload_n dX3_beUntold_5 rfl ?_
  refine am_bipush 16 (v := 16) dX3_beUntold_6 (by decide) ?_
  obtain ⟨M1, hk1, hyp⟩ := bd_some hyp
  try dsimp only at hyp
  refine am_callV [_] dX3_beUntold_8 ml_X3_31 vm_X3_add (sh_23 g) rfl (fun _ => Nat.le_of_ble_eq_true rfl) (by omega) rfl (ef_X3_add_25 (d := d + 0) (h := h) g hW hk1) rfl ?_
  change am_At _ _ _ 11 [_] [] _ _
  refine am_aload_n dX3_beUntold_11 rfl ?_
  refine am_iconst 0 (v := 0) dX3_beUntold_12 (by decide) ?_
  obtain ⟨M2, hk2, hyp⟩ := bd_some hyp
  try dsimp only at hyp
  refine am_callV [_] dX3_beUntold_13 ml_X3_31 vm_X3_add (sh_23 g) rfl (fun _ => Nat.le_of_ble_eq_true rfl) (by omega) rfl (ef_X3_add_25 (d := d + 0) (h := h) g hW hk2) rfl ?_
  change am_At _ _ _ 16 [_] [] _ _
  refine am_aload_n dX3_beUntold_16 rfl ?_
  refine am_bipush 27 (v := 27) dX3_beUntold_17 (by decide) ?_
  obtain ⟨M3, hk3, hyp⟩ := bd_some hyp
  try dsimp only at hyp
  refine am_callV [_] dX3_beUntold_19 ml_X3_31 vm_X3_add (sh_23 g) rfl (fun _ => Nat.le_of_ble_eq_true rfl) (by omega) rfl (ef_X3_add_25 (d := d + 0) (h := h) g hW hk3) rfl ?_
  change am_At _ _ _ 22 [_] [] _ _
  refine am_aload_n dX3_beUntold_22 rfl ?_
  refine am_bipush 11 (v := 11) dX3_beUntold_23 (by decide) ?_
  obtain ⟨M4, hk4, hyp⟩ := bd_some hyp
  try dsimp only at hyp
  refine am_callV [_] dX3_beUntold_25 ml_X3_31 vm_X3_add (sh_23 g) rfl (fun _ => Nat.le_of_ble_eq_true rfl) (by omega) rfl (ef_X3_add_25 (d := d + 0) (h := h) g hW hk4) rfl ?_
  change am_At _ _ _ 28 [_] [] _ _
  refine am_aload_n dX3_beUntold_28 rfl ?_
  refine am_bipush 27 (v := 27) dX3_beUntold_29 (by decide) ?_
  obtain ⟨M5, hk5, hyp⟩ := bd_some hyp
  try dsimp only at hyp
  refine am_callV [_] dX3_beUntold_31 ml_X3_31 vm_X3_add (sh_23 g) rfl (fun _ => Nat.le_of_ble_eq_true rfl) (by omega) rfl (ef_X3_add_25 (d := d + 0) (h := h) g hW hk5) rfl ?_
  change am_At _ _ _ 34 [_] [] _ _
  refine am_aload_n dX3_beUntold_34 rfl ?_
  refine am_iconst 0 (v := 0) dX3_beUntold_35 (by decide) ?_
  obtain ⟨M6, hk6, hyp⟩ := bd_some hyp
  try dsimp only at hyp
  refine am_callV [_] dX3_beUntold_36 ml_X3_31 vm_X3_add (sh_23 g) rfl (fun _ => Nat.le_of_ble_eq_true rfl) (by omega) rfl (ef_X3_add_25 (d := d + 0) (h := h) g hW hk6) rfl ?_
  change am_At _ _ _ 39 [_] [] _ _
  refine am_aload_n dX3_beUntold_39 rfl ?_
  refine am_bipush 11 (v := 11) dX3_beUntold_40 (by decide) ?_
  obtain ⟨M7, hk7, hyp⟩ := bd_some hyp
  try dsimp only at hyp
  refine am_callV [_] dX3_beUntold_42 ml_X3_31 vm_X3_add (sh_23 g) rfl (fun _ => Nat.le_of_ble_eq_true rfl) (by omega) rfl (ef_X3_add_25 (d := d + 0) (h := h) g hW hk7) rfl ?_
  change am_At _ _ _ 45 [_] [] _ _
  refine am_aload_n dX3_beUntold_45 rfl ?_
  refine am_bipush 9 (v := 9) dX3_beUntold_46 (by decide) ?_
  obtain ⟨M8, hk8, hyp⟩ := bd_some hyp
  try dsimp only at hyp
  refine am_callV [_] dX3_beUntold_48 ml_X3_31 vm_X3_add (sh_23 g) rfl (fun _ => Nat.le_of_ble_eq_true rfl) (by omega) rfl (ef_X3_add_25 (d := d + 0) (h := h) g hW hk8) rfl ?_
  change am_At _ _ _ 51 [_] [] _ _
  refine am_aload_n dX3_beUntold_51 rfl ?_
  refine am_bipush 11 (v := 11) dX3_beUntold_52 (by decide) ?_
  obtain ⟨M9, hk9, hyp⟩ := bd_some hyp
  try dsimp only at hyp
  refine am_callV [_] dX3_beUntold_54 ml_X3_31 vm_X3_add (sh_23 g) rfl (fun _ => Nat.le_of_ble_eq_true rfl) (by omega) rfl (ef_X3_add_25 (d := d + 0) (h := h) g hW hk9) rfl ?_
  change am_At _ _ _ 57 [_] [] _ _
  refine am_aload_n dX3_beUntold_57 rfl ?_
  obtain ⟨M10, hk10, hyp⟩ := bd_some hyp
  try dsimp only at hyp
  refine am_callV [] dX3_beUntold_58 ml_X3_35 vm_X3_adoptDraft (sh_23 g) rfl (fun _ => Nat.le_of_ble_eq_true rfl) (by omega) rfl (ef_X3_adoptDraft_25 (d := d + 0) (h := h) g hW hk10) rfl ?_
  change am_At _ _ _ 61 [_] [] _ _
  have g2 : lay (swW h 25 24) := lay.swW g
  have hW2 : (swW h 25 24).2.2 23 0 = some 24 ∧ (swW h 25 24).2.2 23 2 = some 25 := ⟨rfl, rfl⟩
  change am_At _ _ _ 61 [_] [] (am_hM (swW h 25 24) M10) _
  cases hyp
  exact am_vret dX3_beUntold_61 rfl
theorem ef_X3_read_24 {d : Nat} {h : am_H} (g : lay h) (hW : h.2.2 23 0 = some 24 ∧ h.2.2 23 2 = some 25) {M : Mem} {b : Bool} {M' : Mem} (hyp : f_X3_read 24 25 M = some (b, M')) : am_Ev (d + 36) mX3_read [.inr (23, 0), .inr (1, 0)] (am_hM h M) (.inl (none, am_hM (swb b (swW h 24 25) h) M')) := by
  unfold f_X3_read at hyp
  refine am_Ev.mk (by decide +kernel) rfl rfl (by cases b <;> exact Nat.le_refl _) (by cases b <;> exact Nat.le_refl _) ?_
  change am_At _ _ _ 0 [_, _] [] _ _
  refine am_aload_n dX3_read_0 rfl ?_
  refine am_iconst 0 (v := 0) dX3_read_1 (by decide) ?_
  refine am_putI 3 3 dX3_read_2 (Or.inl fp_X3_27) (sh_23 g) (by decide) rfl rfl rfl ?_
  refine am_aload_n dX3_read_5 rfl ?_
  refine am_aload_n dX3_read_6 rfl ?_
  refine am_iconst 0 (v := 0) dX3_read_7 (by decide) ?_
  obtain ⟨M1, hk1, hyp⟩ := bd_some hyp
  try dsimp only at hyp
  refine am_callV [_, _] dX3_read_8 ml_X3_38 vm_X3_readSum (sh_23 g) rfl (fun _ => Nat.le_of_ble_eq_true rfl) (by omega) rfl (ef_X3_readSum_24 (d := d + 0) (h := h) g hW hk1) rfl ?_
  change am_At _ _ _ 11 [_, _] [] _ _
  refine am_aload_n dX3_read_11 rfl ?_
  obtain ⟨M2, hk2, hyp⟩ := bd_some hyp
  try dsimp only at hyp
  refine am_callV [] dX3_read_12 ml_X3_42 vm_X10_expectEnd (sh_1 g) rfl (fun _ => Nat.le_of_ble_eq_true rfl) (by omega) rfl (ef_X10_expectEnd (d := d + 33) (h := h) g hk2) rfl ?_
  change am_At _ _ _ 15 [_, _] [] _ _
  refine am_aload_n dX3_read_15 rfl ?_
  refine am_callV [] dX3_read_16 ml_X3_47 vm_X10_isFaulty (sh_1 g) rfl (fun _ => Nat.le_of_ble_eq_true rfl) (by omega) rfl (ef_X10_isFaulty (d := d + 35) (h := h) g  (M := M2) rfl) rfl ?_
  change am_At _ _ _ 19 [_, _] [_] _ _
  refine am_if_ne (7) 26 dX3_read_19 rfl ?_ ?_
  · intro hc3n
    have hc3n : ¬ ((f_X10_isFaulty M2) = 0) := hc3n
    replace hyp := it_neg hc3n hyp
    cases hyp
    exact am_vret dX3_read_26 rfl
  · intro hc3
    have hc3 : (f_X10_isFaulty M2) = 0 := hc3
    replace hyp := it_pos hc3 hyp
    refine am_aload_n dX3_read_22 rfl ?_
    obtain ⟨M4, hk4, hyp⟩ := bd_some hyp
    try dsimp only at hyp
    refine am_callV [] dX3_read_23 ml_X3_35 vm_X3_adoptDraft (sh_23 g) rfl (fun _ => Nat.le_of_ble_eq_true rfl) (by omega) rfl (ef_X3_adoptDraft_24 (d := d + 35) (h := h) g hW hk4) rfl ?_
    change am_At _ _ _ 26 [_, _] [] _ _
    have g2 : lay (swW h 24 25) := lay.swW g
    have hW2 : (swW h 24 25).2.2 23 0 = some 25 ∧ (swW h 24 25).2.2 23 2 = some 24 := ⟨rfl, rfl⟩
    change am_At _ _ _ 26 [_, _] [] (am_hM (swW h 24 25) M4) _
    cases hyp
    exact am_vret dX3_read_26 rfl
theorem ef_X3_read_25 {d : Nat} {h : am_H} (g : lay h) (hW : h.2.2 23 0 = some 25 ∧ h.2.2 23 2 = some 24) {M : Mem} {b : Bool} {M' : Mem} (hyp : f_X3_read 25 24 M = some (b, M')) : am_Ev (d + 36) mX3_read [.inr (23, 0), .inr (1, 0)] (am_hM h M) (.inl (none, am_hM (swb b (swW h 25 24) h) M')) := by
  unfold f_X3_read at hyp
  refine am_Ev.mk (by decide +kernel) rfl rfl (by cases b <;> exact Nat.le_refl _) (by cases b <;> exact Nat.le_refl _) ?_
  change am_At _ _ _ 0 [_, _] [] _ _
  refine am_aload_n dX3_read_0 rfl ?_
  refine am_iconst 0 (v := 0) dX3_read_1 (by decide) ?_
  refine am_putI 3 3 dX3_read_2 (Or.inl fp_X3_27) (sh_23 g) (by decide) rfl rfl rfl ?_
  refine am_aload_n dX3_read_5 rfl ?_
  refine am_aload_n dX3_read_6 rfl ?_
  refine am_iconst 0 (v := 0) dX3_read_7 (by decide) ?_
  obtain ⟨M1, hk1, hyp⟩ := bd_some hyp
  try dsimp only at hyp
  refine am_callV [_, _] dX3_read_8 ml_X3_38 vm_X3_readSum (sh_23 g) rfl (fun _ => Nat.le_of_ble_eq_true rfl) (by omega) rfl (ef_X3_readSum_25 (d := d + 0) (h := h) g hW hk1) rfl ?_
  change am_At _ _ _ 11 [_, _] [] _ _
  refine am_aload_n dX3_read_11 rfl ?_
  obtain ⟨M2, hk2, hyp⟩ := bd_some hyp
  try dsimp only at hyp
  refine am_callV [] dX3_read_12 ml_X3_42 vm_X10_expectEnd (sh_1 g) rfl (fun _ => Nat.le_of_ble_eq_true rfl) (by omega) rfl (ef_X10_expectEnd (d := d + 33) (h := h) g hk2) rfl ?_
  change am_At _ _ _ 15 [_, _] [] _ _
  refine am_aload_n dX3_read_15 rfl ?_
  refine am_callV [] dX3_read_16 ml_X3_47 vm_X10_isFaulty (sh_1 g) rfl (fun _ => Nat.le_of_ble_eq_true rfl) (by omega) rfl (ef_X10_isFaulty (d := d + 35) (h := h) g  (M := M2) rfl) rfl ?_
  change am_At _ _ _ 19 [_, _] [_] _ _
  refine am_if_ne (7) 26 dX3_read_19 rfl ?_ ?_
  · intro hc3n
    have hc3n : ¬ ((f_X10_isFaulty M2) = 0) := hc3n
    replace hyp := it_neg hc3n hyp
    cases hyp
    exact am_vret dX3_read_26 rfl
  · intro hc3
    have hc3 : (f_X10_isFaulty M2) = 0 := hc3
    replace hyp := it_pos hc3 hyp
    refine am_aload_n dX3_read_22 rfl ?_
    obtain ⟨M4, hk4, hyp⟩ := bd_some hyp
    try dsimp only at hyp
    refine am_callV [] dX3_read_23 ml_X3_35 vm_X3_adoptDraft (sh_23 g) rfl (fun _ => Nat.le_of_ble_eq_true rfl) (by omega) rfl (ef_X3_adoptDraft_25 (d := d + 35) (h := h) g hW hk4) rfl ?_
    change am_At _ _ _ 26 [_, _] [] _ _
    have g2 : lay (swW h 25 24) := lay.swW g
    have hW2 : (swW h 25 24).2.2 23 0 = some 24 ∧ (swW h 25 24).2.2 23 2 = some 25 := ⟨rfl, rfl⟩
    change am_At _ _ _ 26 [_, _] [] (am_hM (swW h 25 24) M4) _
    cases hyp
    exact am_vret dX3_read_26 rfl
theorem eL_X5_readBook_10_46 {d : Nat} {h : am_H} (g : lay h) (hN : h.2.2 45 1 = some 46 ∧ h.2.2 45 2 = some 47) {r : am_R} (n : Nat) : ∀ (s : Int32 × Mem) (e : Int32 × Mem), wh (L_X5_readBook_10 46 47) n s = some e → (match e with | (x2, M) => am_At am_X0 (d + 3) mX5_readBook 42 [some (.inr (45, 0)), some (.inr (1, 0)), some (am_I (x2)), none] [] (am_hM h M) r) → (match s with | (x2, M) => am_At am_X0 (d + 3) mX5_readBook 10 [some (.inr (45, 0)), some (.inr (1, 0)), some (am_I (x2)), none] [] (am_hM h M) r) := by
  refine am_wh (At := fun (s : Int32 × Mem) => match s with | (x2, M) => am_At am_X0 (d + 3) mX5_readBook 10 [some (.inr (45, 0)), some (.inr (1, 0)), some (am_I (x2)), none] [] (am_hM h M) r) (Ex := fun (e : Int32 × Mem) => match e with | (x2, M) => am_At am_X0 (d + 3) mX5_readBook 42 [some (.inr (45, 0)), some (.inr (1, 0)), some (am_I (x2)), none] [] (am_hM h M) r) ?_ n
  rintro ⟨x2, M⟩ y hyp hx
  unfold L_X5_readBook_10 at hyp
  try dsimp only at hyp
  change am_At _ _ _ 10 [_, _, _, _] [] _ _
  refine am_iload_n dX5_readBook_10 rfl ?_
  refine am_bipush 12 (v := 12) dX5_readBook_11 (by decide) ?_
  refine am_icmp_gt (29) 42 dX5_readBook_13 rfl ?_ ?_
  · intro hc1
    have hc1 : (12 : Int32) < x2 := hc1
    replace hyp := it_pos hc1 hyp
    cases hyp
    exact hx
  · intro hc1n
    have hc1n : ¬ ((12 : Int32) < x2) := hc1n
    replace hyp := it_neg hc1n hyp
    refine am_aload_n dX5_readBook_16 rfl ?_
    refine am_callV [] dX5_readBook_17 ml_X5_44 vm_X10_isFaulty (sh_1 g) rfl (fun _ => Nat.le_of_ble_eq_true rfl) (by omega) rfl (ef_X10_isFaulty (d := d + 2) (h := h) g  (M := M) rfl) rfl ?_
    change am_At _ _ _ 20 [_, _, _, _] [_] _ _
    refine am_if_ne (22) 42 dX5_readBook_20 rfl ?_ ?_
    · intro hc2n
      have hc2n : ¬ ((f_X10_isFaulty M) = 0) := hc2n
      replace hyp := it_neg hc2n hyp
      cases hyp
      exact hx
    · intro hc2
      have hc2 : (f_X10_isFaulty M) = 0 := hc2
      replace hyp := it_pos hc2 hyp
      refine am_aload_n dX5_readBook_23 rfl ?_
      obtain ⟨⟨v3, M3⟩, hk3, hyp⟩ := bd_some hyp
      try dsimp only at hyp
      refine am_callV [] dX5_readBook_24 ml_X5_50 vm_X10_isAtEnd (sh_1 g) rfl (fun _ => Nat.le_of_ble_eq_true rfl) (by omega) rfl (ef_X10_isAtEnd (d := d + 1) (h := h) g hk3) rfl ?_
      change am_At _ _ _ 27 [_, _, _, _] [_] _ _
      refine am_if_ne (15) 42 dX5_readBook_27 rfl ?_ ?_
      · intro hc4n
        have hc4n : ¬ (v3 = 0) := hc4n
        replace hyp := it_neg hc4n hyp
        cases hyp
        exact hx
      · intro hc4
        have hc4 : v3 = 0 := hc4
        replace hyp := it_pos hc4 hyp
        refine am_aload_n dX5_readBook_30 rfl ?_
        refine am_aload_n dX5_readBook_31 rfl ?_
        refine am_iload_n dX5_readBook_32 rfl ?_
        obtain ⟨M5, hk5, hyp⟩ := bd_some hyp
        try dsimp only at hyp
        refine am_callV [_, _] dX5_readBook_33 ml_X5_53 vm_X5_readLine (sh_45 g) rfl (fun _ => Nat.le_of_ble_eq_true rfl) (by omega) rfl (ef_X5_readLine_46 (d := d + 0) (h := h) g hN hk5) rfl ?_
        change am_At _ _ _ 36 [_, _, _, _] [] _ _
        refine am_iinc dX5_readBook_36 rfl (am_ix _) ?_
        change am_At _ _ _ 39 [_, _, _, _] [] _ _
        refine am_goto (-29) 10 dX5_readBook_39 rfl ?_
        cases hyp
        exact hx
theorem ef_X5_readBook_46 {d : Nat} {h : am_H} (g : lay h) (hN : h.2.2 45 1 = some 46 ∧ h.2.2 45 2 = some 47) {M : Mem} {b : Bool} {M' : Mem} (hyp : f_X5_readBook 46 47 M = some (b, M')) : am_Ev (d + 3) mX5_readBook [.inr (45, 0), .inr (1, 0)] (am_hM h M) (.inl (none, am_hM (swb b (swN h 46 47) h) M')) := by
  unfold f_X5_readBook at hyp
  refine am_Ev.mk (by decide +kernel) rfl rfl (by cases b <;> exact Nat.le_refl _) (by cases b <;> exact Nat.le_refl _) ?_
  change am_At _ _ _ 0 [_, _, _, _] [] _ _
  refine am_aload_n dX5_readBook_0 rfl ?_
  refine am_getR 5 2 47 dX5_readBook_1 fg_X5_15 (sh_45 g) (by decide) rfl hN.2 ?_
  refine am_iconst (-1) (v := (-1)) dX5_readBook_4 (by decide) ?_
  refine am_callS (c := 0) (k := 0) (n := 0) (w := 0) [_, _] dX5_readBook_5 ml_X5_34 sm_J7_fill_53178 rfl (fun _ => Nat.le_of_ble_eq_true rfl) (by omega) rfl (ev_fill (d := d + 2) (h := am_hM h M) (v := (-1 : Int32)) (sh_47 g) (by decide)) rfl ?_
  change am_At _ _ _ 8 [_, _, _, _] [] _ _
  refine am_iconst 0 (v := 0) dX5_readBook_8 (by decide) ?_
  refine am_istore_n dX5_readBook_9 (am_lb rfl) ?_
  change am_At _ _ _ 10 [_, _, _, _] [] _ _
  obtain ⟨⟨x2_6, M6⟩, hw6, hyp⟩ := bd_some hyp
  try dsimp only at hyp
  refine eL_X5_readBook_10_46 (d := d) (h := h) g hN  FU ((0 : Int32), (fillM M 47 16 (-1 : Int32))) (x2_6, M6) hw6 ?_
  change am_At _ _ _ 42 [_, _, _, _] [] _ _
  refine am_aload_n dX5_readBook_42 rfl ?_
  refine am_callV [] dX5_readBook_43 ml_X5_44 vm_X10_isFaulty (sh_1 g) rfl (fun _ => Nat.le_of_ble_eq_true rfl) (by omega) rfl (ef_X10_isFaulty (d := d + 2) (h := h) g  (M := M6) rfl) rfl ?_
  change am_At _ _ _ 46 [_, _, _, _] [_] _ _
  refine am_if_ne (26) 72 dX5_readBook_46 rfl ?_ ?_
  · intro hc7n
    have hc7n : ¬ ((f_X10_isFaulty M6) = 0) := hc7n
    replace hyp := it_neg hc7n hyp
    cases hyp
    exact am_vret dX5_readBook_72 rfl
  · intro hc7
    have hc7 : (f_X10_isFaulty M6) = 0 := hc7
    replace hyp := it_pos hc7 hyp
    refine am_aload_n dX5_readBook_49 rfl ?_
    refine am_getR 5 1 46 dX5_readBook_50 fg_X5_9 (sh_45 g) (by decide) rfl hN.1 ?_
    refine am_astore_n dX5_readBook_53 (am_lb rfl) ?_
    change am_At _ _ _ 54 [_, _, _, _] [] _ _
    refine am_aload_n dX5_readBook_54 rfl ?_
    refine am_aload_n dX5_readBook_55 rfl ?_
    refine am_getR 5 2 47 dX5_readBook_56 fg_X5_15 (sh_45 g) (by decide) rfl hN.2 ?_
    refine am_putR 5 1 (t := 47) dX5_readBook_59 (Or.inl fp_X5_9) (sh_45 g) (by decide) rfl (fun _ => rfl) (fun _ => rfl) ?_
    refine am_aload_n dX5_readBook_62 rfl ?_
    refine am_aload_n dX5_readBook_63 rfl ?_
    refine am_putR 5 2 (t := 46) dX5_readBook_64 (Or.inl fp_X5_15) (sh_45 (h := h) g) (by decide) rfl (fun _ => rfl) (fun _ => rfl) ?_
    have g2 : lay (swN h 46 47) := lay.swN g
    have hN2 : (swN h 46 47).2.2 45 1 = some 47 ∧ (swN h 46 47).2.2 45 2 = some 46 := ⟨rfl, rfl⟩
    change am_At _ _ _ 67 [_, _, _, _] [] (am_hM (swN h 46 47) M6) _
    refine am_aload_n dX5_readBook_67 rfl ?_
    refine am_iload_n dX5_readBook_68 rfl ?_
    refine am_putI 5 3 dX5_readBook_69 (Or.inl fp_X5_40) (sh_45 g2) (by decide) rfl rfl rfl ?_
    cases hyp
    exact am_vret dX5_readBook_72 rfl
theorem eL_X5_readBook_10_47 {d : Nat} {h : am_H} (g : lay h) (hN : h.2.2 45 1 = some 47 ∧ h.2.2 45 2 = some 46) {r : am_R} (n : Nat) : ∀ (s : Int32 × Mem) (e : Int32 × Mem), wh (L_X5_readBook_10 47 46) n s = some e → (match e with | (x2, M) => am_At am_X0 (d + 3) mX5_readBook 42 [some (.inr (45, 0)), some (.inr (1, 0)), some (am_I (x2)), none] [] (am_hM h M) r) → (match s with | (x2, M) => am_At am_X0 (d + 3) mX5_readBook 10 [some (.inr (45, 0)), some (.inr (1, 0)), some (am_I (x2)), none] [] (am_hM h M) r) := by
  refine am_wh (At := fun (s : Int32 × Mem) => match s with | (x2, M) => am_At am_X0 (d + 3) mX5_readBook 10 [some (.inr (45, 0)), some (.inr (1, 0)), some (am_I (x2)), none] [] (am_hM h M) r) (Ex := fun (e : Int32 × Mem) => match e with | (x2, M) => am_At am_X0 (d + 3) mX5_readBook 42 [some (.inr (45, 0)), some (.inr (1, 0)), some (am_I (x2)), none] [] (am_hM h M) r) ?_ n
  rintro ⟨x2, M⟩ y hyp hx
  unfold L_X5_readBook_10 at hyp
  try dsimp only at hyp
  change am_At _ _ _ 10 [_, _, _, _] [] _ _
  refine am_iload_n dX5_readBook_10 rfl ?_
  refine am_bipush 12 (v := 12) dX5_readBook_11 (by decide) ?_
  refine am_icmp_gt (29) 42 dX5_readBook_13 rfl ?_ ?_
  · intro hc1
    have hc1 : (12 : Int32) < x2 := hc1
    replace hyp := it_pos hc1 hyp
    cases hyp
    exact hx
  · intro hc1n
    have hc1n : ¬ ((12 : Int32) < x2) := hc1n
    replace hyp := it_neg hc1n hyp
    refine am_aload_n dX5_readBook_16 rfl ?_
    refine am_callV [] dX5_readBook_17 ml_X5_44 vm_X10_isFaulty (sh_1 g) rfl (fun _ => Nat.le_of_ble_eq_true rfl) (by omega) rfl (ef_X10_isFaulty (d := d + 2) (h := h) g  (M := M) rfl) rfl ?_
    change am_At _ _ _ 20 [_, _, _, _] [_] _ _
    refine am_if_ne (22) 42 dX5_readBook_20 rfl ?_ ?_
    · intro hc2n
      have hc2n : ¬ ((f_X10_isFaulty M) = 0) := hc2n
      replace hyp := it_neg hc2n hyp
      cases hyp
      exact hx
    · intro hc2
      have hc2 : (f_X10_isFaulty M) = 0 := hc2
      replace hyp := it_pos hc2 hyp
      refine am_aload_n dX5_readBook_23 rfl ?_
      obtain ⟨⟨v3, M3⟩, hk3, hyp⟩ := bd_some hyp
      try dsimp only at hyp
      refine am_callV [] dX5_readBook_24 ml_X5_50 vm_X10_isAtEnd (sh_1 g) rfl (fun _ => Nat.le_of_ble_eq_true rfl) (by omega) rfl (ef_X10_isAtEnd (d := d + 1) (h := h) g hk3) rfl ?_
      change am_At _ _ _ 27 [_, _, _, _] [_] _ _
      refine am_if_ne (15) 42 dX5_readBook_27 rfl ?_ ?_
      · intro hc4n
        have hc4n : ¬ (v3 = 0) := hc4n
        replace hyp := it_neg hc4n hyp
        cases hyp
        exact hx
      · intro hc4
        have hc4 : v3 = 0 := hc4
        replace hyp := it_pos hc4 hyp
        refine am_aload_n dX5_readBook_30 rfl ?_
        refine am_aload_n dX5_readBook_31 rfl ?_
        refine am_iload_n dX5_readBook_32 rfl ?_
        obtain ⟨M5, hk5, hyp⟩ := bd_some hyp
        try dsimp only at hyp
        refine am_callV [_, _] dX5_readBook_33 ml_X5_53 vm_X5_readLine (sh_45 g) rfl (fun _ => Nat.le_of_ble_eq_true rfl) (by omega) rfl (ef_X5_readLine_47 (d := d + 0) (h := h) g hN hk5) rfl ?_
        change am_At _ _ _ 36 [_, _, _, _] [] _ _
        refine am_iinc dX5_readBook_36 rfl (am_ix _) ?_
        change am_At _ _ _ 39 [_, _, _, _] [] _ _
        refine am_goto (-29) 10 dX5_readBook_39 rfl ?_
        cases hyp
        exact hx
theorem ef_X5_readBook_47 {d : Nat} {h : am_H} (g : lay h) (hN : h.2.2 45 1 = some 47 ∧ h.2.2 45 2 = some 46) {M : Mem} {b : Bool} {M' : Mem} (hyp : f_X5_readBook 47 46 M = some (b, M')) : am_Ev (d + 3) mX5_readBook [.inr (45, 0), .inr (1, 0)] (am_hM h M) (.inl (none, am_hM (swb b (swN h 47 46) h) M')) := by
  unfold f_X5_readBook at hyp
  refine am_Ev.mk (by decide +kernel) rfl rfl (by cases b <;> exact Nat.le_refl _) (by cases b <;> exact Nat.le_refl _) ?_
  change am_At _ _ _ 0 [_, _, _, _] [] _ _
  refine am_aload_n dX5_readBook_0 rfl ?_
  refine am_getR 5 2 46 dX5_readBook_1 fg_X5_15 (sh_45 g) (by decide) rfl hN.2 ?_
  refine am_iconst (-1) (v := (-1)) dX5_readBook_4 (by decide) ?_
  refine am_callS (c := 0) (k := 0) (n := 0) (w := 0) [_, _] dX5_readBook_5 ml_X5_34 sm_J7_fill_53178 rfl (fun _ => Nat.le_of_ble_eq_true rfl) (by omega) rfl (ev_fill (d := d + 2) (h := am_hM h M) (v := (-1 : Int32)) (sh_46 g) (by decide)) rfl ?_
  change am_At _ _ _ 8 [_, _, _, _] [] _ _
  refine am_iconst 0 (v := 0) dX5_readBook_8 (by decide) ?_
  refine am_istore_n dX5_readBook_9 (am_lb rfl) ?_
  change am_At _ _ _ 10 [_, _, _, _] [] _ _
  obtain ⟨⟨x2_6, M6⟩, hw6, hyp⟩ := bd_some hyp
  try dsimp only at hyp
  refine eL_X5_readBook_10_47 (d := d) (h := h) g hN  FU ((0 : Int32), (fillM M 46 16 (-1 : Int32))) (x2_6, M6) hw6 ?_
  change am_At _ _ _ 42 [_, _, _, _] [] _ _
  refine am_aload_n dX5_readBook_42 rfl ?_
  refine am_callV [] dX5_readBook_43 ml_X5_44 vm_X10_isFaulty (sh_1 g) rfl (fun _ => Nat.le_of_ble_eq_true rfl) (by omega) rfl (ef_X10_isFaulty (d := d + 2) (h := h) g  (M := M6) rfl) rfl ?_
  change am_At _ _ _ 46 [_, _, _, _] [_] _ _
  refine am_if_ne (26) 72 dX5_readBook_46 rfl ?_ ?_
  · intro hc7n
    have hc7n : ¬ ((f_X10_isFaulty M6) = 0) := hc7n
    replace hyp := it_neg hc7n hyp
    cases hyp
    exact am_vret dX5_readBook_72 rfl
  · intro hc7
    have hc7 : (f_X10_isFaulty M6) = 0 := hc7
    replace hyp := it_pos hc7 hyp
    refine am_aload_n dX5_readBook_49 rfl ?_
    refine am_getR 5 1 47 dX5_readBook_50 fg_X5_9 (sh_45 g) (by decide) rfl hN.1 ?_
    refine am_astore_n dX5_readBook_53 (am_lb rfl) ?_
    change am_At _ _ _ 54 [_, _, _, _] [] _ _
    refine am_aload_n dX5_readBook_54 rfl ?_
    refine am_aload_n dX5_readBook_55 rfl ?_
    refine am_getR 5 2 46 dX5_readBook_56 fg_X5_15 (sh_45 g) (by decide) rfl hN.2 ?_
    refine am_putR 5 1 (t := 46) dX5_readBook_59 (Or.inl fp_X5_9) (sh_45 g) (by decide) rfl (fun _ => rfl) (fun _ => rfl) ?_
    refine am_aload_n dX5_readBook_62 rfl ?_
    refine am_aload_n dX5_readBook_63 rfl ?_
    refine am_putR 5 2 (t := 47) dX5_readBook_64 (Or.inl fp_X5_15) (sh_45 (h := h) g) (by decide) rfl (fun _ => rfl) (fun _ => rfl) ?_
    have g2 : lay (swN h 47 46) := lay.swN g
    have hN2 : (swN h 47 46).2.2 45 1 = some 46 ∧ (swN h 47 46).2.2 45 2 = some 47 := ⟨rfl, rfl⟩
    change am_At _ _ _ 67 [_, _, _, _] [] (am_hM (swN h 47 46) M6) _
    refine am_aload_n dX5_readBook_67 rfl ?_
    refine am_iload_n dX5_readBook_68 rfl ?_
    refine am_putI 5 3 dX5_readBook_69 (Or.inl fp_X5_40) (sh_45 g2) (by decide) rfl rfl rfl ?_
    cases hyp
    exact am_vret dX5_readBook_72 rfl
theorem ef_X11_river_24_46 {d : Nat} {h : am_H} (g : lay h) (hW : h.2.2 23 0 = some 24 ∧ h.2.2 23 2 = some 25) (hN : h.2.2 45 1 = some 46 ∧ h.2.2 45 2 = some 47) {x1 : Int32} {M : Mem} {y : (Int32 ⊕ String) × Bool × Mem} (hyp : f_X11_river 24 25 46 47 x1 M = some y) : am_Ev (d + 7) mX11_river [.inr (0, 0), am_I x1] (am_hM h M) (am_o1w (fun b => swb b (swW h 24 25) h) y) := by
  unfold f_X11_river at hyp
  refine am_Ev.mk (by decide +kernel) rfl rfl (am_oc1w (fun b => by cases b <;> rfl) y) (am_os1w (fun b => by cases b <;> rfl) y) ?_
  change am_At _ _ _ 0 [_, _] [] _ _
  refine am_aload_n dX11_river_0 rfl ?_
  refine am_iload_n dX11_river_1 rfl ?_
  refine am_sipush 600 (v := 600) dX11_river_2 (by decide) ?_
  obtain ⟨⟨y1, M1⟩, hk1, hyp⟩ := bd_some hyp
  rcases y1 with v1 | E1
  rotate_left
  · try dsimp only at hyp
    cases hyp
    exact am_callVX [_, _] dX11_river_5 ml_X11_107 vm_X11_takeText (sh_0 g) rfl (fun _ => Nat.le_of_ble_eq_true rfl) (by omega) rfl (am_o0t (ef_X11_takeText (d := d + 5) (h := h) g hk1)) rfl
  try dsimp only at hyp
  refine am_callV [_, _] dX11_river_5 ml_X11_107 vm_X11_takeText (sh_0 g) rfl (fun _ => Nat.le_of_ble_eq_true rfl) (by omega) rfl (am_o0v (ef_X11_takeText (d := d + 5) (h := h) g hk1)) rfl ?_
  change am_At _ _ _ 8 [_, _] [] _ _
  refine am_aload_n dX11_river_8 rfl ?_
  refine am_getR 11 2 13 dX11_river_9 fg_X11_23 (sh_0 g) (by decide) rfl (rf_0_2 g) ?_
  refine am_aload_n dX11_river_12 rfl ?_
  refine am_getR 11 0 1 dX11_river_13 fg_X11_10 (sh_0 g) (by decide) rfl (rf_0_0 g) ?_
  obtain ⟨M2, hk2, hyp⟩ := bd_some hyp
  try dsimp only at hyp
  refine am_callV [_] dX11_river_16 ml_X11_111 vm_X1_read (sh_13 g) rfl (fun _ => Nat.le_of_ble_eq_true rfl) (by omega) rfl (ef_X1_read (d := d + 0) (h := h) g hk2) rfl ?_
  change am_At _ _ _ 19 [_, _] [] _ _
  refine am_aload_n dX11_river_19 rfl ?_
  refine am_getR 11 0 1 dX11_river_20 fg_X11_10 (sh_0 g) (by decide) rfl (rf_0_0 g) ?_
  refine am_callV [] dX11_river_23 ml_X11_115 vm_X10_isFaulty (sh_1 g) rfl (fun _ => Nat.le_of_ble_eq_true rfl) (by omega) rfl (ef_X10_isFaulty (d := d + 6) (h := h) g  (M := M2) rfl) rfl ?_
  change am_At _ _ _ 26 [_, _] [_] _ _
  refine am_if_eq (11) 37 dX11_river_26 rfl ?_ ?_
  · intro hc3
    have hc3 : (f_X10_isFaulty M2) = 0 := hc3
    replace hyp := it_pos hc3 hyp
    refine am_aload_n dX11_river_37 rfl ?_
    refine am_getR 11 1 3 dX11_river_38 fg_X11_19 (sh_0 g) (by decide) rfl (rf_0_1 g) ?_
    refine am_aload_n dX11_river_41 rfl ?_
    refine am_getR 11 2 13 dX11_river_42 fg_X11_23 (sh_0 g) (by decide) rfl (rf_0_2 g) ?_
    refine am_callV [_] dX11_river_45 ml_X11_122 vm_X1_copyFrom (sh_3 g) rfl (fun _ => Nat.le_of_ble_eq_true rfl) (by omega) rfl (ef_X1_copyFrom (d := d + 6) (h := h) g  (M := M2) rfl) rfl ?_
    change am_At _ _ _ 48 [_, _] [] _ _
    refine am_aload_n dX11_river_48 rfl ?_
    refine am_getR 11 3 23 dX11_river_49 fg_X11_29 (sh_0 g) (by decide) rfl (rf_0_3 g) ?_
    obtain ⟨M4, hk4, hyp⟩ := bd_some hyp
    try dsimp only at hyp
    refine am_callV [] dX11_river_52 ml_X11_125 vm_X3_beUntold (sh_23 g) rfl (fun _ => Nat.le_of_ble_eq_true rfl) (by omega) rfl (ef_X3_beUntold_24 (d := d + 5) (h := h) g hW hk4) rfl ?_
    change am_At _ _ _ 55 [_, _] [] _ _
    have g2 : lay (swW h 24 25) := lay.swW g
    have hW2 : (swW h 24 25).2.2 23 0 = some 25 ∧ (swW h 24 25).2.2 23 2 = some 24 := ⟨rfl, rfl⟩
    have hN2 : (swW h 24 25).2.2 45 1 = some 46 ∧ (swW h 24 25).2.2 45 2 = some 47 := hN
    change am_At _ _ _ 55 [_, _] [] (am_hM (swW h 24 25) M4) _
    refine am_aload_n dX11_river_55 rfl ?_
    refine am_getR 11 10 45 dX11_river_56 fg_X11_84 (sh_0 g2) (by decide) rfl (rf_0_10 g2) ?_
    refine am_callV [] dX11_river_59 ml_X11_128 vm_X5_clearBook (sh_45 g2) rfl (fun _ => Nat.le_of_ble_eq_true rfl) (by omega) rfl (ef_X5_clearBook_46 (d := d + 5) (h := (swW h 24 25)) g2 hN2  (M := M4) rfl) rfl ?_
    change am_At _ _ _ 62 [_, _] [] _ _
    refine am_aload_n dX11_river_62 rfl ?_
    refine am_getR 11 5 29 dX11_river_63 fg_X11_45 (sh_0 g2) (by decide) rfl (rf_0_5 g2) ?_
    refine am_callV [] dX11_river_66 ml_X11_131 vm_X8_clear (sh_29 g2) rfl (fun _ => Nat.le_of_ble_eq_true rfl) (by omega) rfl (ef_X8_clear_30 (d := d + 5) (h := (swW h 24 25)) g2  (M := (am_u3 (fillM M4 46 16 (-1 : Int32)) 45 0 3 (0 : Int32))) rfl) rfl ?_
    change am_At _ _ _ 69 [_, _] [] _ _
    refine am_aload_n dX11_river_69 rfl ?_
    refine am_getR 11 6 31 dX11_river_70 fg_X11_52 (sh_0 g2) (by decide) rfl (rf_0_6 g2) ?_
    refine am_callV [] dX11_river_73 ml_X11_134 vm_X7_clear (sh_31 g2) rfl (fun _ => Nat.le_of_ble_eq_true rfl) (by omega) rfl (ef_X7_clear (d := d + 6) (h := (swW h 24 25)) g2  (M := (fillM (am_u3 (fillM M4 46 16 (-1 : Int32)) 45 0 3 (0 : Int32)) 30 47 (0 : Int32))) rfl) rfl ?_
    change am_At _ _ _ 76 [_, _] [] _ _
    refine am_aload_n dX11_river_76 rfl ?_
    refine am_iconst 0 (v := 0) dX11_river_77 (by decide) ?_
    refine am_putI 11 12 dX11_river_78 (Or.inl fp_X11_135) (sh_0 g2) (by decide) rfl rfl rfl ?_
    refine am_aload_n dX11_river_81 rfl ?_
    refine am_getR 11 8 38 dX11_river_82 fg_X11_68 (sh_0 g2) (by decide) rfl (rf_0_8 g2) ?_
    refine am_callV [] dX11_river_85 ml_X11_139 vm_X6_forget (sh_38 g2) rfl (fun _ => Nat.le_of_ble_eq_true rfl) (by omega) rfl (ef_X6_forget (d := d + 6) (h := (swW h 24 25)) g2  (M := (am_u3 (am_u3 (am_u3 (fillM (am_u3 (fillM M4 46 16 (-1 : Int32)) 45 0 3 (0 : Int32)) 30 47 (0 : Int32)) 31 0 1 (0 : Int32)) 31 0 3 (0 : Int32)) 0 0 12 (0 : Int32))) rfl) rfl ?_
    change am_At _ _ _ 88 [_, _] [] _ _
    refine am_aload_n dX11_river_88 rfl ?_
    refine am_getR 11 1 3 dX11_river_89 fg_X11_19 (sh_0 g2) (by decide) rfl (rf_0_1 g2) ?_
    refine am_getI 1 0 dX11_river_92 fg_X11_142 (sh_3 g2) (by decide) rfl ?_
    cases hyp
    exact am_iret dX11_river_95 rfl
  · intro hc3n
    have hc3n : ¬ ((f_X10_isFaulty M2) = 0) := hc3n
    replace hyp := it_neg hc3n hyp
    refine am_aload_n dX11_river_29 rfl ?_
    refine am_getR 11 0 1 dX11_river_30 fg_X11_10 (sh_0 g) (by decide) rfl (rf_0_0 g) ?_
    refine am_callV [] dX11_river_33 ml_X11_119 vm_X10_faultAnswer (sh_1 g) rfl (fun _ => Nat.le_of_ble_eq_true rfl) (by omega) rfl (ef_X10_faultAnswer (d := d + 6) (h := h) g  (M := M2) rfl) rfl ?_
    change am_At _ _ _ 36 [_, _] [_] _ _
    cases hyp
    exact am_iret dX11_river_36 rfl
theorem ef_X11_river_24_47 {d : Nat} {h : am_H} (g : lay h) (hW : h.2.2 23 0 = some 24 ∧ h.2.2 23 2 = some 25) (hN : h.2.2 45 1 = some 47 ∧ h.2.2 45 2 = some 46) {x1 : Int32} {M : Mem} {y : (Int32 ⊕ String) × Bool × Mem} (hyp : f_X11_river 24 25 47 46 x1 M = some y) : am_Ev (d + 7) mX11_river [.inr (0, 0), am_I x1] (am_hM h M) (am_o1w (fun b => swb b (swW h 24 25) h) y) := by
  unfold f_X11_river at hyp
  refine am_Ev.mk (by decide +kernel) rfl rfl (am_oc1w (fun b => by cases b <;> rfl) y) (am_os1w (fun b => by cases b <;> rfl) y) ?_
  change am_At _ _ _ 0 [_, _] [] _ _
  refine am_aload_n dX11_river_0 rfl ?_
  refine am_iload_n dX11_river_1 rfl ?_
  refine am_sipush 600 (v := 600) dX11_river_2 (by decide) ?_
  obtain ⟨⟨y1, M1⟩, hk1, hyp⟩ := bd_some hyp
  rcases y1 with v1 | E1
  rotate_left
  · try dsimp only at hyp
    cases hyp
    exact am_callVX [_, _] dX11_river_5 ml_X11_107 vm_X11_takeText (sh_0 g) rfl (fun _ => Nat.le_of_ble_eq_true rfl) (by omega) rfl (am_o0t (ef_X11_takeText (d := d + 5) (h := h) g hk1)) rfl
  try dsimp only at hyp
  refine am_callV [_, _] dX11_river_5 ml_X11_107 vm_X11_takeText (sh_0 g) rfl (fun _ => Nat.le_of_ble_eq_true rfl) (by omega) rfl (am_o0v (ef_X11_takeText (d := d + 5) (h := h) g hk1)) rfl ?_
  change am_At _ _ _ 8 [_, _] [] _ _
  refine am_aload_n dX11_river_8 rfl ?_
  refine am_getR 11 2 13 dX11_river_9 fg_X11_23 (sh_0 g) (by decide) rfl (rf_0_2 g) ?_
  refine am_aload_n dX11_river_12 rfl ?_
  refine am_getR 11 0 1 dX11_river_13 fg_X11_10 (sh_0 g) (by decide) rfl (rf_0_0 g) ?_
  obtain ⟨M2, hk2, hyp⟩ := bd_some hyp
  try dsimp only at hyp
  refine am_callV [_] dX11_river_16 ml_X11_111 vm_X1_read (sh_13 g) rfl (fun _ => Nat.le_of_ble_eq_true rfl) (by omega) rfl (ef_X1_read (d := d + 0) (h := h) g hk2) rfl ?_
  change am_At _ _ _ 19 [_, _] [] _ _
  refine am_aload_n dX11_river_19 rfl ?_
  refine am_getR 11 0 1 dX11_river_20 fg_X11_10 (sh_0 g) (by decide) rfl (rf_0_0 g) ?_
  refine am_callV [] dX11_river_23 ml_X11_115 vm_X10_isFaulty (sh_1 g) rfl (fun _ => Nat.le_of_ble_eq_true rfl) (by omega) rfl (ef_X10_isFaulty (d := d + 6) (h := h) g  (M := M2) rfl) rfl ?_
  change am_At _ _ _ 26 [_, _] [_] _ _
  refine am_if_eq (11) 37 dX11_river_26 rfl ?_ ?_
  · intro hc3
    have hc3 : (f_X10_isFaulty M2) = 0 := hc3
    replace hyp := it_pos hc3 hyp
    refine am_aload_n dX11_river_37 rfl ?_
    refine am_getR 11 1 3 dX11_river_38 fg_X11_19 (sh_0 g) (by decide) rfl (rf_0_1 g) ?_
    refine am_aload_n dX11_river_41 rfl ?_
    refine am_getR 11 2 13 dX11_river_42 fg_X11_23 (sh_0 g) (by decide) rfl (rf_0_2 g) ?_
    refine am_callV [_] dX11_river_45 ml_X11_122 vm_X1_copyFrom (sh_3 g) rfl (fun _ => Nat.le_of_ble_eq_true rfl) (by omega) rfl (ef_X1_copyFrom (d := d + 6) (h := h) g  (M := M2) rfl) rfl ?_
    change am_At _ _ _ 48 [_, _] [] _ _
    refine am_aload_n dX11_river_48 rfl ?_
    refine am_getR 11 3 23 dX11_river_49 fg_X11_29 (sh_0 g) (by decide) rfl (rf_0_3 g) ?_
    obtain ⟨M4, hk4, hyp⟩ := bd_some hyp
    try dsimp only at hyp
    refine am_callV [] dX11_river_52 ml_X11_125 vm_X3_beUntold (sh_23 g) rfl (fun _ => Nat.le_of_ble_eq_true rfl) (by omega) rfl (ef_X3_beUntold_24 (d := d + 5) (h := h) g hW hk4) rfl ?_
    change am_At _ _ _ 55 [_, _] [] _ _
    have g2 : lay (swW h 24 25) := lay.swW g
    have hW2 : (swW h 24 25).2.2 23 0 = some 25 ∧ (swW h 24 25).2.2 23 2 = some 24 := ⟨rfl, rfl⟩
    have hN2 : (swW h 24 25).2.2 45 1 = some 47 ∧ (swW h 24 25).2.2 45 2 = some 46 := hN
    change am_At _ _ _ 55 [_, _] [] (am_hM (swW h 24 25) M4) _
    refine am_aload_n dX11_river_55 rfl ?_
    refine am_getR 11 10 45 dX11_river_56 fg_X11_84 (sh_0 g2) (by decide) rfl (rf_0_10 g2) ?_
    refine am_callV [] dX11_river_59 ml_X11_128 vm_X5_clearBook (sh_45 g2) rfl (fun _ => Nat.le_of_ble_eq_true rfl) (by omega) rfl (ef_X5_clearBook_47 (d := d + 5) (h := (swW h 24 25)) g2 hN2  (M := M4) rfl) rfl ?_
    change am_At _ _ _ 62 [_, _] [] _ _
    refine am_aload_n dX11_river_62 rfl ?_
    refine am_getR 11 5 29 dX11_river_63 fg_X11_45 (sh_0 g2) (by decide) rfl (rf_0_5 g2) ?_
    refine am_callV [] dX11_river_66 ml_X11_131 vm_X8_clear (sh_29 g2) rfl (fun _ => Nat.le_of_ble_eq_true rfl) (by omega) rfl (ef_X8_clear_30 (d := d + 5) (h := (swW h 24 25)) g2  (M := (am_u3 (fillM M4 47 16 (-1 : Int32)) 45 0 3 (0 : Int32))) rfl) rfl ?_
    change am_At _ _ _ 69 [_, _] [] _ _
    refine am_aload_n dX11_river_69 rfl ?_
    refine am_getR 11 6 31 dX11_river_70 fg_X11_52 (sh_0 g2) (by decide) rfl (rf_0_6 g2) ?_
    refine am_callV [] dX11_river_73 ml_X11_134 vm_X7_clear (sh_31 g2) rfl (fun _ => Nat.le_of_ble_eq_true rfl) (by omega) rfl (ef_X7_clear (d := d + 6) (h := (swW h 24 25)) g2  (M := (fillM (am_u3 (fillM M4 47 16 (-1 : Int32)) 45 0 3 (0 : Int32)) 30 47 (0 : Int32))) rfl) rfl ?_
    change am_At _ _ _ 76 [_, _] [] _ _
    refine am_aload_n dX11_river_76 rfl ?_
    refine am_iconst 0 (v := 0) dX11_river_77 (by decide) ?_
    refine am_putI 11 12 dX11_river_78 (Or.inl fp_X11_135) (sh_0 g2) (by decide) rfl rfl rfl ?_
    refine am_aload_n dX11_river_81 rfl ?_
    refine am_getR 11 8 38 dX11_river_82 fg_X11_68 (sh_0 g2) (by decide) rfl (rf_0_8 g2) ?_
    refine am_callV [] dX11_river_85 ml_X11_139 vm_X6_forget (sh_38 g2) rfl (fun _ => Nat.le_of_ble_eq_true rfl) (by omega) rfl (ef_X6_forget (d := d + 6) (h := (swW h 24 25)) g2  (M := (am_u3 (am_u3 (am_u3 (fillM (am_u3 (fillM M4 47 16 (-1 : Int32)) 45 0 3 (0 : Int32)) 30 47 (0 : Int32)) 31 0 1 (0 : Int32)) 31 0 3 (0 : Int32)) 0 0 12 (0 : Int32))) rfl) rfl ?_
    change am_At _ _ _ 88 [_, _] [] _ _
    refine am_aload_n dX11_river_88 rfl ?_
    refine am_getR 11 1 3 dX11_river_89 fg_X11_19 (sh_0 g2) (by decide) rfl (rf_0_1 g2) ?_
    refine am_getI 1 0 dX11_river_92 fg_X11_142 (sh_3 g2) (by decide) rfl ?_
    cases hyp
    exact am_iret dX11_river_95 rfl
  · intro hc3n
    have hc3n : ¬ ((f_X10_isFaulty M2) = 0) := hc3n
    replace hyp := it_neg hc3n hyp
    refine am_aload_n dX11_river_29 rfl ?_
    refine am_getR 11 0 1 dX11_river_30 fg_X11_10 (sh_0 g) (by decide) rfl (rf_0_0 g) ?_
    refine am_callV [] dX11_river_33 ml_X11_119 vm_X10_faultAnswer (sh_1 g) rfl (fun _ => Nat.le_of_ble_eq_true rfl) (by omega) rfl (ef_X10_faultAnswer (d := d + 6) (h := h) g  (M := M2) rfl) rfl ?_
    change am_At _ _ _ 36 [_, _] [_] _ _
    cases hyp
    exact am_iret dX11_river_36 rfl
theorem ef_X11_river_25_46 {d : Nat} {h : am_H} (g : lay h) (hW : h.2.2 23 0 = some 25 ∧ h.2.2 23 2 = some 24) (hN : h.2.2 45 1 = some 46 ∧ h.2.2 45 2 = some 47) {x1 : Int32} {M : Mem} {y : (Int32 ⊕ String) × Bool × Mem} (hyp : f_X11_river 25 24 46 47 x1 M = some y) : am_Ev (d + 7) mX11_river [.inr (0, 0), am_I x1] (am_hM h M) (am_o1w (fun b => swb b (swW h 25 24) h) y) := by
  unfold f_X11_river at hyp
  refine am_Ev.mk (by decide +kernel) rfl rfl (am_oc1w (fun b => by cases b <;> rfl) y) (am_os1w (fun b => by cases b <;> rfl) y) ?_
  change am_At _ _ _ 0 [_, _] [] _ _
  refine am_aload_n dX11_river_0 rfl ?_
  refine am_iload_n dX11_river_1 rfl ?_
  refine am_sipush 600 (v := 600) dX11_river_2 (by decide) ?_
  obtain ⟨⟨y1, M1⟩, hk1, hyp⟩ := bd_some hyp
  rcases y1 with v1 | E1
  rotate_left
  · try dsimp only at hyp
    cases hyp
    exact am_callVX [_, _] dX11_river_5 ml_X11_107 vm_X11_takeText (sh_0 g) rfl (fun _ => Nat.le_of_ble_eq_true rfl) (by omega) rfl (am_o0t (ef_X11_takeText (d := d + 5) (h := h) g hk1)) rfl
  try dsimp only at hyp
  refine am_callV [_, _] dX11_river_5 ml_X11_107 vm_X11_takeText (sh_0 g) rfl (fun _ => Nat.le_of_ble_eq_true rfl) (by omega) rfl (am_o0v (ef_X11_takeText (d := d + 5) (h := h) g hk1)) rfl ?_
  change am_At _ _ _ 8 [_, _] [] _ _
  refine am_aload_n dX11_river_8 rfl ?_
  refine am_getR 11 2 13 dX11_river_9 fg_X11_23 (sh_0 g) (by decide) rfl (rf_0_2 g) ?_
  refine am_aload_n dX11_river_12 rfl ?_
  refine am_getR 11 0 1 dX11_river_13 fg_X11_10 (sh_0 g) (by decide) rfl (rf_0_0 g) ?_
  obtain ⟨M2, hk2, hyp⟩ := bd_some hyp
  try dsimp only at hyp
  refine am_callV [_] dX11_river_16 ml_X11_111 vm_X1_read (sh_13 g) rfl (fun _ => Nat.le_of_ble_eq_true rfl) (by omega) rfl (ef_X1_read (d := d + 0) (h := h) g hk2) rfl ?_
  change am_At _ _ _ 19 [_, _] [] _ _
  refine am_aload_n dX11_river_19 rfl ?_
  refine am_getR 11 0 1 dX11_river_20 fg_X11_10 (sh_0 g) (by decide) rfl (rf_0_0 g) ?_
  refine am_callV [] dX11_river_23 ml_X11_115 vm_X10_isFaulty (sh_1 g) rfl (fun _ => Nat.le_of_ble_eq_true rfl) (by omega) rfl (ef_X10_isFaulty (d := d + 6) (h := h) g  (M := M2) rfl) rfl ?_
  change am_At _ _ _ 26 [_, _] [_] _ _
  refine am_if_eq (11) 37 dX11_river_26 rfl ?_ ?_
  · intro hc3
    have hc3 : (f_X10_isFaulty M2) = 0 := hc3
    replace hyp := it_pos hc3 hyp
    refine am_aload_n dX11_river_37 rfl ?_
    refine am_getR 11 1 3 dX11_river_38 fg_X11_19 (sh_0 g) (by decide) rfl (rf_0_1 g) ?_
    refine am_aload_n dX11_river_41 rfl ?_
    refine am_getR 11 2 13 dX11_river_42 fg_X11_23 (sh_0 g) (by decide) rfl (rf_0_2 g) ?_
    refine am_callV [_] dX11_river_45 ml_X11_122 vm_X1_copyFrom (sh_3 g) rfl (fun _ => Nat.le_of_ble_eq_true rfl) (by omega) rfl (ef_X1_copyFrom (d := d + 6) (h := h) g  (M := M2) rfl) rfl ?_
    change am_At _ _ _ 48 [_, _] [] _ _
    refine am_aload_n dX11_river_48 rfl ?_
    refine am_getR 11 3 23 dX11_river_49 fg_X11_29 (sh_0 g) (by decide) rfl (rf_0_3 g) ?_
    obtain ⟨M4, hk4, hyp⟩ := bd_some hyp
    try dsimp only at hyp
    refine am_callV [] dX11_river_52 ml_X11_125 vm_X3_beUntold (sh_23 g) rfl (fun _ => Nat.le_of_ble_eq_true rfl) (by omega) rfl (ef_X3_beUntold_25 (d := d + 5) (h := h) g hW hk4) rfl ?_
    change am_At _ _ _ 55 [_, _] [] _ _
    have g2 : lay (swW h 25 24) := lay.swW g
    have hW2 : (swW h 25 24).2.2 23 0 = some 24 ∧ (swW h 25 24).2.2 23 2 = some 25 := ⟨rfl, rfl⟩
    have hN2 : (swW h 25 24).2.2 45 1 = some 46 ∧ (swW h 25 24).2.2 45 2 = some 47 := hN
    change am_At _ _ _ 55 [_, _] [] (am_hM (swW h 25 24) M4) _
    refine am_aload_n dX11_river_55 rfl ?_
    refine am_getR 11 10 45 dX11_river_56 fg_X11_84 (sh_0 g2) (by decide) rfl (rf_0_10 g2) ?_
    refine am_callV [] dX11_river_59 ml_X11_128 vm_X5_clearBook (sh_45 g2) rfl (fun _ => Nat.le_of_ble_eq_true rfl) (by omega) rfl (ef_X5_clearBook_46 (d := d + 5) (h := (swW h 25 24)) g2 hN2  (M := M4) rfl) rfl ?_
    change am_At _ _ _ 62 [_, _] [] _ _
    refine am_aload_n dX11_river_62 rfl ?_
    refine am_getR 11 5 29 dX11_river_63 fg_X11_45 (sh_0 g2) (by decide) rfl (rf_0_5 g2) ?_
    refine am_callV [] dX11_river_66 ml_X11_131 vm_X8_clear (sh_29 g2) rfl (fun _ => Nat.le_of_ble_eq_true rfl) (by omega) rfl (ef_X8_clear_30 (d := d + 5) (h := (swW h 25 24)) g2  (M := (am_u3 (fillM M4 46 16 (-1 : Int32)) 45 0 3 (0 : Int32))) rfl) rfl ?_
    change am_At _ _ _ 69 [_, _] [] _ _
    refine am_aload_n dX11_river_69 rfl ?_
    refine am_getR 11 6 31 dX11_river_70 fg_X11_52 (sh_0 g2) (by decide) rfl (rf_0_6 g2) ?_
    refine am_callV [] dX11_river_73 ml_X11_134 vm_X7_clear (sh_31 g2) rfl (fun _ => Nat.le_of_ble_eq_true rfl) (by omega) rfl (ef_X7_clear (d := d + 6) (h := (swW h 25 24)) g2  (M := (fillM (am_u3 (fillM M4 46 16 (-1 : Int32)) 45 0 3 (0 : Int32)) 30 47 (0 : Int32))) rfl) rfl ?_
    change am_At _ _ _ 76 [_, _] [] _ _
    refine am_aload_n dX11_river_76 rfl ?_
    refine am_iconst 0 (v := 0) dX11_river_77 (by decide) ?_
    refine am_putI 11 12 dX11_river_78 (Or.inl fp_X11_135) (sh_0 g2) (by decide) rfl rfl rfl ?_
    refine am_aload_n dX11_river_81 rfl ?_
    refine am_getR 11 8 38 dX11_river_82 fg_X11_68 (sh_0 g2) (by decide) rfl (rf_0_8 g2) ?_
    refine am_callV [] dX11_river_85 ml_X11_139 vm_X6_forget (sh_38 g2) rfl (fun _ => Nat.le_of_ble_eq_true rfl) (by omega) rfl (ef_X6_forget (d := d + 6) (h := (swW h 25 24)) g2  (M := (am_u3 (am_u3 (am_u3 (fillM (am_u3 (fillM M4 46 16 (-1 : Int32)) 45 0 3 (0 : Int32)) 30 47 (0 : Int32)) 31 0 1 (0 : Int32)) 31 0 3 (0 : Int32)) 0 0 12 (0 : Int32))) rfl) rfl ?_
    change am_At _ _ _ 88 [_, _] [] _ _
    refine am_aload_n dX11_river_88 rfl ?_
    refine am_getR 11 1 3 dX11_river_89 fg_X11_19 (sh_0 g2) (by decide) rfl (rf_0_1 g2) ?_
    refine am_getI 1 0 dX11_river_92 fg_X11_142 (sh_3 g2) (by decide) rfl ?_
    cases hyp
    exact am_iret dX11_river_95 rfl
  · intro hc3n
    have hc3n : ¬ ((f_X10_isFaulty M2) = 0) := hc3n
    replace hyp := it_neg hc3n hyp
    refine am_aload_n dX11_river_29 rfl ?_
    refine am_getR 11 0 1 dX11_river_30 fg_X11_10 (sh_0 g) (by decide) rfl (rf_0_0 g) ?_
    refine am_callV [] dX11_river_33 ml_X11_119 vm_X10_faultAnswer (sh_1 g) rfl (fun _ => Nat.le_of_ble_eq_true rfl) (by omega) rfl (ef_X10_faultAnswer (d := d + 6) (h := h) g  (M := M2) rfl) rfl ?_
    change am_At _ _ _ 36 [_, _] [_] _ _
    cases hyp
    exact am_iret dX11_river_36 rfl
theorem ef_X11_river_25_47 {d : Nat} {h : am_H} (g : lay h) (hW : h.2.2 23 0 = some 25 ∧ h.2.2 23 2 = some 24) (hN : h.2.2 45 1 = some 47 ∧ h.2.2 45 2 = some 46) {x1 : Int32} {M : Mem} {y : (Int32 ⊕ String) × Bool × Mem} (hyp : f_X11_river 25 24 47 46 x1 M = some y) : am_Ev (d + 7) mX11_river [.inr (0, 0), am_I x1] (am_hM h M) (am_o1w (fun b => swb b (swW h 25 24) h) y) := by
  unfold f_X11_river at hyp
  refine am_Ev.mk (by decide +kernel) rfl rfl (am_oc1w (fun b => by cases b <;> rfl) y) (am_os1w (fun b => by cases b <;> rfl) y) ?_
  change am_At _ _ _ 0 [_, _] [] _ _
  refine am_aload_n dX11_river_0 rfl ?_
  refine am_iload_n dX11_river_1 rfl ?_
  refine am_sipush 600 (v := 600) dX11_river_2 (by decide) ?_
  obtain ⟨⟨y1, M1⟩, hk1, hyp⟩ := bd_some hyp
  rcases y1 with v1 | E1
  rotate_left
  · try dsimp only at hyp
    cases hyp
    exact am_callVX [_, _] dX11_river_5 ml_X11_107 vm_X11_takeText (sh_0 g) rfl (fun _ => Nat.le_of_ble_eq_true rfl) (by omega) rfl (am_o0t (ef_X11_takeText (d := d + 5) (h := h) g hk1)) rfl
  try dsimp only at hyp
  refine am_callV [_, _] dX11_river_5 ml_X11_107 vm_X11_takeText (sh_0 g) rfl (fun _ => Nat.le_of_ble_eq_true rfl) (by omega) rfl (am_o0v (ef_X11_takeText (d := d + 5) (h := h) g hk1)) rfl ?_
  change am_At _ _ _ 8 [_, _] [] _ _
  refine am_aload_n dX11_river_8 rfl ?_
  refine am_getR 11 2 13 dX11_river_9 fg_X11_23 (sh_0 g) (by decide) rfl (rf_0_2 g) ?_
  refine am_aload_n dX11_river_12 rfl ?_
  refine am_getR 11 0 1 dX11_river_13 fg_X11_10 (sh_0 g) (by decide) rfl (rf_0_0 g) ?_
  obtain ⟨M2, hk2, hyp⟩ := bd_some hyp
  try dsimp only at hyp
  refine am_callV [_] dX11_river_16 ml_X11_111 vm_X1_read (sh_13 g) rfl (fun _ => Nat.le_of_ble_eq_true rfl) (by omega) rfl (ef_X1_read (d := d + 0) (h := h) g hk2) rfl ?_
  change am_At _ _ _ 19 [_, _] [] _ _
  refine am_aload_n dX11_river_19 rfl ?_
  refine am_getR 11 0 1 dX11_river_20 fg_X11_10 (sh_0 g) (by decide) rfl (rf_0_0 g) ?_
  refine am_callV [] dX11_river_23 ml_X11_115 vm_X10_isFaulty (sh_1 g) rfl (fun _ => Nat.le_of_ble_eq_true rfl) (by omega) rfl (ef_X10_isFaulty (d := d + 6) (h := h) g  (M := M2) rfl) rfl ?_
  change am_At _ _ _ 26 [_, _] [_] _ _
  refine am_if_eq (11) 37 dX11_river_26 rfl ?_ ?_
  · intro hc3
    have hc3 : (f_X10_isFaulty M2) = 0 := hc3
    replace hyp := it_pos hc3 hyp
    refine am_aload_n dX11_river_37 rfl ?_
    refine am_getR 11 1 3 dX11_river_38 fg_X11_19 (sh_0 g) (by decide) rfl (rf_0_1 g) ?_
    refine am_aload_n dX11_river_41 rfl ?_
    refine am_getR 11 2 13 dX11_river_42 fg_X11_23 (sh_0 g) (by decide) rfl (rf_0_2 g) ?_
    refine am_callV [_] dX11_river_45 ml_X11_122 vm_X1_copyFrom (sh_3 g) rfl (fun _ => Nat.le_of_ble_eq_true rfl) (by omega) rfl (ef_X1_copyFrom (d := d + 6) (h := h) g  (M := M2) rfl) rfl ?_
    change am_At _ _ _ 48 [_, _] [] _ _
    refine am_aload_n dX11_river_48 rfl ?_
    refine am_getR 11 3 23 dX11_river_49 fg_X11_29 (sh_0 g) (by decide) rfl (rf_0_3 g) ?_
    obtain ⟨M4, hk4, hyp⟩ := bd_some hyp
    try dsimp only at hyp
    refine am_callV [] dX11_river_52 ml_X11_125 vm_X3_beUntold (sh_23 g) rfl (fun _ => Nat.le_of_ble_eq_true rfl) (by omega) rfl (ef_X3_beUntold_25 (d := d + 5) (h := h) g hW hk4) rfl ?_
    change am_At _ _ _ 55 [_, _] [] _ _
    have g2 : lay (swW h 25 24) := lay.swW g
    have hW2 : (swW h 25 24).2.2 23 0 = some 24 ∧ (swW h 25 24).2.2 23 2 = some 25 := ⟨rfl, rfl⟩
    have hN2 : (swW h 25 24).2.2 45 1 = some 47 ∧ (swW h 25 24).2.2 45 2 = some 46 := hN
    change am_At _ _ _ 55 [_, _] [] (am_hM (swW h 25 24) M4) _
    refine am_aload_n dX11_river_55 rfl ?_
    refine am_getR 11 10 45 dX11_river_56 fg_X11_84 (sh_0 g2) (by decide) rfl (rf_0_10 g2) ?_
    refine am_callV [] dX11_river_59 ml_X11_128 vm_X5_clearBook (sh_45 g2) rfl (fun _ => Nat.le_of_ble_eq_true rfl) (by omega) rfl (ef_X5_clearBook_47 (d := d + 5) (h := (swW h 25 24)) g2 hN2  (M := M4) rfl) rfl ?_
    change am_At _ _ _ 62 [_, _] [] _ _
    refine am_aload_n dX11_river_62 rfl ?_
    refine am_getR 11 5 29 dX11_river_63 fg_X11_45 (sh_0 g2) (by decide) rfl (rf_0_5 g2) ?_
    refine am_callV [] dX11_river_66 ml_X11_131 vm_X8_clear (sh_29 g2) rfl (fun _ => Nat.le_of_ble_eq_true rfl) (by omega) rfl (ef_X8_clear_30 (d := d + 5) (h := (swW h 25 24)) g2  (M := (am_u3 (fillM M4 47 16 (-1 : Int32)) 45 0 3 (0 : Int32))) rfl) rfl ?_
    change am_At _ _ _ 69 [_, _] [] _ _
    refine am_aload_n dX11_river_69 rfl ?_
    refine am_getR 11 6 31 dX11_river_70 fg_X11_52 (sh_0 g2) (by decide) rfl (rf_0_6 g2) ?_
    refine am_callV [] dX11_river_73 ml_X11_134 vm_X7_clear (sh_31 g2) rfl (fun _ => Nat.le_of_ble_eq_true rfl) (by omega) rfl (ef_X7_clear (d := d + 6) (h := (swW h 25 24)) g2  (M := (fillM (am_u3 (fillM M4 47 16 (-1 : Int32)) 45 0 3 (0 : Int32)) 30 47 (0 : Int32))) rfl) rfl ?_
    change am_At _ _ _ 76 [_, _] [] _ _
    refine am_aload_n dX11_river_76 rfl ?_
    refine am_iconst 0 (v := 0) dX11_river_77 (by decide) ?_
    refine am_putI 11 12 dX11_river_78 (Or.inl fp_X11_135) (sh_0 g2) (by decide) rfl rfl rfl ?_
    refine am_aload_n dX11_river_81 rfl ?_
    refine am_getR 11 8 38 dX11_river_82 fg_X11_68 (sh_0 g2) (by decide) rfl (rf_0_8 g2) ?_
    refine am_callV [] dX11_river_85 ml_X11_139 vm_X6_forget (sh_38 g2) rfl (fun _ => Nat.le_of_ble_eq_true rfl) (by omega) rfl (ef_X6_forget (d := d + 6) (h := (swW h 25 24)) g2  (M := (am_u3 (am_u3 (am_u3 (fillM (am_u3 (fillM M4 47 16 (-1 : Int32)) 45 0 3 (0 : Int32)) 30 47 (0 : Int32)) 31 0 1 (0 : Int32)) 31 0 3 (0 : Int32)) 0 0 12 (0 : Int32))) rfl) rfl ?_
    change am_At _ _ _ 88 [_, _] [] _ _
    refine am_aload_n dX11_river_88 rfl ?_
    refine am_getR 11 1 3 dX11_river_89 fg_X11_19 (sh_0 g2) (by decide) rfl (rf_0_1 g2) ?_
    refine am_getI 1 0 dX11_river_92 fg_X11_142 (sh_3 g2) (by decide) rfl ?_
    cases hyp
    exact am_iret dX11_river_95 rfl
  · intro hc3n
    have hc3n : ¬ ((f_X10_isFaulty M2) = 0) := hc3n
    replace hyp := it_neg hc3n hyp
    refine am_aload_n dX11_river_29 rfl ?_
    refine am_getR 11 0 1 dX11_river_30 fg_X11_10 (sh_0 g) (by decide) rfl (rf_0_0 g) ?_
    refine am_callV [] dX11_river_33 ml_X11_119 vm_X10_faultAnswer (sh_1 g) rfl (fun _ => Nat.le_of_ble_eq_true rfl) (by omega) rfl (ef_X10_faultAnswer (d := d + 6) (h := h) g  (M := M2) rfl) rfl ?_
    change am_At _ _ _ 36 [_, _] [_] _ _
    cases hyp
    exact am_iret dX11_river_36 rfl
theorem ef_X11_law_24 {d : Nat} {h : am_H} (g : lay h) (hW : h.2.2 23 0 = some 24 ∧ h.2.2 23 2 = some 25) {x1 : Int32} {M : Mem} {y : (Int32 ⊕ String) × Bool × Mem} (hyp : f_X11_law 24 25 x1 M = some y) : am_Ev (d + 37) mX11_law [.inr (0, 0), am_I x1] (am_hM h M) (am_o1w (fun b => swb b (swW h 24 25) h) y) := by
  unfold f_X11_law at hyp
  refine am_Ev.mk (by decide +kernel) rfl rfl (am_oc1w (fun b => by cases b <;> rfl) y) (am_os1w (fun b => by cases b <;> rfl) y) ?_
  change am_At _ _ _ 0 [_, _] [] _ _
  refine am_aload_n dX11_law_0 rfl ?_
  refine am_iload_n dX11_law_1 rfl ?_
  refine am_sipush 150 (v := 150) dX11_law_2 (by decide) ?_
  obtain ⟨⟨y1, M1⟩, hk1, hyp⟩ := bd_some hyp
  rcases y1 with v1 | E1
  rotate_left
  · try dsimp only at hyp
    cases hyp
    exact am_callVX [_, _] dX11_law_5 ml_X11_107 vm_X11_takeText (sh_0 g) rfl (fun _ => Nat.le_of_ble_eq_true rfl) (by omega) rfl (am_o0t (ef_X11_takeText (d := d + 35) (h := h) g hk1)) rfl
  try dsimp only at hyp
  refine am_callV [_, _] dX11_law_5 ml_X11_107 vm_X11_takeText (sh_0 g) rfl (fun _ => Nat.le_of_ble_eq_true rfl) (by omega) rfl (am_o0v (ef_X11_takeText (d := d + 35) (h := h) g hk1)) rfl ?_
  change am_At _ _ _ 8 [_, _] [] _ _
  refine am_aload_n dX11_law_8 rfl ?_
  refine am_getR 11 3 23 dX11_law_9 fg_X11_29 (sh_0 g) (by decide) rfl (rf_0_3 g) ?_
  refine am_aload_n dX11_law_12 rfl ?_
  refine am_getR 11 0 1 dX11_law_13 fg_X11_10 (sh_0 g) (by decide) rfl (rf_0_0 g) ?_
  obtain ⟨⟨b2, M2⟩, hk2, hyp⟩ := bd_some hyp
  cases b2
  · try dsimp only at hyp
    refine am_callV [_] dX11_law_16 ml_X11_145 vm_X3_read (sh_23 g) rfl (fun _ => Nat.le_of_ble_eq_true rfl) (by omega) rfl (ef_X3_read_24 (d := d + 0) (h := h) g hW hk2) rfl ?_
    change am_At _ _ _ 19 [_, _] [] _ _
    change am_At _ _ _ 19 [_, _] [] (am_hM h M2) _
    refine am_aload_n dX11_law_19 rfl ?_
    refine am_getR 11 0 1 dX11_law_20 fg_X11_10 (sh_0 g) (by decide) rfl (rf_0_0 g) ?_
    refine am_callV [] dX11_law_23 ml_X11_115 vm_X10_isFaulty (sh_1 g) rfl (fun _ => Nat.le_of_ble_eq_true rfl) (by omega) rfl (ef_X10_isFaulty (d := d + 36) (h := h) g  (M := M2) rfl) rfl ?_
    change am_At _ _ _ 26 [_, _] [_] _ _
    refine am_if_eq (11) 37 dX11_law_26 rfl ?_ ?_
    · intro hc3
      have hc3 : (f_X10_isFaulty M2) = 0 := hc3
      replace hyp := it_pos hc3 hyp
      refine am_aload_n dX11_law_37 rfl ?_
      refine am_getR 11 8 38 dX11_law_38 fg_X11_68 (sh_0 g) (by decide) rfl (rf_0_8 g) ?_
      refine am_callV [] dX11_law_41 ml_X11_139 vm_X6_forget (sh_38 g) rfl (fun _ => Nat.le_of_ble_eq_true rfl) (by omega) rfl (ef_X6_forget (d := d + 36) (h := h) g  (M := M2) rfl) rfl ?_
      change am_At _ _ _ 44 [_, _] [] _ _
      refine am_iconst 1 (v := 1) dX11_law_44 (by decide) ?_
      cases hyp
      exact am_iret dX11_law_45 rfl
    · intro hc3n
      have hc3n : ¬ ((f_X10_isFaulty M2) = 0) := hc3n
      replace hyp := it_neg hc3n hyp
      refine am_aload_n dX11_law_29 rfl ?_
      refine am_getR 11 0 1 dX11_law_30 fg_X11_10 (sh_0 g) (by decide) rfl (rf_0_0 g) ?_
      refine am_callV [] dX11_law_33 ml_X11_119 vm_X10_faultAnswer (sh_1 g) rfl (fun _ => Nat.le_of_ble_eq_true rfl) (by omega) rfl (ef_X10_faultAnswer (d := d + 36) (h := h) g  (M := M2) rfl) rfl ?_
      change am_At _ _ _ 36 [_, _] [_] _ _
      cases hyp
      exact am_iret dX11_law_36 rfl
  · try dsimp only at hyp
    refine am_callV [_] dX11_law_16 ml_X11_145 vm_X3_read (sh_23 g) rfl (fun _ => Nat.le_of_ble_eq_true rfl) (by omega) rfl (ef_X3_read_24 (d := d + 0) (h := h) g hW hk2) rfl ?_
    change am_At _ _ _ 19 [_, _] [] _ _
    have g2 : lay (swW h 24 25) := lay.swW g
    have hW2 : (swW h 24 25).2.2 23 0 = some 25 ∧ (swW h 24 25).2.2 23 2 = some 24 := ⟨rfl, rfl⟩
    change am_At _ _ _ 19 [_, _] [] (am_hM (swW h 24 25) M2) _
    refine am_aload_n dX11_law_19 rfl ?_
    refine am_getR 11 0 1 dX11_law_20 fg_X11_10 (sh_0 g2) (by decide) rfl (rf_0_0 g2) ?_
    refine am_callV [] dX11_law_23 ml_X11_115 vm_X10_isFaulty (sh_1 g2) rfl (fun _ => Nat.le_of_ble_eq_true rfl) (by omega) rfl (ef_X10_isFaulty (d := d + 36) (h := (swW h 24 25)) g2  (M := M2) rfl) rfl ?_
    change am_At _ _ _ 26 [_, _] [_] _ _
    refine am_if_eq (11) 37 dX11_law_26 rfl ?_ ?_
    · intro hc4
      have hc4 : (f_X10_isFaulty M2) = 0 := hc4
      replace hyp := it_pos hc4 hyp
      refine am_aload_n dX11_law_37 rfl ?_
      refine am_getR 11 8 38 dX11_law_38 fg_X11_68 (sh_0 g2) (by decide) rfl (rf_0_8 g2) ?_
      refine am_callV [] dX11_law_41 ml_X11_139 vm_X6_forget (sh_38 g2) rfl (fun _ => Nat.le_of_ble_eq_true rfl) (by omega) rfl (ef_X6_forget (d := d + 36) (h := (swW h 24 25)) g2  (M := M2) rfl) rfl ?_
      change am_At _ _ _ 44 [_, _] [] _ _
      refine am_iconst 1 (v := 1) dX11_law_44 (by decide) ?_
      cases hyp
      exact am_iret dX11_law_45 rfl
    · intro hc4n
      have hc4n : ¬ ((f_X10_isFaulty M2) = 0) := hc4n
      replace hyp := it_neg hc4n hyp
      refine am_aload_n dX11_law_29 rfl ?_
      refine am_getR 11 0 1 dX11_law_30 fg_X11_10 (sh_0 g2) (by decide) rfl (rf_0_0 g2) ?_
      refine am_callV [] dX11_law_33 ml_X11_119 vm_X10_faultAnswer (sh_1 g2) rfl (fun _ => Nat.le_of_ble_eq_true rfl) (by omega) rfl (ef_X10_faultAnswer (d := d + 36) (h := (swW h 24 25)) g2  (M := M2) rfl) rfl ?_
      change am_At _ _ _ 36 [_, _] [_] _ _
      cases hyp
      exact am_iret dX11_law_36 rfl
theorem ef_X11_law_25 {d : Nat} {h : am_H} (g : lay h) (hW : h.2.2 23 0 = some 25 ∧ h.2.2 23 2 = some 24) {x1 : Int32} {M : Mem} {y : (Int32 ⊕ String) × Bool × Mem} (hyp : f_X11_law 25 24 x1 M = some y) : am_Ev (d + 37) mX11_law [.inr (0, 0), am_I x1] (am_hM h M) (am_o1w (fun b => swb b (swW h 25 24) h) y) := by
  unfold f_X11_law at hyp
  refine am_Ev.mk (by decide +kernel) rfl rfl (am_oc1w (fun b => by cases b <;> rfl) y) (am_os1w (fun b => by cases b <;> rfl) y) ?_
  change am_At _ _ _ 0 [_, _] [] _ _
  refine am_aload_n dX11_law_0 rfl ?_
  refine am_iload_n dX11_law_1 rfl ?_
  refine am_sipush 150 (v := 150) dX11_law_2 (by decide) ?_
  obtain ⟨⟨y1, M1⟩, hk1, hyp⟩ := bd_some hyp
  rcases y1 with v1 | E1
  rotate_left
  · try dsimp only at hyp
    cases hyp
    exact am_callVX [_, _] dX11_law_5 ml_X11_107 vm_X11_takeText (sh_0 g) rfl (fun _ => Nat.le_of_ble_eq_true rfl) (by omega) rfl (am_o0t (ef_X11_takeText (d := d + 35) (h := h) g hk1)) rfl
  try dsimp only at hyp
  refine am_callV [_, _] dX11_law_5 ml_X11_107 vm_X11_takeText (sh_0 g) rfl (fun _ => Nat.le_of_ble_eq_true rfl) (by omega) rfl (am_o0v (ef_X11_takeText (d := d + 35) (h := h) g hk1)) rfl ?_
  change am_At _ _ _ 8 [_, _] [] _ _
  refine am_aload_n dX11_law_8 rfl ?_
  refine am_getR 11 3 23 dX11_law_9 fg_X11_29 (sh_0 g) (by decide) rfl (rf_0_3 g) ?_
  refine am_aload_n dX11_law_12 rfl ?_
  refine am_getR 11 0 1 dX11_law_13 fg_X11_10 (sh_0 g) (by decide) rfl (rf_0_0 g) ?_
  obtain ⟨⟨b2, M2⟩, hk2, hyp⟩ := bd_some hyp
  cases b2
  · try dsimp only at hyp
    refine am_callV [_] dX11_law_16 ml_X11_145 vm_X3_read (sh_23 g) rfl (fun _ => Nat.le_of_ble_eq_true rfl) (by omega) rfl (ef_X3_read_25 (d := d + 0) (h := h) g hW hk2) rfl ?_
    change am_At _ _ _ 19 [_, _] [] _ _
    change am_At _ _ _ 19 [_, _] [] (am_hM h M2) _
    refine am_aload_n dX11_law_19 rfl ?_
    refine am_getR 11 0 1 dX11_law_20 fg_X11_10 (sh_0 g) (by decide) rfl (rf_0_0 g) ?_
    refine am_callV [] dX11_law_23 ml_X11_115 vm_X10_isFaulty (sh_1 g) rfl (fun _ => Nat.le_of_ble_eq_true rfl) (by omega) rfl (ef_X10_isFaulty (d := d + 36) (h := h) g  (M := M2) rfl) rfl ?_
    change am_At _ _ _ 26 [_, _] [_] _ _
    refine am_if_eq (11) 37 dX11_law_26 rfl ?_ ?_
    · intro hc3
      have hc3 : (f_X10_isFaulty M2) = 0 := hc3
      replace hyp := it_pos hc3 hyp
      refine am_aload_n dX11_law_37 rfl ?_
      refine am_getR 11 8 38 dX11_law_38 fg_X11_68 (sh_0 g) (by decide) rfl (rf_0_8 g) ?_
      refine am_callV [] dX11_law_41 ml_X11_139 vm_X6_forget (sh_38 g) rfl (fun _ => Nat.le_of_ble_eq_true rfl) (by omega) rfl (ef_X6_forget (d := d + 36) (h := h) g  (M := M2) rfl) rfl ?_
      change am_At _ _ _ 44 [_, _] [] _ _
      refine am_iconst 1 (v := 1) dX11_law_44 (by decide) ?_
      cases hyp
      exact am_iret dX11_law_45 rfl
    · intro hc3n
      have hc3n : ¬ ((f_X10_isFaulty M2) = 0) := hc3n
      replace hyp := it_neg hc3n hyp
      refine am_aload_n dX11_law_29 rfl ?_
      refine am_getR 11 0 1 dX11_law_30 fg_X11_10 (sh_0 g) (by decide) rfl (rf_0_0 g) ?_
      refine am_callV [] dX11_law_33 ml_X11_119 vm_X10_faultAnswer (sh_1 g) rfl (fun _ => Nat.le_of_ble_eq_true rfl) (by omega) rfl (ef_X10_faultAnswer (d := d + 36) (h := h) g  (M := M2) rfl) rfl ?_
      change am_At _ _ _ 36 [_, _] [_] _ _
      cases hyp
      exact am_iret dX11_law_36 rfl
  · try dsimp only at hyp
    refine am_callV [_] dX11_law_16 ml_X11_145 vm_X3_read (sh_23 g) rfl (fun _ => Nat.le_of_ble_eq_true rfl) (by omega) rfl (ef_X3_read_25 (d := d + 0) (h := h) g hW hk2) rfl ?_
    change am_At _ _ _ 19 [_, _] [] _ _
    have g2 : lay (swW h 25 24) := lay.swW g
    have hW2 : (swW h 25 24).2.2 23 0 = some 24 ∧ (swW h 25 24).2.2 23 2 = some 25 := ⟨rfl, rfl⟩
    change am_At _ _ _ 19 [_, _] [] (am_hM (swW h 25 24) M2) _
    refine am_aload_n dX11_law_19 rfl ?_
    refine am_getR 11 0 1 dX11_law_20 fg_X11_10 (sh_0 g2) (by decide) rfl (rf_0_0 g2) ?_
    refine am_callV [] dX11_law_23 ml_X11_115 vm_X10_isFaulty (sh_1 g2) rfl (fun _ => Nat.le_of_ble_eq_true rfl) (by omega) rfl (ef_X10_isFaulty (d := d + 36) (h := (swW h 25 24)) g2  (M := M2) rfl) rfl ?_
    change am_At _ _ _ 26 [_, _] [_] _ _
    refine am_if_eq (11) 37 dX11_law_26 rfl ?_ ?_
    · intro hc4
      have hc4 : (f_X10_isFaulty M2) = 0 := hc4
      replace hyp := it_pos hc4 hyp
      refine am_aload_n dX11_law_37 rfl ?_
      refine am_getR 11 8 38 dX11_law_38 fg_X11_68 (sh_0 g2) (by decide) rfl (rf_0_8 g2) ?_
      refine am_callV [] dX11_law_41 ml_X11_139 vm_X6_forget (sh_38 g2) rfl (fun _ => Nat.le_of_ble_eq_true rfl) (by omega) rfl (ef_X6_forget (d := d + 36) (h := (swW h 25 24)) g2  (M := M2) rfl) rfl ?_
      change am_At _ _ _ 44 [_, _] [] _ _
      refine am_iconst 1 (v := 1) dX11_law_44 (by decide) ?_
      cases hyp
      exact am_iret dX11_law_45 rfl
    · intro hc4n
      have hc4n : ¬ ((f_X10_isFaulty M2) = 0) := hc4n
      replace hyp := it_neg hc4n hyp
      refine am_aload_n dX11_law_29 rfl ?_
      refine am_getR 11 0 1 dX11_law_30 fg_X11_10 (sh_0 g2) (by decide) rfl (rf_0_0 g2) ?_
      refine am_callV [] dX11_law_33 ml_X11_119 vm_X10_faultAnswer (sh_1 g2) rfl (fun _ => Nat.le_of_ble_eq_true rfl) (by omega) rfl (ef_X10_faultAnswer (d := d + 36) (h := (swW h 25 24)) g2  (M := M2) rfl) rfl ?_
      change am_At _ _ _ 36 [_, _] [_] _ _
      cases hyp
      exact am_iret dX11_law_36 rfl
theorem ef_X11_book_46 {d : Nat} {h : am_H} (g : lay h) (hN : h.2.2 45 1 = some 46 ∧ h.2.2 45 2 = some 47) {x1 : Int32} {M : Mem} {y : (Int32 ⊕ String) × Bool × Mem} (hyp : f_X11_book 46 47 x1 M = some y) : am_Ev (d + 4) mX11_book [.inr (0, 0), am_I x1] (am_hM h M) (am_o1w (fun b => swb b (swN h 46 47) h) y) := by
  unfold f_X11_book at hyp
  refine am_Ev.mk (by decide +kernel) rfl rfl (am_oc1w (fun b => by cases b <;> rfl) y) (am_os1w (fun b => by cases b <;> rfl) y) ?_
  change am_At _ _ _ 0 [_, _] [] _ _
  refine am_aload_n dX11_book_0 rfl ?_
  refine am_iload_n dX11_book_1 rfl ?_
  refine am_bipush 100 (v := 100) dX11_book_2 (by decide) ?_
  obtain ⟨⟨y1, M1⟩, hk1, hyp⟩ := bd_some hyp
  rcases y1 with v1 | E1
  rotate_left
  · try dsimp only at hyp
    cases hyp
    exact am_callVX [_, _] dX11_book_4 ml_X11_107 vm_X11_takeText (sh_0 g) rfl (fun _ => Nat.le_of_ble_eq_true rfl) (by omega) rfl (am_o0t (ef_X11_takeText (d := d + 2) (h := h) g hk1)) rfl
  try dsimp only at hyp
  refine am_callV [_, _] dX11_book_4 ml_X11_107 vm_X11_takeText (sh_0 g) rfl (fun _ => Nat.le_of_ble_eq_true rfl) (by omega) rfl (am_o0v (ef_X11_takeText (d := d + 2) (h := h) g hk1)) rfl ?_
  change am_At _ _ _ 7 [_, _] [] _ _
  refine am_aload_n dX11_book_7 rfl ?_
  refine am_getR 11 10 45 dX11_book_8 fg_X11_84 (sh_0 g) (by decide) rfl (rf_0_10 g) ?_
  refine am_aload_n dX11_book_11 rfl ?_
  refine am_getR 11 0 1 dX11_book_12 fg_X11_10 (sh_0 g) (by decide) rfl (rf_0_0 g) ?_
  obtain ⟨⟨b2, M2⟩, hk2, hyp⟩ := bd_some hyp
  cases b2
  · try dsimp only at hyp
    refine am_callV [_] dX11_book_15 ml_X11_163 vm_X5_readBook (sh_45 g) rfl (fun _ => Nat.le_of_ble_eq_true rfl) (by omega) rfl (ef_X5_readBook_46 (d := d + 0) (h := h) g hN hk2) rfl ?_
    change am_At _ _ _ 18 [_, _] [] _ _
    change am_At _ _ _ 18 [_, _] [] (am_hM h M2) _
    refine am_aload_n dX11_book_18 rfl ?_
    refine am_getR 11 0 1 dX11_book_19 fg_X11_10 (sh_0 g) (by decide) rfl (rf_0_0 g) ?_
    refine am_callV [] dX11_book_22 ml_X11_115 vm_X10_isFaulty (sh_1 g) rfl (fun _ => Nat.le_of_ble_eq_true rfl) (by omega) rfl (ef_X10_isFaulty (d := d + 3) (h := h) g  (M := M2) rfl) rfl ?_
    change am_At _ _ _ 25 [_, _] [_] _ _
    refine am_if_eq (13) 38 dX11_book_25 rfl ?_ ?_
    · intro hc3
      have hc3 : (f_X10_isFaulty M2) = 0 := hc3
      replace hyp := it_pos hc3 hyp
      refine am_aload_n dX11_book_38 rfl ?_
      refine am_getR 11 10 45 dX11_book_39 fg_X11_84 (sh_0 g) (by decide) rfl (rf_0_10 g) ?_
      refine am_getI 5 3 dX11_book_42 fg_X11_166 (sh_45 g) (by decide) rfl ?_
      cases hyp
      exact am_iret dX11_book_45 rfl
    · intro hc3n
      have hc3n : ¬ ((f_X10_isFaulty M2) = 0) := hc3n
      replace hyp := it_neg hc3n hyp
      refine am_aload_n dX11_book_28 rfl ?_
      refine am_getR 11 0 1 dX11_book_29 fg_X11_10 (sh_0 g) (by decide) rfl (rf_0_0 g) ?_
      refine am_callV [] dX11_book_32 ml_X11_119 vm_X10_faultAnswer (sh_1 g) rfl (fun _ => Nat.le_of_ble_eq_true rfl) (by omega) rfl (ef_X10_faultAnswer (d := d + 3) (h := h) g  (M := M2) rfl) rfl ?_
      change am_At _ _ _ 35 [_, _] [_] _ _
      refine am_goto (10) 45 dX11_book_35 rfl ?_
      cases hyp
      exact am_iret dX11_book_45 rfl
  · try dsimp only at hyp
    refine am_callV [_] dX11_book_15 ml_X11_163 vm_X5_readBook (sh_45 g) rfl (fun _ => Nat.le_of_ble_eq_true rfl) (by omega) rfl (ef_X5_readBook_46 (d := d + 0) (h := h) g hN hk2) rfl ?_
    change am_At _ _ _ 18 [_, _] [] _ _
    have g2 : lay (swN h 46 47) := lay.swN g
    have hN2 : (swN h 46 47).2.2 45 1 = some 47 ∧ (swN h 46 47).2.2 45 2 = some 46 := ⟨rfl, rfl⟩
    change am_At _ _ _ 18 [_, _] [] (am_hM (swN h 46 47) M2) _
    refine am_aload_n dX11_book_18 rfl ?_
    refine am_getR 11 0 1 dX11_book_19 fg_X11_10 (sh_0 g2) (by decide) rfl (rf_0_0 g2) ?_
    refine am_callV [] dX11_book_22 ml_X11_115 vm_X10_isFaulty (sh_1 g2) rfl (fun _ => Nat.le_of_ble_eq_true rfl) (by omega) rfl (ef_X10_isFaulty (d := d + 3) (h := (swN h 46 47)) g2  (M := M2) rfl) rfl ?_
    change am_At _ _ _ 25 [_, _] [_] _ _
    refine am_if_eq (13) 38 dX11_book_25 rfl ?_ ?_
    · intro hc4
      have hc4 : (f_X10_isFaulty M2) = 0 := hc4
      replace hyp := it_pos hc4 hyp
      refine am_aload_n dX11_book_38 rfl ?_
      refine am_getR 11 10 45 dX11_book_39 fg_X11_84 (sh_0 g2) (by decide) rfl (rf_0_10 g2) ?_
      refine am_getI 5 3 dX11_book_42 fg_X11_166 (sh_45 g2) (by decide) rfl ?_
      cases hyp
      exact am_iret dX11_book_45 rfl
    · intro hc4n
      have hc4n : ¬ ((f_X10_isFaulty M2) = 0) := hc4n
      replace hyp := it_neg hc4n hyp
      refine am_aload_n dX11_book_28 rfl ?_
      refine am_getR 11 0 1 dX11_book_29 fg_X11_10 (sh_0 g2) (by decide) rfl (rf_0_0 g2) ?_
      refine am_callV [] dX11_book_32 ml_X11_119 vm_X10_faultAnswer (sh_1 g2) rfl (fun _ => Nat.le_of_ble_eq_true rfl) (by omega) rfl (ef_X10_faultAnswer (d := d + 3) (h := (swN h 46 47)) g2  (M := M2) rfl) rfl ?_
      change am_At _ _ _ 35 [_, _] [_] _ _
      refine am_goto (10) 45 dX11_book_35 rfl ?_
      cases hyp
      exact am_iret dX11_book_45 rfl
theorem ef_X11_book_47 {d : Nat} {h : am_H} (g : lay h) (hN : h.2.2 45 1 = some 47 ∧ h.2.2 45 2 = some 46) {x1 : Int32} {M : Mem} {y : (Int32 ⊕ String) × Bool × Mem} (hyp : f_X11_book 47 46 x1 M = some y) : am_Ev (d + 4) mX11_book [.inr (0, 0), am_I x1] (am_hM h M) (am_o1w (fun b => swb b (swN h 47 46) h) y) := by
  unfold f_X11_book at hyp
  refine am_Ev.mk (by decide +kernel) rfl rfl (am_oc1w (fun b => by cases b <;> rfl) y) (am_os1w (fun b => by cases b <;> rfl) y) ?_
  change am_At _ _ _ 0 [_, _] [] _ _
  refine am_aload_n dX11_book_0 rfl ?_
  refine am_iload_n dX11_book_1 rfl ?_
  refine am_bipush 100 (v := 100) dX11_book_2 (by decide) ?_
  obtain ⟨⟨y1, M1⟩, hk1, hyp⟩ := bd_some hyp
  rcases y1 with v1 | E1
  rotate_left
  · try dsimp only at hyp
    cases hyp
    exact am_callVX [_, _] dX11_book_4 ml_X11_107 vm_X11_takeText (sh_0 g) rfl (fun _ => Nat.le_of_ble_eq_true rfl) (by omega) rfl (am_o0t (ef_X11_takeText (d := d + 2) (h := h) g hk1)) rfl
  try dsimp only at hyp
  refine am_callV [_, _] dX11_book_4 ml_X11_107 vm_X11_takeText (sh_0 g) rfl (fun _ => Nat.le_of_ble_eq_true rfl) (by omega) rfl (am_o0v (ef_X11_takeText (d := d + 2) (h := h) g hk1)) rfl ?_
  change am_At _ _ _ 7 [_, _] [] _ _
  refine am_aload_n dX11_book_7 rfl ?_
  refine am_getR 11 10 45 dX11_book_8 fg_X11_84 (sh_0 g) (by decide) rfl (rf_0_10 g) ?_
  refine am_aload_n dX11_book_11 rfl ?_
  refine am_getR 11 0 1 dX11_book_12 fg_X11_10 (sh_0 g) (by decide) rfl (rf_0_0 g) ?_
  obtain ⟨⟨b2, M2⟩, hk2, hyp⟩ := bd_some hyp
  cases b2
  · try dsimp only at hyp
    refine am_callV [_] dX11_book_15 ml_X11_163 vm_X5_readBook (sh_45 g) rfl (fun _ => Nat.le_of_ble_eq_true rfl) (by omega) rfl (ef_X5_readBook_47 (d := d + 0) (h := h) g hN hk2) rfl ?_
    change am_At _ _ _ 18 [_, _] [] _ _
    change am_At _ _ _ 18 [_, _] [] (am_hM h M2) _
    refine am_aload_n dX11_book_18 rfl ?_
    refine am_getR 11 0 1 dX11_book_19 fg_X11_10 (sh_0 g) (by decide) rfl (rf_0_0 g) ?_
    refine am_callV [] dX11_book_22 ml_X11_115 vm_X10_isFaulty (sh_1 g) rfl (fun _ => Nat.le_of_ble_eq_true rfl) (by omega) rfl (ef_X10_isFaulty (d := d + 3) (h := h) g  (M := M2) rfl) rfl ?_
    change am_At _ _ _ 25 [_, _] [_] _ _
    refine am_if_eq (13) 38 dX11_book_25 rfl ?_ ?_
    · intro hc3
      have hc3 : (f_X10_isFaulty M2) = 0 := hc3
      replace hyp := it_pos hc3 hyp
      refine am_aload_n dX11_book_38 rfl ?_
      refine am_getR 11 10 45 dX11_book_39 fg_X11_84 (sh_0 g) (by decide) rfl (rf_0_10 g) ?_
      refine am_getI 5 3 dX11_book_42 fg_X11_166 (sh_45 g) (by decide) rfl ?_
      cases hyp
      exact am_iret dX11_book_45 rfl
    · intro hc3n
      have hc3n : ¬ ((f_X10_isFaulty M2) = 0) := hc3n
      replace hyp := it_neg hc3n hyp
      refine am_aload_n dX11_book_28 rfl ?_
      refine am_getR 11 0 1 dX11_book_29 fg_X11_10 (sh_0 g) (by decide) rfl (rf_0_0 g) ?_
      refine am_callV [] dX11_book_32 ml_X11_119 vm_X10_faultAnswer (sh_1 g) rfl (fun _ => Nat.le_of_ble_eq_true rfl) (by omega) rfl (ef_X10_faultAnswer (d := d + 3) (h := h) g  (M := M2) rfl) rfl ?_
      change am_At _ _ _ 35 [_, _] [_] _ _
      refine am_goto (10) 45 dX11_book_35 rfl ?_
      cases hyp
      exact am_iret dX11_book_45 rfl
  · try dsimp only at hyp
    refine am_callV [_] dX11_book_15 ml_X11_163 vm_X5_readBook (sh_45 g) rfl (fun _ => Nat.le_of_ble_eq_true rfl) (by omega) rfl (ef_X5_readBook_47 (d := d + 0) (h := h) g hN hk2) rfl ?_
    change am_At _ _ _ 18 [_, _] [] _ _
    have g2 : lay (swN h 47 46) := lay.swN g
    have hN2 : (swN h 47 46).2.2 45 1 = some 46 ∧ (swN h 47 46).2.2 45 2 = some 47 := ⟨rfl, rfl⟩
    change am_At _ _ _ 18 [_, _] [] (am_hM (swN h 47 46) M2) _
    refine am_aload_n dX11_book_18 rfl ?_
    refine am_getR 11 0 1 dX11_book_19 fg_X11_10 (sh_0 g2) (by decide) rfl (rf_0_0 g2) ?_
    refine am_callV [] dX11_book_22 ml_X11_115 vm_X10_isFaulty (sh_1 g2) rfl (fun _ => Nat.le_of_ble_eq_true rfl) (by omega) rfl (ef_X10_isFaulty (d := d + 3) (h := (swN h 47 46)) g2  (M := M2) rfl) rfl ?_
    change am_At _ _ _ 25 [_, _] [_] _ _
    refine am_if_eq (13) 38 dX11_book_25 rfl ?_ ?_
    · intro hc4
      have hc4 : (f_X10_isFaulty M2) = 0 := hc4
      replace hyp := it_pos hc4 hyp
      refine am_aload_n dX11_book_38 rfl ?_
      refine am_getR 11 10 45 dX11_book_39 fg_X11_84 (sh_0 g2) (by decide) rfl (rf_0_10 g2) ?_
      refine am_getI 5 3 dX11_book_42 fg_X11_166 (sh_45 g2) (by decide) rfl ?_
      cases hyp
      exact am_iret dX11_book_45 rfl
    · intro hc4n
      have hc4n : ¬ ((f_X10_isFaulty M2) = 0) := hc4n
      replace hyp := it_neg hc4n hyp
      refine am_aload_n dX11_book_28 rfl ?_
      refine am_getR 11 0 1 dX11_book_29 fg_X11_10 (sh_0 g2) (by decide) rfl (rf_0_0 g2) ?_
      refine am_callV [] dX11_book_32 ml_X11_119 vm_X10_faultAnswer (sh_1 g2) rfl (fun _ => Nat.le_of_ble_eq_true rfl) (by omega) rfl (ef_X10_faultAnswer (d := d + 3) (h := (swN h 47 46)) g2  (M := M2) rfl) rfl ?_
      change am_At _ _ _ 35 [_, _] [_] _ _
      refine am_goto (10) 45 dX11_book_35 rfl ?_
      cases hyp
      exact am_iret dX11_book_45 rfl
