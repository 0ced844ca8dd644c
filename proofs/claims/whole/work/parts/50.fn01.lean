/-! METHODS AS FUNCTIONS OF THE MEMORY: loops are wh, what may fail (an index, a division, a loop without end) is none -/
theorem isb_nf {v : Int32} (h : isb v = true) : narrow .boolean (.int v) = .int v ∧ fits .boolean (.int v) = true := by
  unfold isb at h
  simp only [Bool.or_eq_true, decide_eq_true_eq] at h
  rcases h with rfl | rfl <;> exact ⟨rfl, rfl⟩
theorem it_pos {α : Type} {c : Prop} {i : Decidable c} {a b r : α} (hc : c) (h : (@ite α c i a b) = r) : a = r := by rwa [if_pos hc] at h
theorem it_neg {α : Type} {c : Prop} {i : Decidable c} {a b r : α} (hc : ¬ c) (h : (@ite α c i a b) = r) : b = r := by rwa [if_neg hc] at h
theorem gd_some {α : Type} {c : Prop} {i : Decidable c} {x : Option α} {r : α} (h : (@ite _ c i x none) = some r) : c ∧ x = some r := by
  by_cases hc : c
  · rw [if_pos hc] at h
    exact ⟨hc, h⟩
  · rw [if_neg hc] at h
    cases h
theorem bd_some {α β : Type} {x : Option α} {f : α → Option β} {r : β} (h : Option.bind x f = some r) : ∃ a, x = some a ∧ f a = some r := by
  cases x with
  | none => cases h
  | some a => exact ⟨a, rfl, h⟩
theorem am_wh {S E : Type} {B : S → Option (S ⊕ E)} {At : S → Prop} {Ex : E → Prop} (hb : ∀ s x, B s = some x → (match x with | .inl s' => At s' | .inr e => Ex e) → At s) : ∀ (n : Nat) (s : S) (e : E), wh B n s = some e → Ex e → At s
  | 0, _, _, h, _ => by cases h
  | n + 1, s, e, h, he => by
    unfold wh at h
    match hB : B s with
    | none => rw [hB] at h; cases h
    | some (.inl s') =>
      rw [hB] at h
      exact hb s _ hB (am_wh hb n s' e h he)
    | some (.inr e') =>
      rw [hB] at h
      cases h
      exact hb s _ hB he
def am_o1 (h : am_H) (x : (Int32 ⊕ String) × Mem) : am_R := match x.1 with
  | .inl a => .inl (some (am_I a), am_hM h x.2)
  | .inr E => .inr (E, am_hM h x.2)
def am_o0 (h : am_H) (x : (Int32 ⊕ String) × Mem) : am_R := match x.1 with
  | .inl _ => .inl (none, am_hM h x.2)
  | .inr E => .inr (E, am_hM h x.2)
theorem am_oc1 (h : am_H) (x : (Int32 ⊕ String) × Mem) {M : Mem} : am_nc (am_hM h M) ≤ am_rc (am_o1 h x) := by
  obtain ⟨a | a, M1⟩ := x
  · exact Nat.le_refl _
  · exact Nat.le_succ _
theorem am_os1 (h : am_H) (x : (Int32 ⊕ String) × Mem) {M : Mem} : am_ns (am_hM h M) ≤ am_rs (am_o1 h x) := by
  obtain ⟨a | a, M1⟩ := x
  · exact Nat.le_refl _
  · exact Nat.le_add_right _ 6
theorem am_oc0 (h : am_H) (x : (Int32 ⊕ String) × Mem) {M : Mem} : am_nc (am_hM h M) ≤ am_rc (am_o0 h x) := by
  obtain ⟨a | a, M1⟩ := x
  · exact Nat.le_refl _
  · exact Nat.le_succ _
theorem am_os0 (h : am_H) (x : (Int32 ⊕ String) × Mem) {M : Mem} : am_ns (am_hM h M) ≤ am_rs (am_o0 h x) := by
  obtain ⟨a | a, M1⟩ := x
  · exact Nat.le_refl _
  · exact Nat.le_add_right _ 6
theorem am_o0v {d : Nat} {mt : am_M} {as : List am_V} {h h0 : am_H} {v : Int32} {M : Mem} (k : am_Ev d mt as h0 (am_o0 h (.inl v, M))) : am_Ev d mt as h0 (.inl (none, am_hM h M)) := k
theorem am_o0t {d : Nat} {mt : am_M} {as : List am_V} {h h0 : am_H} {E : String} {M : Mem} (k : am_Ev d mt as h0 (am_o0 h (.inr E, M))) : am_Ev d mt as h0 (.inr (E, am_hM h M)) := k
theorem am_o1v {d : Nat} {mt : am_M} {as : List am_V} {h h0 : am_H} {v : Int32} {M : Mem} (k : am_Ev d mt as h0 (am_o1 h (.inl v, M))) : am_Ev d mt as h0 (.inl (some (am_I v), am_hM h M)) := k
theorem am_o1t {d : Nat} {mt : am_M} {as : List am_V} {h h0 : am_H} {E : String} {M : Mem} (k : am_Ev d mt as h0 (am_o1 h (.inr E, M))) : am_Ev d mt as h0 (.inr (E, am_hM h M)) := k
theorem eL_X0_firstCatch_4 {d : Nat} {h : am_H} (g : lay h) {M : Mem} {r : am_R} (n : Nat) : ∀ (s : Int32 × Int32) (e : Int32), wh (L_X0_firstCatch_4 M) n s = some e → ((fun (x1 : Int32) => am_At am_X0 (d + 0) mX0_firstCatch 52 [some (.inr (51, 0)), some (am_I (x1)), none, none] [] (am_hM h M) r) e) → (match s with | (x1, x2) => am_At am_X0 (d + 0) mX0_firstCatch 4 [some (.inr (51, 0)), some (am_I (x1)), some (am_I (x2)), none] [] (am_hM h M) r) := by
  refine am_wh (At := fun (s : Int32 × Int32) => match s with | (x1, x2) => am_At am_X0 (d + 0) mX0_firstCatch 4 [some (.inr (51, 0)), some (am_I (x1)), some (am_I (x2)), none] [] (am_hM h M) r) (Ex := fun (e : Int32) => (fun (x1 : Int32) => am_At am_X0 (d + 0) mX0_firstCatch 52 [some (.inr (51, 0)), some (am_I (x1)), none, none] [] (am_hM h M) r) e) ?_ n
  rintro ⟨x1, x2⟩ y hyp hx
  unfold L_X0_firstCatch_4 at hyp
  try dsimp only at hyp
  change am_At _ _ _ 4 [_, _, _, _] [] _ _
  refine am_iload_n dX0_firstCatch_4 rfl ?_
  refine am_aload_n dX0_firstCatch_5 rfl ?_
  refine am_getR 0 0 3 dX0_firstCatch_6 fg_X0_18 (sh_51 g) (by decide) rfl (rf_51_0 g) ?_
  refine am_getI 1 0 dX0_firstCatch_9 fg_X0_30 (sh_3 g) (by decide) rfl ?_
  refine am_icmp_ge (40) 52 dX0_firstCatch_12 rfl ?_ ?_
  · intro hc1
    have hc1 : (M 3 0 0) ≤ x2 := hc1
    replace hyp := it_pos hc1 hyp
    cases hyp
    refine am_At.drop 2 ?_
    exact hx
  · intro hc1n
    have hc1n : ¬ ((M 3 0 0) ≤ x2) := hc1n
    replace hyp := it_neg hc1n hyp
    refine am_aload_n dX0_firstCatch_15 rfl ?_
    refine am_getR 0 2 53 dX0_firstCatch_16 fg_X0_15 (sh_51 g) (by decide) rfl (rf_51_2 g) ?_
    refine am_iload_n dX0_firstCatch_19 rfl ?_
    obtain ⟨hg2, hyp⟩ := gd_some hyp
    refine am_iald dX0_firstCatch_20 (am_ia.one (sh_53 g)) (am_lit hg2) ?_
    refine am_istore_n dX0_firstCatch_21 (am_lb rfl) ?_
    change am_At _ _ _ 22 [_, _, _, _] [] _ _
    refine am_iload_n dX0_firstCatch_22 rfl ?_
    refine am_iload_n dX0_firstCatch_23 rfl ?_
    refine am_if_le (19) 43 dX0_firstCatch_24 rfl ?_ ?_
    · intro hc3
      have hc3 : (M 53 0 x2.toNatClampNeg) ≤ 0 := hc3
      replace hyp := it_pos hc3 hyp
      refine am_iconst 0 (v := 0) dX0_firstCatch_43 (by decide) ?_
      refine am_iadd dX0_firstCatch_44 ?_
      refine am_istore_n dX0_firstCatch_45 (am_lb rfl) ?_
      change am_At _ _ _ 46 [_, _, _, _] [] _ _
      refine am_iinc dX0_firstCatch_46 rfl (am_ix _) ?_
      change am_At _ _ _ 49 [_, _, _, _] [] _ _
      refine am_goto (-45) 4 dX0_firstCatch_49 rfl ?_
      cases hyp
      refine am_At.drop 3 ?_
      exact hx
    · intro hc3n
      have hc3n : ¬ ((M 53 0 x2.toNatClampNeg) ≤ 0) := hc3n
      replace hyp := it_neg hc3n hyp
      refine am_aload_n dX0_firstCatch_27 rfl ?_
      refine am_getR 0 0 3 dX0_firstCatch_28 fg_X0_18 (sh_51 g) (by decide) rfl (rf_51_0 g) ?_
      refine am_getR 1 4 7 dX0_firstCatch_31 fg_X0_42 (sh_3 g) (by decide) rfl (rf_3_4 g) ?_
      refine am_iload_n dX0_firstCatch_34 rfl ?_
      refine am_iald dX0_firstCatch_35 (am_ia.one (sh_7 g)) (am_lit hg2) ?_
      refine am_iload_n dX0_firstCatch_36 rfl ?_
      obtain ⟨hg4, hyp⟩ := gd_some hyp
      refine am_idiv dX0_firstCatch_37 hg4 ?_
      refine am_iload_n dX0_firstCatch_38 rfl ?_
      refine am_imul dX0_firstCatch_39 ?_
      refine am_goto (4) 44 dX0_firstCatch_40 rfl ?_
      refine am_iadd dX0_firstCatch_44 ?_
      refine am_istore_n dX0_firstCatch_45 (am_lb rfl) ?_
      change am_At _ _ _ 46 [_, _, _, _] [] _ _
      refine am_iinc dX0_firstCatch_46 rfl (am_ix _) ?_
      change am_At _ _ _ 49 [_, _, _, _] [] _ _
      refine am_goto (-45) 4 dX0_firstCatch_49 rfl ?_
      cases hyp
      refine am_At.drop 3 ?_
      exact hx
theorem ef_X0_firstCatch {d : Nat} {h : am_H} (g : lay h) {M : Mem} {v : Int32} (hyp : f_X0_firstCatch M = some v) : am_Ev (d + 0) mX0_firstCatch [.inr (51, 0)] (am_hM h M) (.inl (some (am_I v), am_hM h M)) := by
  unfold f_X0_firstCatch at hyp
  refine am_Ev.mk (by decide +kernel) rfl rfl (Nat.le_refl _) (Nat.le_refl _) ?_
  change am_At _ _ _ 0 [_, _, _, _] [] _ _
  refine am_iconst 0 (v := 0) dX0_firstCatch_0 (by decide) ?_
  refine am_istore_n dX0_firstCatch_1 (am_lb rfl) ?_
  change am_At _ _ _ 2 [_, _, _, _] [] _ _
  refine am_iconst 0 (v := 0) dX0_firstCatch_2 (by decide) ?_
  refine am_istore_n dX0_firstCatch_3 (am_lb rfl) ?_
  change am_At _ _ _ 4 [_, _, _, _] [] _ _
  obtain ⟨x1_5, hw5, hyp⟩ := bd_some hyp
  try dsimp only at hyp
  refine eL_X0_firstCatch_4 (d := d) (h := h) g (M := M) FU ((0 : Int32), (0 : Int32)) x1_5 hw5 ?_
  change am_At _ _ _ 52 [_, _, _, _] [] _ _
  refine am_aload_n dX0_firstCatch_52 rfl ?_
  refine am_getI 0 3 dX0_firstCatch_53 fg_X0_22 (sh_51 g) (by decide) rfl ?_
  refine am_if_ne (7) 63 dX0_firstCatch_56 rfl ?_ ?_
  · intro hc6n
    have hc6n : ¬ ((M 51 0 3) = 0) := hc6n
    replace hyp := it_neg hc6n hyp
    refine am_iload_n dX0_firstCatch_63 rfl ?_
    cases hyp
    exact am_iret dX0_firstCatch_64 rfl
  · intro hc6
    have hc6 : (M 51 0 3) = 0 := hc6
    replace hyp := it_pos hc6 hyp
    refine am_iconst (-1) (v := (-1)) dX0_firstCatch_59 (by decide) ?_
    refine am_goto (4) 64 dX0_firstCatch_60 rfl ?_
    cases hyp
    exact am_iret dX0_firstCatch_64 rfl
theorem eL_X0_isRest_7 {d : Nat} {h : am_H} (g : lay h) {M : Mem} {r : am_R} (n : Nat) : ∀ (s : Int32 × Int32 × Int32) (e : Int32 × Int32), wh (L_X0_isRest_7 M) n s = some e → (match e with | (x1, x2) => am_At am_X0 (d + 0) mX0_isRest 73 [some (.inr (51, 0)), some (am_I (x1)), some (am_I (x2)), none, none] [] (am_hM h M) r) → (match s with | (x1, x2, x3) => am_At am_X0 (d + 0) mX0_isRest 7 [some (.inr (51, 0)), some (am_I (x1)), some (am_I (x2)), some (am_I (x3)), none] [] (am_hM h M) r) := by
  refine am_wh (At := fun (s : Int32 × Int32 × Int32) => match s with | (x1, x2, x3) => am_At am_X0 (d + 0) mX0_isRest 7 [some (.inr (51, 0)), some (am_I (x1)), some (am_I (x2)), some (am_I (x3)), none] [] (am_hM h M) r) (Ex := fun (e : Int32 × Int32) => match e with | (x1, x2) => am_At am_X0 (d + 0) mX0_isRest 73 [some (.inr (51, 0)), some (am_I (x1)), some (am_I (x2)), none, none] [] (am_hM h M) r) ?_ n
  rintro ⟨x1, x2, x3⟩ y hyp hx
  unfold L_X0_isRest_7 at hyp
  try dsimp only at hyp
  change am_At _ _ _ 7 [_, _, _, _, _] [] _ _
  refine am_iload_n dX0_isRest_7 rfl ?_
  refine am_aload_n dX0_isRest_8 rfl ?_
  refine am_getR 0 0 3 dX0_isRest_9 fg_X0_18 (sh_51 g) (by decide) rfl (rf_51_0 g) ?_
  refine am_getI 1 0 dX0_isRest_12 fg_X0_30 (sh_3 g) (by decide) rfl ?_
  refine am_icmp_ge (58) 73 dX0_isRest_15 rfl ?_ ?_
  · intro hc1
    have hc1 : (M 3 0 0) ≤ x3 := hc1
    replace hyp := it_pos hc1 hyp
    cases hyp
    refine am_At.drop 3 ?_
    exact hx
  · intro hc1n
    have hc1n : ¬ ((M 3 0 0) ≤ x3) := hc1n
    replace hyp := it_neg hc1n hyp
    refine am_aload_n dX0_isRest_18 rfl ?_
    refine am_getR 0 1 52 dX0_isRest_19 fg_X0_9 (sh_51 g) (by decide) rfl (rf_51_1 g) ?_
    refine am_iload_n dX0_isRest_22 rfl ?_
    obtain ⟨hg2, hyp⟩ := gd_some hyp
    refine am_iald dX0_isRest_23 (am_ia.one (sh_52 g)) (am_lit hg2) ?_
    refine am_istore dX0_isRest_24 (am_lb rfl) ?_
    change am_At _ _ _ 26 [_, _, _, _, _] [] _ _
    refine am_iload dX0_isRest_26 rfl ?_
    refine am_if_le (20) 48 dX0_isRest_28 rfl ?_ ?_
    · intro hc3
      have hc3 : (M 52 0 x3.toNatClampNeg) ≤ 0 := hc3
      replace hyp := it_pos hc3 hyp
      refine am_iload_n dX0_isRest_48 rfl ?_
      refine am_aload_n dX0_isRest_49 rfl ?_
      refine am_getR 0 0 3 dX0_isRest_50 fg_X0_18 (sh_51 g) (by decide) rfl (rf_51_0 g) ?_
      refine am_getR 1 4 7 dX0_isRest_53 fg_X0_42 (sh_3 g) (by decide) rfl (rf_3_4 g) ?_
      refine am_iload_n dX0_isRest_56 rfl ?_
      refine am_iald dX0_isRest_57 (am_ia.one (sh_7 g)) (am_lit hg2) ?_
      refine am_iload dX0_isRest_58 rfl ?_
      refine am_iconst 1 (v := 1) dX0_isRest_60 (by decide) ?_
      refine am_iadd dX0_isRest_61 ?_
      obtain ⟨hg4, hyp⟩ := gd_some hyp
      refine am_idiv dX0_isRest_62 hg4 ?_
      refine am_max dX0_isRest_63 ml_X0_51 (fun _ => Nat.le_of_ble_eq_true rfl) ?_
      refine am_istore_n dX0_isRest_66 (am_lb rfl) ?_
      change am_At _ _ _ 67 [_, _, _, _, _] [] _ _
      refine am_iinc dX0_isRest_67 rfl (am_ix _) ?_
      change am_At _ _ _ 70 [_, _, _, _, _] [] _ _
      refine am_goto (-63) 7 dX0_isRest_70 rfl ?_
      cases hyp
      refine am_At.drop 4 ?_
      exact hx
    · intro hc3n
      have hc3n : ¬ ((M 52 0 x3.toNatClampNeg) ≤ 0) := hc3n
      replace hyp := it_neg hc3n hyp
      refine am_iload_n dX0_isRest_31 rfl ?_
      refine am_aload_n dX0_isRest_32 rfl ?_
      refine am_getR 0 0 3 dX0_isRest_33 fg_X0_18 (sh_51 g) (by decide) rfl (rf_51_0 g) ?_
      refine am_getR 1 4 7 dX0_isRest_36 fg_X0_42 (sh_3 g) (by decide) rfl (rf_3_4 g) ?_
      refine am_iload_n dX0_isRest_39 rfl ?_
      refine am_iald dX0_isRest_40 (am_ia.one (sh_7 g)) (am_lit hg2) ?_
      refine am_iload dX0_isRest_41 rfl ?_
      obtain ⟨hg5, hyp⟩ := gd_some hyp
      refine am_idiv dX0_isRest_43 hg5 ?_
      refine am_min dX0_isRest_44 ml_X0_45 (fun _ => Nat.le_of_ble_eq_true rfl) ?_
      refine am_istore_n dX0_isRest_47 (am_lb rfl) ?_
      change am_At _ _ _ 48 [_, _, _, _, _] [] _ _
      refine am_iload_n dX0_isRest_48 rfl ?_
      refine am_aload_n dX0_isRest_49 rfl ?_
      refine am_getR 0 0 3 dX0_isRest_50 fg_X0_18 (sh_51 g) (by decide) rfl (rf_51_0 g) ?_
      refine am_getR 1 4 7 dX0_isRest_53 fg_X0_42 (sh_3 g) (by decide) rfl (rf_3_4 g) ?_
      refine am_iload_n dX0_isRest_56 rfl ?_
      refine am_iald dX0_isRest_57 (am_ia.one (sh_7 g)) (am_lit hg2) ?_
      refine am_iload dX0_isRest_58 rfl ?_
      refine am_iconst 1 (v := 1) dX0_isRest_60 (by decide) ?_
      refine am_iadd dX0_isRest_61 ?_
      obtain ⟨hg6, hyp⟩ := gd_some hyp
      refine am_idiv dX0_isRest_62 hg6 ?_
      refine am_max dX0_isRest_63 ml_X0_51 (fun _ => Nat.le_of_ble_eq_true rfl) ?_
      refine am_istore_n dX0_isRest_66 (am_lb rfl) ?_
      change am_At _ _ _ 67 [_, _, _, _, _] [] _ _
      refine am_iinc dX0_isRest_67 rfl (am_ix _) ?_
      change am_At _ _ _ 70 [_, _, _, _, _] [] _ _
      refine am_goto (-63) 7 dX0_isRest_70 rfl ?_
      cases hyp
      refine am_At.drop 4 ?_
      exact hx
theorem ef_X0_isRest {d : Nat} {h : am_H} (g : lay h) {M : Mem} {v : Int32} (hyp : f_X0_isRest M = some v) : am_Ev (d + 0) mX0_isRest [.inr (51, 0)] (am_hM h M) (.inl (some (am_I v), am_hM h M)) := by
  unfold f_X0_isRest at hyp
  refine am_Ev.mk (by decide +kernel) rfl rfl (Nat.le_refl _) (Nat.le_refl _) ?_
  change am_At _ _ _ 0 [_, _, _, _, _] [] _ _
  refine am_bipush 40 (v := 40) dX0_isRest_0 (by decide) ?_
  refine am_istore_n dX0_isRest_2 (am_lb rfl) ?_
  change am_At _ _ _ 3 [_, _, _, _, _] [] _ _
  refine am_iconst 0 (v := 0) dX0_isRest_3 (by decide) ?_
  refine am_istore_n dX0_isRest_4 (am_lb rfl) ?_
  change am_At _ _ _ 5 [_, _, _, _, _] [] _ _
  refine am_iconst 0 (v := 0) dX0_isRest_5 (by decide) ?_
  refine am_istore_n dX0_isRest_6 (am_lb rfl) ?_
  change am_At _ _ _ 7 [_, _, _, _, _] [] _ _
  obtain ⟨⟨x1_7, x2_7⟩, hw7, hyp⟩ := bd_some hyp
  try dsimp only at hyp
  refine eL_X0_isRest_7 (d := d) (h := h) g (M := M) FU ((40 : Int32), (0 : Int32), (0 : Int32)) (x1_7, x2_7) hw7 ?_
  change am_At _ _ _ 73 [_, _, _, _, _] [] _ _
  refine am_iload_n dX0_isRest_73 rfl ?_
  refine am_iload_n dX0_isRest_74 rfl ?_
  refine am_icmp_lt (7) 82 dX0_isRest_75 rfl ?_ ?_
  · intro hc8
    have hc8 : x1_7 < x2_7 := hc8
    replace hyp := it_pos hc8 hyp
    refine am_iconst 0 (v := 0) dX0_isRest_82 (by decide) ?_
    cases hyp
    exact am_zret dX0_isRest_83 rfl rfl
  · intro hc8n
    have hc8n : ¬ (x1_7 < x2_7) := hc8n
    replace hyp := it_neg hc8n hyp
    refine am_iconst 1 (v := 1) dX0_isRest_78 (by decide) ?_
    refine am_goto (4) 83 dX0_isRest_79 rfl ?_
    cases hyp
    exact am_zret dX0_isRest_83 rfl rfl
theorem ef_X0_keepFirst {d : Nat} {h : am_H} (g : lay h) {M : Mem} {M' : Mem} (hyp : f_X0_keepFirst M = M') : am_Ev (d + 0) mX0_keepFirst [.inr (51, 0)] (am_hM h M) (.inl (none, am_hM h M')) := by
  unfold f_X0_keepFirst at hyp
  refine am_Ev.mk (by decide +kernel) rfl rfl (Nat.le_refl _) (Nat.le_refl _) ?_
  change am_At _ _ _ 0 [_] [] _ _
  refine am_aload_n dX0_keepFirst_0 rfl ?_
  refine am_getI 0 3 dX0_keepFirst_1 fg_X0_22 (sh_51 g) (by decide) rfl ?_
  refine am_if_ne (18) 22 dX0_keepFirst_4 rfl ?_ ?_
  · intro hc1n
    have hc1n : ¬ ((M 51 0 3) = 0) := hc1n
    replace hyp := it_neg hc1n hyp
    cases hyp
    exact am_vret dX0_keepFirst_22 rfl
  · intro hc1
    have hc1 : (M 51 0 3) = 0 := hc1
    replace hyp := it_pos hc1 hyp
    refine am_aload_n dX0_keepFirst_7 rfl ?_
    refine am_getR 0 1 52 dX0_keepFirst_8 fg_X0_9 (sh_51 g) (by decide) rfl (rf_51_1 g) ?_
    refine am_iconst 0 (v := 0) dX0_keepFirst_11 (by decide) ?_
    refine am_aload_n dX0_keepFirst_12 rfl ?_
    refine am_getR 0 2 53 dX0_keepFirst_13 fg_X0_15 (sh_51 g) (by decide) rfl (rf_51_2 g) ?_
    refine am_iconst 0 (v := 0) dX0_keepFirst_16 (by decide) ?_
    refine am_bipush 16 (v := 16) dX0_keepFirst_17 (by decide) ?_
    refine am_copy dX0_keepFirst_19 ml_X0_54 (am_ia.one (sh_52 g)) (am_ia.one (sh_53 g)) (by decide) (by decide) (by decide) (by decide) (by decide) (fun _ => Nat.le_of_ble_eq_true rfl) ?_
    change am_At _ _ _ 22 [_] [] (am_hM h (am_cp M 52 0 0 53 0 0 16)) _
    cases hyp
    exact am_vret dX0_keepFirst_22 rfl
theorem ef_X10_blame {d : Nat} {h : am_H} (g : lay h) {x1 x2 : Int32} {M : Mem} {M' : Mem} (hyp : f_X10_blame x1 x2 M = M') : am_Ev (d + 0) mX10_blame [.inr (1, 0), am_I x1, am_I x2] (am_hM h M) (.inl (none, am_hM h M')) := by
  unfold f_X10_blame at hyp
  refine am_Ev.mk (by decide +kernel) rfl rfl (Nat.le_refl _) (Nat.le_refl _) ?_
  change am_At _ _ _ 0 [_, _, _] [] _ _
  refine am_aload_n dX10_blame_0 rfl ?_
  refine am_getI 10 5 dX10_blame_1 fg_X10_34 (sh_1 g) (by decide) rfl ?_
  refine am_if_ne (13) 17 dX10_blame_4 rfl ?_ ?_
  · intro hc1n
    have hc1n : ¬ ((M 1 0 5) = 0) := hc1n
    replace hyp := it_neg hc1n hyp
    cases hyp
    exact am_vret dX10_blame_17 rfl
  · intro hc1
    have hc1 : (M 1 0 5) = 0 := hc1
    replace hyp := it_pos hc1 hyp
    refine am_aload_n dX10_blame_7 rfl ?_
    refine am_iload_n dX10_blame_8 rfl ?_
    refine am_putI 10 5 dX10_blame_9 (Or.inl fp_X10_34) (sh_1 g) (by decide) rfl rfl rfl ?_
    refine am_aload_n dX10_blame_12 rfl ?_
    refine am_iload_n dX10_blame_13 rfl ?_
    refine am_putI 10 6 dX10_blame_14 (Or.inl fp_X10_15) (sh_1 g) (by decide) rfl rfl rfl ?_
    cases hyp
    exact am_vret dX10_blame_17 rfl
theorem ef_X10_blameToken {d : Nat} {h : am_H} (g : lay h) {x1 : Int32} {M : Mem} {M' : Mem} (hyp : f_X10_blameToken x1 M = M') : am_Ev (d + 1) mX10_blameToken [.inr (1, 0), am_I x1] (am_hM h M) (.inl (none, am_hM h M')) := by
  unfold f_X10_blameToken at hyp
  refine am_Ev.mk (by decide +kernel) rfl rfl (Nat.le_refl _) (Nat.le_refl _) ?_
  change am_At _ _ _ 0 [_, _] [] _ _
  refine am_aload_n dX10_blameToken_0 rfl ?_
  refine am_iload_n dX10_blameToken_1 rfl ?_
  refine am_aload_n dX10_blameToken_2 rfl ?_
  refine am_getI 10 4 dX10_blameToken_3 fg_X10_37 (sh_1 g) (by decide) rfl ?_
  refine am_callV [_, _] dX10_blameToken_6 ml_X10_40 vm_X10_blame (sh_1 g) rfl (fun _ => Nat.le_of_ble_eq_true rfl) (by omega) rfl (ef_X10_blame (d := d + 0) (h := h) g (x1 := x1) (x2 := (M 1 0 4)) (M := M) rfl) rfl ?_
  change am_At _ _ _ 9 [_, _] [] _ _
  cases hyp
  exact am_vret dX10_blameToken_9 rfl
theorem ef_X10_faultAnswer {d : Nat} {h : am_H} (g : lay h) {M : Mem} {v : Int32} (hyp : f_X10_faultAnswer M = v) : am_Ev (d + 0) mX10_faultAnswer [.inr (1, 0)] (am_hM h M) (.inl (some (am_I v), am_hM h M)) := by
  unfold f_X10_faultAnswer at hyp
  refine am_Ev.mk (by decide +kernel) rfl rfl (Nat.le_refl _) (Nat.le_refl _) ?_
  change am_At _ _ _ 0 [_] [] _ _
  refine am_aload_n dX10_faultAnswer_0 rfl ?_
  refine am_getI 10 5 dX10_faultAnswer_1 fg_X10_34 (sh_1 g) (by decide) rfl ?_
  refine am_bipush 10 (v := 10) dX10_faultAnswer_4 (by decide) ?_
  refine am_isub dX10_faultAnswer_6 ?_
  cases hyp
  exact am_iret dX10_faultAnswer_7 rfl
theorem isb_X10_hasRoom (x1 : Int32) (M : Mem) : isb (f_X10_hasRoom x1 M) = true := by
  unfold f_X10_hasRoom
  (repeat' split) <;> rfl
theorem ef_X10_hasRoom {d : Nat} {h : am_H} (g : lay h) {x1 : Int32} {M : Mem} {v : Int32} (hyp : f_X10_hasRoom x1 M = v) : am_Ev (d + 0) mX10_hasRoom [.inr (1, 0), am_I x1] (am_hM h M) (.inl (some (am_I v), am_hM h M)) := by
  unfold f_X10_hasRoom at hyp
  refine am_Ev.mk (by decide +kernel) rfl rfl (Nat.le_refl _) (Nat.le_refl _) ?_
  change am_At _ _ _ 0 [_, _] [] _ _
  refine am_aload_n dX10_hasRoom_0 rfl ?_
  refine am_getI 10 1 dX10_hasRoom_1 fg_X10_19 (sh_1 g) (by decide) rfl ?_
  refine am_iload_n dX10_hasRoom_4 rfl ?_
  refine am_iadd dX10_hasRoom_5 ?_
  refine am_aload_n dX10_hasRoom_6 rfl ?_
  refine am_getR 10 0 2 dX10_hasRoom_7 fg_X10_9 (sh_1 g) (by decide) rfl (rf_1_0 g) ?_
  refine am_blen dX10_hasRoom_10 (sh_2 g) rfl ?_
  refine am_icmp_gt (7) 18 dX10_hasRoom_11 rfl ?_ ?_
  · intro hc1
    have hc1 : (600 : Int32) < ((M 1 0 1) + x1) := hc1
    replace hyp := it_pos hc1 hyp
    refine am_iconst 0 (v := 0) dX10_hasRoom_18 (by decide) ?_
    cases hyp
    exact am_zret dX10_hasRoom_19 rfl rfl
  · intro hc1n
    have hc1n : ¬ ((600 : Int32) < ((M 1 0 1) + x1)) := hc1n
    replace hyp := it_neg hc1n hyp
    refine am_iconst 1 (v := 1) dX10_hasRoom_14 (by decide) ?_
    refine am_goto (4) 19 dX10_hasRoom_15 rfl ?_
    cases hyp
    exact am_zret dX10_hasRoom_19 rfl rfl
theorem isb_X10_isFaulty (M : Mem) : isb (f_X10_isFaulty M) = true := by
  unfold f_X10_isFaulty
  (repeat' split) <;> rfl
theorem ef_X10_isFaulty {d : Nat} {h : am_H} (g : lay h) {M : Mem} {v : Int32} (hyp : f_X10_isFaulty M = v) : am_Ev (d + 0) mX10_isFaulty [.inr (1, 0)] (am_hM h M) (.inl (some (am_I v), am_hM h M)) := by
  unfold f_X10_isFaulty at hyp
  refine am_Ev.mk (by decide +kernel) rfl rfl (Nat.le_refl _) (Nat.le_refl _) ?_
  change am_At _ _ _ 0 [_] [] _ _
  refine am_aload_n dX10_isFaulty_0 rfl ?_
  refine am_getI 10 5 dX10_isFaulty_1 fg_X10_34 (sh_1 g) (by decide) rfl ?_
  refine am_if_eq (7) 11 dX10_isFaulty_4 rfl ?_ ?_
  · intro hc1
    have hc1 : (M 1 0 5) = 0 := hc1
    replace hyp := it_pos hc1 hyp
    refine am_iconst 0 (v := 0) dX10_isFaulty_11 (by decide) ?_
    cases hyp
    exact am_zret dX10_isFaulty_12 rfl rfl
  · intro hc1n
    have hc1n : ¬ ((M 1 0 5) = 0) := hc1n
    replace hyp := it_neg hc1n hyp
    refine am_iconst 1 (v := 1) dX10_isFaulty_7 (by decide) ?_
    refine am_goto (4) 12 dX10_isFaulty_8 rfl ?_
    cases hyp
    exact am_zret dX10_isFaulty_12 rfl rfl
theorem eL_X10_next_0 {d : Nat} {h : am_H} (g : lay h) {r : am_R} (n : Nat) : ∀ (s : Mem) (e : Mem), wh (L_X10_next_0) n s = some e → ((fun (M : Mem) => am_At am_X0 (d + 0) mX10_next 38 [some (.inr (1, 0))] [] (am_hM h M) r) e) → ((fun (M : Mem) => am_At am_X0 (d + 0) mX10_next 0 [some (.inr (1, 0))] [] (am_hM h M) r) s) := by
  refine am_wh (At := fun (s : Mem) => (fun (M : Mem) => am_At am_X0 (d + 0) mX10_next 0 [some (.inr (1, 0))] [] (am_hM h M) r) s) (Ex := fun (e : Mem) => (fun (M : Mem) => am_At am_X0 (d + 0) mX10_next 38 [some (.inr (1, 0))] [] (am_hM h M) r) e) ?_ n
  rintro M y hyp hx
  unfold L_X10_next_0 at hyp
  try dsimp only at hyp
  change am_At _ _ _ 0 [_] [] _ _
  refine am_aload_n dX10_next_0 rfl ?_
  refine am_getI 10 3 dX10_next_1 fg_X10_31 (sh_1 g) (by decide) rfl ?_
  refine am_aload_n dX10_next_4 rfl ?_
  refine am_getI 10 2 dX10_next_5 fg_X10_28 (sh_1 g) (by decide) rfl ?_
  refine am_icmp_ge (30) 38 dX10_next_8 rfl ?_ ?_
  · intro hc1
    have hc1 : (M 1 0 2) ≤ (M 1 0 3) := hc1
    replace hyp := it_pos hc1 hyp
    cases hyp
    exact hx
  · intro hc1n
    have hc1n : ¬ ((M 1 0 2) ≤ (M 1 0 3)) := hc1n
    replace hyp := it_neg hc1n hyp
    refine am_aload_n dX10_next_11 rfl ?_
    refine am_getR 10 0 2 dX10_next_12 fg_X10_9 (sh_1 g) (by decide) rfl (rf_1_0 g) ?_
    refine am_aload_n dX10_next_15 rfl ?_
    refine am_getI 10 3 dX10_next_16 fg_X10_31 (sh_1 g) (by decide) rfl ?_
    obtain ⟨hg2, hyp⟩ := gd_some hyp
    refine am_bald dX10_next_19 (sh_2 g) (am_lit hg2) ?_
    refine am_bipush 32 (v := 32) dX10_next_20 (by decide) ?_
    refine am_icmp_ne (16) 38 dX10_next_22 rfl ?_ ?_
    · intro hc3n
      have hc3n : ¬ ((M 2 0 ((M 1 0 3).toNatClampNeg)) = (32 : Int32)) := hc3n
      replace hyp := it_neg hc3n hyp
      cases hyp
      exact hx
    · intro hc3
      have hc3 : (M 2 0 ((M 1 0 3).toNatClampNeg)) = (32 : Int32) := hc3
      replace hyp := it_pos hc3 hyp
      refine am_aload_n dX10_next_25 rfl ?_
      refine am_dup dX10_next_26 (fun _ => rfl) ?_
      refine am_getI 10 3 dX10_next_27 fg_X10_31 (sh_1 g) (by decide) rfl ?_
      refine am_iconst 1 (v := 1) dX10_next_30 (by decide) ?_
      refine am_iadd dX10_next_31 ?_
      refine am_putI 10 3 dX10_next_32 (Or.inl fp_X10_31) (sh_1 g) (by decide) rfl rfl rfl ?_
      refine am_goto (-35) 0 dX10_next_35 rfl ?_
      cases hyp
      exact hx
theorem ef_X10_next {d : Nat} {h : am_H} (g : lay h) {M : Mem} {v : Int32} {M' : Mem} (hyp : f_X10_next M = some (v, M')) : am_Ev (d + 0) mX10_next [.inr (1, 0)] (am_hM h M) (.inl (some (am_I v), am_hM h M')) := by
  unfold f_X10_next at hyp
  refine am_Ev.mk (by decide +kernel) rfl rfl (Nat.le_refl _) (Nat.le_refl _) ?_
  change am_At _ _ _ 0 [_] [] _ _
  obtain ⟨M4, hw4, hyp⟩ := bd_some hyp
  try dsimp only at hyp
  refine eL_X10_next_0 (d := d) (h := h) g  FU M M4 hw4 ?_
  change am_At _ _ _ 38 [_] [] _ _
  refine am_aload_n dX10_next_38 rfl ?_
  refine am_getI 10 3 dX10_next_39 fg_X10_31 (sh_1 g) (by decide) rfl ?_
  refine am_aload_n dX10_next_42 rfl ?_
  refine am_getI 10 2 dX10_next_43 fg_X10_28 (sh_1 g) (by decide) rfl ?_
  refine am_icmp_ge (19) 65 dX10_next_46 rfl ?_ ?_
  · intro hc5
    have hc5 : (M4 1 0 2) ≤ (M4 1 0 3) := hc5
    replace hyp := it_pos hc5 hyp
    refine am_iconst (-1) (v := (-1)) dX10_next_65 (by decide) ?_
    cases hyp
    exact am_iret dX10_next_66 rfl
  · intro hc5n
    have hc5n : ¬ ((M4 1 0 2) ≤ (M4 1 0 3)) := hc5n
    replace hyp := it_neg hc5n hyp
    refine am_aload_n dX10_next_49 rfl ?_
    refine am_getR 10 0 2 dX10_next_50 fg_X10_9 (sh_1 g) (by decide) rfl (rf_1_0 g) ?_
    refine am_aload_n dX10_next_53 rfl ?_
    refine am_getI 10 3 dX10_next_54 fg_X10_31 (sh_1 g) (by decide) rfl ?_
    obtain ⟨hg6, hyp⟩ := gd_some hyp
    refine am_bald dX10_next_57 (sh_2 g) (am_lit hg6) ?_
    refine am_sipush 255 (v := 255) dX10_next_58 (by decide) ?_
    refine am_iand dX10_next_61 ?_
    refine am_goto (4) 66 dX10_next_62 rfl ?_
    cases hyp
    exact am_iret dX10_next_66 rfl
theorem eL_X10_number_15 {d : Nat} {h : am_H} (g : lay h) {x1 x2 : Int32} {r : am_R} (n : Nat) : ∀ (s : Int32 × Mem) (e : Int32 × Mem), wh (L_X10_number_15) n s = some e → (match e with | (x3, M) => am_At am_X0 (d + 1) mX10_number 90 [some (.inr (1, 0)), some (am_I (x1)), some (am_I (x2)), some (am_I (x3))] [] (am_hM h M) r) → (match s with | (x3, M) => am_At am_X0 (d + 1) mX10_number 15 [some (.inr (1, 0)), some (am_I (x1)), some (am_I (x2)), some (am_I (x3))] [] (am_hM h M) r) := by
  refine am_wh (At := fun (s : Int32 × Mem) => match s with | (x3, M) => am_At am_X0 (d + 1) mX10_number 15 [some (.inr (1, 0)), some (am_I (x1)), some (am_I (x2)), some (am_I (x3))] [] (am_hM h M) r) (Ex := fun (e : Int32 × Mem) => match e with | (x3, M) => am_At am_X0 (d + 1) mX10_number 90 [some (.inr (1, 0)), some (am_I (x1)), some (am_I (x2)), some (am_I (x3))] [] (am_hM h M) r) ?_ n
  rintro ⟨x3, M⟩ y hyp hx
  unfold L_X10_number_15 at hyp
  try dsimp only at hyp
  change am_At _ _ _ 15 [_, _, _, _] [] _ _
  refine am_aload_n dX10_number_15 rfl ?_
  refine am_getI 10 3 dX10_number_16 fg_X10_31 (sh_1 g) (by decide) rfl ?_
  refine am_aload_n dX10_number_19 rfl ?_
  refine am_getI 10 2 dX10_number_20 fg_X10_28 (sh_1 g) (by decide) rfl ?_
  refine am_icmp_ge (67) 90 dX10_number_23 rfl ?_ ?_
  · intro hc2
    have hc2 : (M 1 0 2) ≤ (M 1 0 3) := hc2
    replace hyp := it_pos hc2 hyp
    cases hyp
    exact hx
  · intro hc2n
    have hc2n : ¬ ((M 1 0 2) ≤ (M 1 0 3)) := hc2n
    replace hyp := it_neg hc2n hyp
    refine am_aload_n dX10_number_26 rfl ?_
    refine am_getR 10 0 2 dX10_number_27 fg_X10_9 (sh_1 g) (by decide) rfl (rf_1_0 g) ?_
    refine am_aload_n dX10_number_30 rfl ?_
    refine am_getI 10 3 dX10_number_31 fg_X10_31 (sh_1 g) (by decide) rfl ?_
    obtain ⟨hg3, hyp⟩ := gd_some hyp
    refine am_bald dX10_number_34 (sh_2 g) (am_lit hg3) ?_
    refine am_bipush 48 (v := 48) dX10_number_35 (by decide) ?_
    refine am_icmp_lt (53) 90 dX10_number_37 rfl ?_ ?_
    · intro hc4
      have hc4 : (M 2 0 ((M 1 0 3).toNatClampNeg)) < (48 : Int32) := hc4
      replace hyp := it_pos hc4 hyp
      cases hyp
      exact hx
    · intro hc4n
      have hc4n : ¬ ((M 2 0 ((M 1 0 3).toNatClampNeg)) < (48 : Int32)) := hc4n
      replace hyp := it_neg hc4n hyp
      refine am_aload_n dX10_number_40 rfl ?_
      refine am_getR 10 0 2 dX10_number_41 fg_X10_9 (sh_1 g) (by decide) rfl (rf_1_0 g) ?_
      refine am_aload_n dX10_number_44 rfl ?_
      refine am_getI 10 3 dX10_number_45 fg_X10_31 (sh_1 g) (by decide) rfl ?_
      refine am_bald dX10_number_48 (sh_2 g) (am_lit hg3) ?_
      refine am_bipush 57 (v := 57) dX10_number_49 (by decide) ?_
      refine am_icmp_gt (39) 90 dX10_number_51 rfl ?_ ?_
      · intro hc5
        have hc5 : (57 : Int32) < (M 2 0 ((M 1 0 3).toNatClampNeg)) := hc5
        replace hyp := it_pos hc5 hyp
        cases hyp
        exact hx
      · intro hc5n
        have hc5n : ¬ ((57 : Int32) < (M 2 0 ((M 1 0 3).toNatClampNeg))) := hc5n
        replace hyp := it_neg hc5n hyp
        refine am_iload_n dX10_number_54 rfl ?_
        refine am_bipush 10 (v := 10) dX10_number_55 (by decide) ?_
        refine am_imul dX10_number_57 ?_
        refine am_aload_n dX10_number_58 rfl ?_
        refine am_getR 10 0 2 dX10_number_59 fg_X10_9 (sh_1 g) (by decide) rfl (rf_1_0 g) ?_
        refine am_aload_n dX10_number_62 rfl ?_
        refine am_getI 10 3 dX10_number_63 fg_X10_31 (sh_1 g) (by decide) rfl ?_
        refine am_bald dX10_number_66 (sh_2 g) (am_lit hg3) ?_
        refine am_iadd dX10_number_67 ?_
        refine am_bipush 48 (v := 48) dX10_number_68 (by decide) ?_
        refine am_isub dX10_number_70 ?_
        refine am_ldcI dX10_number_71 kc_X10_60 ?_
        refine am_min dX10_number_73 ml_X10_22 (fun _ => Nat.le_of_ble_eq_true rfl) ?_
        refine am_istore_n dX10_number_76 (am_lb rfl) ?_
        change am_At _ _ _ 77 [_, _, _, _] [] _ _
        refine am_aload_n dX10_number_77 rfl ?_
        refine am_dup dX10_number_78 (fun _ => rfl) ?_
        refine am_getI 10 3 dX10_number_79 fg_X10_31 (sh_1 g) (by decide) rfl ?_
        refine am_iconst 1 (v := 1) dX10_number_82 (by decide) ?_
        refine am_iadd dX10_number_83 ?_
        refine am_putI 10 3 dX10_number_84 (Or.inl fp_X10_31) (sh_1 g) (by decide) rfl rfl rfl ?_
        refine am_goto (-72) 15 dX10_number_87 rfl ?_
        cases hyp
        exact hx
theorem ef_X10_number {d : Nat} {h : am_H} (g : lay h) {x1 x2 : Int32} {M : Mem} {v : Int32} {M' : Mem} (hyp : f_X10_number x1 x2 M = some (v, M')) : am_Ev (d + 1) mX10_number [.inr (1, 0), am_I x1, am_I x2] (am_hM h M) (.inl (some (am_I v), am_hM h M')) := by
  unfold f_X10_number at hyp
  refine am_Ev.mk (by decide +kernel) rfl rfl (Nat.le_refl _) (Nat.le_refl _) ?_
  change am_At _ _ _ 0 [_, _, _, _] [] _ _
  refine am_aload_n dX10_number_0 rfl ?_
  obtain ⟨⟨v1, M1⟩, hk1, hyp⟩ := bd_some hyp
  try dsimp only at hyp
  refine am_callV [] dX10_number_1 ml_X10_44 vm_X10_next (sh_1 g) rfl (fun _ => Nat.le_of_ble_eq_true rfl) (by omega) rfl (ef_X10_next (d := d + 0) (h := h) g hk1) rfl ?_
  change am_At _ _ _ 4 [_, _, _, _] [_] _ _
  refine am_pop dX10_number_4 (fun _ => rfl) ?_
  refine am_aload_n dX10_number_5 rfl ?_
  refine am_aload_n dX10_number_6 rfl ?_
  refine am_getI 10 3 dX10_number_7 fg_X10_31 (sh_1 g) (by decide) rfl ?_
  refine am_putI 10 4 dX10_number_10 (Or.inl fp_X10_37) (sh_1 g) (by decide) rfl rfl rfl ?_
  refine am_iconst 0 (v := 0) dX10_number_13 (by decide) ?_
  refine am_istore_n dX10_number_14 (am_lb rfl) ?_
  change am_At _ _ _ 15 [_, _, _, _] [] _ _
  obtain ⟨⟨x3_6, M6⟩, hw6, hyp⟩ := bd_some hyp
  try dsimp only at hyp
  refine eL_X10_number_15 (d := d) (h := h) g  FU ((0 : Int32), (am_u3 M1 1 0 4 (M1 1 0 3))) (x3_6, M6) hw6 ?_
  change am_At _ _ _ 90 [_, _, _, _] [] _ _
  refine am_aload_n dX10_number_90 rfl ?_
  refine am_getI 10 3 dX10_number_91 fg_X10_31 (sh_1 g) (by decide) rfl ?_
  refine am_aload_n dX10_number_94 rfl ?_
  refine am_getI 10 4 dX10_number_95 fg_X10_37 (sh_1 g) (by decide) rfl ?_
  refine am_icmp_ne (15) 113 dX10_number_98 rfl ?_ ?_
  · intro hc7n
    have hc7n : ¬ ((M6 1 0 3) = (M6 1 0 4)) := hc7n
    replace hyp := it_neg hc7n hyp
    refine am_iload_n dX10_number_113 rfl ?_
    refine am_iload_n dX10_number_114 rfl ?_
    refine am_icmp_lt (8) 123 dX10_number_115 rfl ?_ ?_
    · intro hc8
      have hc8 : x3_6 < x1 := hc8
      replace hyp := it_pos hc8 hyp
      refine am_aload_n dX10_number_123 rfl ?_
      refine am_iconst 2 (v := 2) dX10_number_124 (by decide) ?_
      refine am_aload_n dX10_number_125 rfl ?_
      refine am_getI 10 4 dX10_number_126 fg_X10_37 (sh_1 g) (by decide) rfl ?_
      refine am_callV [_, _] dX10_number_129 ml_X10_40 vm_X10_blame (sh_1 g) rfl (fun _ => Nat.le_of_ble_eq_true rfl) (by omega) rfl (ef_X10_blame (d := d + 0) (h := h) g (x1 := (2 : Int32)) (x2 := (M6 1 0 4)) (M := M6) rfl) rfl ?_
      change am_At _ _ _ 132 [_, _, _, _] [] _ _
      refine am_aload_n dX10_number_132 rfl ?_
      refine am_callV [] dX10_number_133 ml_X10_61 vm_X10_isFaulty (sh_1 g) rfl (fun _ => Nat.le_of_ble_eq_true rfl) (by omega) rfl (ef_X10_isFaulty (d := d + 0) (h := h) g  (M := (f_X10_blame (2 : Int32) (M6 1 0 4) M6)) rfl) rfl ?_
      change am_At _ _ _ 136 [_, _, _, _] [_] _ _
      refine am_if_eq (7) 143 dX10_number_136 rfl ?_ ?_
      · intro hc9
        have hc9 : (f_X10_isFaulty (f_X10_blame (2 : Int32) (M6 1 0 4) M6)) = 0 := hc9
        replace hyp := it_pos hc9 hyp
        refine am_iload_n dX10_number_143 rfl ?_
        cases hyp
        exact am_iret dX10_number_144 rfl
      · intro hc9n
        have hc9n : ¬ ((f_X10_isFaulty (f_X10_blame (2 : Int32) (M6 1 0 4) M6)) = 0) := hc9n
        replace hyp := it_neg hc9n hyp
        refine am_iconst (-1) (v := (-1)) dX10_number_139 (by decide) ?_
        refine am_goto (4) 144 dX10_number_140 rfl ?_
        cases hyp
        exact am_iret dX10_number_144 rfl
    · intro hc8n
      have hc8n : ¬ (x3_6 < x1) := hc8n
      replace hyp := it_neg hc8n hyp
      refine am_iload_n dX10_number_118 rfl ?_
      refine am_iload_n dX10_number_119 rfl ?_
      refine am_icmp_le (12) 132 dX10_number_120 rfl ?_ ?_
      · intro hc10
        have hc10 : x3_6 ≤ x2 := hc10
        replace hyp := it_pos hc10 hyp
        refine am_aload_n dX10_number_132 rfl ?_
        refine am_callV [] dX10_number_133 ml_X10_61 vm_X10_isFaulty (sh_1 g) rfl (fun _ => Nat.le_of_ble_eq_true rfl) (by omega) rfl (ef_X10_isFaulty (d := d + 0) (h := h) g  (M := M6) rfl) rfl ?_
        change am_At _ _ _ 136 [_, _, _, _] [_] _ _
        refine am_if_eq (7) 143 dX10_number_136 rfl ?_ ?_
        · intro hc11
          have hc11 : (f_X10_isFaulty M6) = 0 := hc11
          replace hyp := it_pos hc11 hyp
          refine am_iload_n dX10_number_143 rfl ?_
          cases hyp
          exact am_iret dX10_number_144 rfl
        · intro hc11n
          have hc11n : ¬ ((f_X10_isFaulty M6) = 0) := hc11n
          replace hyp := it_neg hc11n hyp
          refine am_iconst (-1) (v := (-1)) dX10_number_139 (by decide) ?_
          refine am_goto (4) 144 dX10_number_140 rfl ?_
          cases hyp
          exact am_iret dX10_number_144 rfl
      · intro hc10n
        have hc10n : ¬ (x3_6 ≤ x2) := hc10n
        replace hyp := it_neg hc10n hyp
        refine am_aload_n dX10_number_123 rfl ?_
        refine am_iconst 2 (v := 2) dX10_number_124 (by decide) ?_
        refine am_aload_n dX10_number_125 rfl ?_
        refine am_getI 10 4 dX10_number_126 fg_X10_37 (sh_1 g) (by decide) rfl ?_
        refine am_callV [_, _] dX10_number_129 ml_X10_40 vm_X10_blame (sh_1 g) rfl (fun _ => Nat.le_of_ble_eq_true rfl) (by omega) rfl (ef_X10_blame (d := d + 0) (h := h) g (x1 := (2 : Int32)) (x2 := (M6 1 0 4)) (M := M6) rfl) rfl ?_
        change am_At _ _ _ 132 [_, _, _, _] [] _ _
        refine am_aload_n dX10_number_132 rfl ?_
        refine am_callV [] dX10_number_133 ml_X10_61 vm_X10_isFaulty (sh_1 g) rfl (fun _ => Nat.le_of_ble_eq_true rfl) (by omega) rfl (ef_X10_isFaulty (d := d + 0) (h := h) g  (M := (f_X10_blame (2 : Int32) (M6 1 0 4) M6)) rfl) rfl ?_
        change am_At _ _ _ 136 [_, _, _, _] [_] _ _
        refine am_if_eq (7) 143 dX10_number_136 rfl ?_ ?_
        · intro hc12
          have hc12 : (f_X10_isFaulty (f_X10_blame (2 : Int32) (M6 1 0 4) M6)) = 0 := hc12
          replace hyp := it_pos hc12 hyp
          refine am_iload_n dX10_number_143 rfl ?_
          cases hyp
          exact am_iret dX10_number_144 rfl
        · intro hc12n
          have hc12n : ¬ ((f_X10_isFaulty (f_X10_blame (2 : Int32) (M6 1 0 4) M6)) = 0) := hc12n
          replace hyp := it_neg hc12n hyp
          refine am_iconst (-1) (v := (-1)) dX10_number_139 (by decide) ?_
          refine am_goto (4) 144 dX10_number_140 rfl ?_
          cases hyp
          exact am_iret dX10_number_144 rfl
  · intro hc7
    have hc7 : (M6 1 0 3) = (M6 1 0 4) := hc7
    replace hyp := it_pos hc7 hyp
    refine am_aload_n dX10_number_101 rfl ?_
    refine am_iconst 1 (v := 1) dX10_number_102 (by decide) ?_
    refine am_aload_n dX10_number_103 rfl ?_
    refine am_getI 10 3 dX10_number_104 fg_X10_31 (sh_1 g) (by decide) rfl ?_
    refine am_callV [_, _] dX10_number_107 ml_X10_40 vm_X10_blame (sh_1 g) rfl (fun _ => Nat.le_of_ble_eq_true rfl) (by omega) rfl (ef_X10_blame (d := d + 0) (h := h) g (x1 := (1 : Int32)) (x2 := (M6 1 0 3)) (M := M6) rfl) rfl ?_
    change am_At _ _ _ 110 [_, _, _, _] [] _ _
    refine am_goto (22) 132 dX10_number_110 rfl ?_
    refine am_aload_n dX10_number_132 rfl ?_
    refine am_callV [] dX10_number_133 ml_X10_61 vm_X10_isFaulty (sh_1 g) rfl (fun _ => Nat.le_of_ble_eq_true rfl) (by omega) rfl (ef_X10_isFaulty (d := d + 0) (h := h) g  (M := (f_X10_blame (1 : Int32) (M6 1 0 3) M6)) rfl) rfl ?_
    change am_At _ _ _ 136 [_, _, _, _] [_] _ _
    refine am_if_eq (7) 143 dX10_number_136 rfl ?_ ?_
    · intro hc13
      have hc13 : (f_X10_isFaulty (f_X10_blame (1 : Int32) (M6 1 0 3) M6)) = 0 := hc13
      replace hyp := it_pos hc13 hyp
      refine am_iload_n dX10_number_143 rfl ?_
      cases hyp
      exact am_iret dX10_number_144 rfl
    · intro hc13n
      have hc13n : ¬ ((f_X10_isFaulty (f_X10_blame (1 : Int32) (M6 1 0 3) M6)) = 0) := hc13n
      replace hyp := it_neg hc13n hyp
      refine am_iconst (-1) (v := (-1)) dX10_number_139 (by decide) ?_
      refine am_goto (4) 144 dX10_number_140 rfl ?_
      cases hyp
      exact am_iret dX10_number_144 rfl
theorem eL_X10_put_3 {d : Nat} {h : am_H} (g : lay h) {x1 : Int32} {r : am_R} (n : Nat) : ∀ (s : Int32 × Mem) (e : Mem), wh (L_X10_put_3 x1) n s = some e → ((fun (M : Mem) => am_At am_X0 (d + 0) mX10_put 48 [some (.inr (1, 0)), some (am_I (x1)), none] [] (am_hM h M) r) e) → (match s with | (x2, M) => am_At am_X0 (d + 0) mX10_put 3 [some (.inr (1, 0)), some (am_I (x1)), some (am_I (x2))] [] (am_hM h M) r) := by
  refine am_wh (At := fun (s : Int32 × Mem) => match s with | (x2, M) => am_At am_X0 (d + 0) mX10_put 3 [some (.inr (1, 0)), some (am_I (x1)), some (am_I (x2))] [] (am_hM h M) r) (Ex := fun (e : Mem) => (fun (M : Mem) => am_At am_X0 (d + 0) mX10_put 48 [some (.inr (1, 0)), some (am_I (x1)), none] [] (am_hM h M) r) e) ?_ n
  rintro ⟨x2, M⟩ y hyp hx
  unfold L_X10_put_3 at hyp
  try dsimp only at hyp
  change am_At _ _ _ 3 [_, _, _] [] _ _
  refine am_iload_n dX10_put_3 rfl ?_
  refine am_if_lt (44) 48 dX10_put_4 rfl ?_ ?_
  · intro hc1
    have hc1 : x2 < 0 := hc1
    replace hyp := it_pos hc1 hyp
    cases hyp
    refine am_At.drop 2 ?_
    exact hx
  · intro hc1n
    have hc1n : ¬ (x2 < 0) := hc1n
    replace hyp := it_neg hc1n hyp
    refine am_aload_n dX10_put_7 rfl ?_
    refine am_getI 10 1 dX10_put_8 fg_X10_19 (sh_1 g) (by decide) rfl ?_
    refine am_aload_n dX10_put_11 rfl ?_
    refine am_getR 10 0 2 dX10_put_12 fg_X10_9 (sh_1 g) (by decide) rfl (rf_1_0 g) ?_
    refine am_blen dX10_put_15 (sh_2 g) rfl ?_
    refine am_icmp_ge (32) 48 dX10_put_16 rfl ?_ ?_
    · intro hc2
      have hc2 : (600 : Int32) ≤ (M 1 0 1) := hc2
      replace hyp := it_pos hc2 hyp
      cases hyp
      refine am_At.drop 2 ?_
      exact hx
    · intro hc2n
      have hc2n : ¬ ((600 : Int32) ≤ (M 1 0 1)) := hc2n
      replace hyp := it_neg hc2n hyp
      refine am_aload_n dX10_put_19 rfl ?_
      refine am_getR 10 0 2 dX10_put_20 fg_X10_9 (sh_1 g) (by decide) rfl (rf_1_0 g) ?_
      refine am_aload_n dX10_put_23 rfl ?_
      refine am_getI 10 1 dX10_put_24 fg_X10_19 (sh_1 g) (by decide) rfl ?_
      refine am_iload_n dX10_put_27 rfl ?_
      refine am_iload_n dX10_put_28 rfl ?_
      refine am_ishr dX10_put_29 ?_
      refine am_i2b dX10_put_30 ?_
      obtain ⟨hg3, hyp⟩ := gd_some hyp
      refine am_bast dX10_put_31 (sh_2 g) (am_lit hg3) ?_
      refine am_aload_n dX10_put_32 rfl ?_
      refine am_dup dX10_put_33 (fun _ => rfl) ?_
      refine am_getI 10 1 dX10_put_34 fg_X10_19 (sh_1 g) (by decide) rfl ?_
      refine am_iconst 1 (v := 1) dX10_put_37 (by decide) ?_
      refine am_iadd dX10_put_38 ?_
      refine am_putI 10 1 dX10_put_39 (Or.inl fp_X10_19) (sh_1 g) (by decide) rfl rfl rfl ?_
      refine am_iinc dX10_put_42 rfl rfl ?_
      change am_At _ _ _ 45 [_, _, _] [] _ _
      refine am_goto (-42) 3 dX10_put_45 rfl ?_
      cases hyp
      exact hx
theorem ef_X10_put {d : Nat} {h : am_H} (g : lay h) {x1 : Int32} {M : Mem} {M' : Mem} (hyp : f_X10_put x1 M = some M') : am_Ev (d + 0) mX10_put [.inr (1, 0), am_I x1] (am_hM h M) (.inl (none, am_hM h M')) := by
  unfold f_X10_put at hyp
  refine am_Ev.mk (by decide +kernel) rfl rfl (Nat.le_refl _) (Nat.le_refl _) ?_
  change am_At _ _ _ 0 [_, _, _] [] _ _
  refine am_bipush 24 (v := 24) dX10_put_0 (by decide) ?_
  refine am_istore_n dX10_put_2 (am_lb rfl) ?_
  change am_At _ _ _ 3 [_, _, _] [] _ _
  obtain ⟨M4, hw4, hyp⟩ := bd_some hyp
  try dsimp only at hyp
  refine eL_X10_put_3 (d := d) (h := h) g  FU ((24 : Int32), M) M4 hw4 ?_
  change am_At _ _ _ 48 [_, _, _] [] _ _
  cases hyp
  exact am_vret dX10_put_48 rfl
theorem ef_X10_size {d : Nat} {h : am_H} (g : lay h) {M : Mem} {v : Int32} (hyp : f_X10_size M = v) : am_Ev (d + 0) mX10_size [.inr (1, 0)] (am_hM h M) (.inl (some (am_I v), am_hM h M)) := by
  unfold f_X10_size at hyp
  refine am_Ev.mk (by decide +kernel) rfl rfl (Nat.le_refl _) (Nat.le_refl _) ?_
  change am_At _ _ _ 0 [_] [] _ _
  refine am_aload_n dX10_size_0 rfl ?_
  refine am_getI 10 1 dX10_size_1 fg_X10_19 (sh_1 g) (by decide) rfl ?_
  cases hyp
  exact am_iret dX10_size_4 rfl
theorem ef_X10_take {d : Nat} {h : am_H} (g : lay h) {x1 : Int32} {M : Mem} {M' : Mem} (hyp : f_X10_take x1 M = M') : am_Ev (d + 0) mX10_take [.inr (1, 0), am_I x1] (am_hM h M) (.inl (none, am_hM h M')) := by
  unfold f_X10_take at hyp
  refine am_Ev.mk (by decide +kernel) rfl rfl (Nat.le_refl _) (Nat.le_refl _) ?_
  change am_At _ _ _ 0 [_, _] [] _ _
  refine am_aload_n dX10_take_0 rfl ?_
  refine am_iload_n dX10_take_1 rfl ?_
  refine am_aload_n dX10_take_2 rfl ?_
  refine am_getI 10 1 dX10_take_3 fg_X10_19 (sh_1 g) (by decide) rfl ?_
  refine am_min dX10_take_6 ml_X10_22 (fun _ => Nat.le_of_ble_eq_true rfl) ?_
  refine am_putI 10 2 dX10_take_9 (Or.inl fp_X10_28) (sh_1 g) (by decide) rfl rfl rfl ?_
  refine am_aload_n dX10_take_12 rfl ?_
  refine am_iconst 0 (v := 0) dX10_take_13 (by decide) ?_
  refine am_putI 10 1 dX10_take_14 (Or.inl fp_X10_19) (sh_1 g) (by decide) rfl rfl rfl ?_
  refine am_aload_n dX10_take_17 rfl ?_
  refine am_iconst 0 (v := 0) dX10_take_18 (by decide) ?_
  refine am_putI 10 3 dX10_take_19 (Or.inl fp_X10_31) (sh_1 g) (by decide) rfl rfl rfl ?_
  refine am_aload_n dX10_take_22 rfl ?_
  refine am_iconst 0 (v := 0) dX10_take_23 (by decide) ?_
  refine am_putI 10 5 dX10_take_24 (Or.inl fp_X10_34) (sh_1 g) (by decide) rfl rfl rfl ?_
  refine am_aload_n dX10_take_27 rfl ?_
  refine am_iconst (-1) (v := (-1)) dX10_take_28 (by decide) ?_
  refine am_putI 10 6 dX10_take_29 (Or.inl fp_X10_15) (sh_1 g) (by decide) rfl rfl rfl ?_
  cases hyp
  exact am_vret dX10_take_32 rfl
theorem ef_X11_allBits {d : Nat} {h : am_H} {x0 : Int32} {v : Int32} (hyp : f_X11_allBits x0 = v) : am_Ev (d + 0) mX11_allBits [am_I x0] h (.inl (some (am_I v), h)) := by
  unfold f_X11_allBits at hyp
  refine am_Ev.mk (by decide +kernel) rfl rfl (Nat.le_refl _) (Nat.le_refl _) ?_
  change am_At _ _ _ 0 [_] [] _ _
  refine am_iconst 1 (v := 1) dX11_allBits_0 (by decide) ?_
  refine am_iload_n dX11_allBits_1 rfl ?_
  refine am_ishl dX11_allBits_2 ?_
  refine am_iconst 1 (v := 1) dX11_allBits_3 (by decide) ?_
  refine am_isub dX11_allBits_4 ?_
  cases hyp
  exact am_iret dX11_allBits_5 rfl
theorem ef_X11_count {d : Nat} {h : am_H} (g : lay h) {x1 : Int32} {M : Mem} {v : Int32} (hyp : f_X11_count x1 M = v) : am_Ev (d + 1) mX11_count [.inr (0, 0), am_I x1] (am_hM h M) (.inl (some (am_I v), am_hM h M)) := by
  unfold f_X11_count at hyp
  refine am_Ev.mk (by decide +kernel) rfl rfl (Nat.le_refl _) (Nat.le_refl _) ?_
  change am_At _ _ _ 0 [_, _] [] _ _
  refine am_iload_n dX11_count_0 rfl ?_
  by_cases hc1 : x1 = (0 : Int32)
  · refine am_tabIn (27) 28 dX11_count_1 (by rw [hc1]; decide) (by rw [hc1]; decide) (by rw [hc1]; rfl) rfl ?_
    replace hyp := it_pos hc1 hyp
    refine am_aload_n dX11_count_28 rfl ?_
    refine am_getR 11 6 31 dX11_count_29 fg_X11_52 (sh_0 g) (by decide) rfl (rf_0_6 g) ?_
    refine am_getI 7 3 dX11_count_32 fg_X11_387 (sh_31 g) (by decide) rfl ?_
    cases hyp
    exact am_iret dX11_count_35 rfl
  · have hc1n := hc1
    replace hyp := it_neg hc1n hyp
    by_cases hc2 : x1 = (1 : Int32)
    · refine am_tabIn (35) 36 dX11_count_1 (by rw [hc2]; decide) (by rw [hc2]; decide) (by rw [hc2]; rfl) rfl ?_
      replace hyp := it_pos hc2 hyp
      refine am_aload_n dX11_count_36 rfl ?_
      refine am_getR 11 0 1 dX11_count_37 fg_X11_10 (sh_0 g) (by decide) rfl (rf_0_0 g) ?_
      refine am_callV [] dX11_count_40 ml_X11_103 vm_X10_size (sh_1 g) rfl (fun _ => Nat.le_of_ble_eq_true rfl) (by omega) rfl (ef_X10_size (d := d + 0) (h := h) g  (M := M) rfl) rfl ?_
      change am_At _ _ _ 43 [_, _] [_] _ _
      cases hyp
      exact am_iret dX11_count_43 rfl
    · have hc2n := hc2
      replace hyp := it_neg hc2n hyp
      by_cases hc3 : x1 = (2 : Int32)
      · refine am_tabIn (43) 44 dX11_count_1 (by rw [hc3]; decide) (by rw [hc3]; decide) (by rw [hc3]; rfl) rfl ?_
        replace hyp := it_pos hc3 hyp
        refine am_aload_n dX11_count_44 rfl ?_
        refine am_getR 11 6 31 dX11_count_45 fg_X11_52 (sh_0 g) (by decide) rfl (rf_0_6 g) ?_
        refine am_getI 7 1 dX11_count_48 fg_X11_172 (sh_31 g) (by decide) rfl ?_
        cases hyp
        exact am_iret dX11_count_51 rfl
      · have hc3n := hc3
        replace hyp := it_neg hc3n hyp
        refine am_tabOut 52 dX11_count_1 (by have q0 := lv_neT (a := 0) hc1n (by decide); have q1 := lv_neT (a := 1) hc2n (by decide); have q2 := lv_neT (a := 2) hc3n (by decide); omega) rfl ?_
        refine am_iconst (-1) (v := (-1)) dX11_count_52 (by decide) ?_
        cases hyp
        exact am_iret dX11_count_53 rfl
theorem ef_X11_fault {d : Nat} {h : am_H} (g : lay h) {M : Mem} {v : Int32} (hyp : f_X11_fault M = v) : am_Ev (d + 0) mX11_fault [.inr (0, 0)] (am_hM h M) (.inl (some (am_I v), am_hM h M)) := by
  unfold f_X11_fault at hyp
  refine am_Ev.mk (by decide +kernel) rfl rfl (Nat.le_refl _) (Nat.le_refl _) ?_
  change am_At _ _ _ 0 [_] [] _ _
  refine am_aload_n dX11_fault_0 rfl ?_
  refine am_getR 11 0 1 dX11_fault_1 fg_X11_10 (sh_0 g) (by decide) rfl (rf_0_0 g) ?_
  refine am_getI 10 6 dX11_fault_4 fg_X11_169 (sh_1 g) (by decide) rfl ?_
  cases hyp
  exact am_iret dX11_fault_7 rfl
theorem ef_X11_feed {d : Nat} {h : am_H} (g : lay h) {x1 x2 x3 x4 x5 : Int32} {M : Mem} {v : Int32} {M' : Mem} (hyp : f_X11_feed x1 x2 x3 x4 x5 M = some (v, M')) : am_Ev (d + 1) mX11_feed [.inr (0, 0), am_I x1, am_I x2, am_I x3, am_I x4, am_I x5] (am_hM h M) (.inl (some (am_I v), am_hM h M')) := by
  unfold f_X11_feed at hyp
  refine am_Ev.mk (by decide +kernel) rfl rfl (Nat.le_refl _) (Nat.le_refl _) ?_
  change am_At _ _ _ 0 [_, _, _, _, _, _] [] _ _
  refine am_aload_n dX11_feed_0 rfl ?_
  refine am_getR 11 0 1 dX11_feed_1 fg_X11_10 (sh_0 g) (by decide) rfl (rf_0_0 g) ?_
  refine am_bipush 20 (v := 20) dX11_feed_4 (by decide) ?_
  refine am_callV [_] dX11_feed_6 ml_X11_95 vm_X10_hasRoom (sh_1 g) rfl (fun _ => Nat.le_of_ble_eq_true rfl) (by omega) rfl (ef_X10_hasRoom (d := d + 0) (h := h) g (x1 := (20 : Int32)) (M := M) rfl) rfl ?_
  change am_At _ _ _ 9 [_, _, _, _, _, _] [_] _ _
  refine am_if_ne (5) 14 dX11_feed_9 rfl ?_ ?_
  · intro hc1n
    have hc1n : ¬ ((f_X10_hasRoom (20 : Int32) M) = 0) := hc1n
    replace hyp := it_neg hc1n hyp
    refine am_aload_n dX11_feed_14 rfl ?_
    refine am_getR 11 0 1 dX11_feed_15 fg_X11_10 (sh_0 g) (by decide) rfl (rf_0_0 g) ?_
    refine am_iload_n dX11_feed_18 rfl ?_
    obtain ⟨M2, hk2, hyp⟩ := bd_some hyp
    try dsimp only at hyp
    refine am_callV [_] dX11_feed_19 ml_X11_99 vm_X10_put (sh_1 g) rfl (fun _ => Nat.le_of_ble_eq_true rfl) (by omega) rfl (ef_X10_put (d := d + 0) (h := h) g hk2) rfl ?_
    change am_At _ _ _ 22 [_, _, _, _, _, _] [] _ _
    refine am_aload_n dX11_feed_22 rfl ?_
    refine am_getR 11 0 1 dX11_feed_23 fg_X11_10 (sh_0 g) (by decide) rfl (rf_0_0 g) ?_
    refine am_iload_n dX11_feed_26 rfl ?_
    obtain ⟨M3, hk3, hyp⟩ := bd_some hyp
    try dsimp only at hyp
    refine am_callV [_] dX11_feed_27 ml_X11_99 vm_X10_put (sh_1 g) rfl (fun _ => Nat.le_of_ble_eq_true rfl) (by omega) rfl (ef_X10_put (d := d + 0) (h := h) g hk3) rfl ?_
    change am_At _ _ _ 30 [_, _, _, _, _, _] [] _ _
    refine am_aload_n dX11_feed_30 rfl ?_
    refine am_getR 11 0 1 dX11_feed_31 fg_X11_10 (sh_0 g) (by decide) rfl (rf_0_0 g) ?_
    refine am_iload_n dX11_feed_34 rfl ?_
    obtain ⟨M4, hk4, hyp⟩ := bd_some hyp
    try dsimp only at hyp
    refine am_callV [_] dX11_feed_35 ml_X11_99 vm_X10_put (sh_1 g) rfl (fun _ => Nat.le_of_ble_eq_true rfl) (by omega) rfl (ef_X10_put (d := d + 0) (h := h) g hk4) rfl ?_
    change am_At _ _ _ 38 [_, _, _, _, _, _] [] _ _
    refine am_aload_n dX11_feed_38 rfl ?_
    refine am_getR 11 0 1 dX11_feed_39 fg_X11_10 (sh_0 g) (by decide) rfl (rf_0_0 g) ?_
    refine am_iload dX11_feed_42 rfl ?_
    obtain ⟨M5, hk5, hyp⟩ := bd_some hyp
    try dsimp only at hyp
    refine am_callV [_] dX11_feed_44 ml_X11_99 vm_X10_put (sh_1 g) rfl (fun _ => Nat.le_of_ble_eq_true rfl) (by omega) rfl (ef_X10_put (d := d + 0) (h := h) g hk5) rfl ?_
    change am_At _ _ _ 47 [_, _, _, _, _, _] [] _ _
    refine am_aload_n dX11_feed_47 rfl ?_
    refine am_getR 11 0 1 dX11_feed_48 fg_X11_10 (sh_0 g) (by decide) rfl (rf_0_0 g) ?_
    refine am_iload dX11_feed_51 rfl ?_
    obtain ⟨M6, hk6, hyp⟩ := bd_some hyp
    try dsimp only at hyp
    refine am_callV [_] dX11_feed_53 ml_X11_99 vm_X10_put (sh_1 g) rfl (fun _ => Nat.le_of_ble_eq_true rfl) (by omega) rfl (ef_X10_put (d := d + 0) (h := h) g hk6) rfl ?_
    change am_At _ _ _ 56 [_, _, _, _, _, _] [] _ _
    refine am_aload_n dX11_feed_56 rfl ?_
    refine am_getR 11 0 1 dX11_feed_57 fg_X11_10 (sh_0 g) (by decide) rfl (rf_0_0 g) ?_
    refine am_callV [] dX11_feed_60 ml_X11_103 vm_X10_size (sh_1 g) rfl (fun _ => Nat.le_of_ble_eq_true rfl) (by omega) rfl (ef_X10_size (d := d + 0) (h := h) g  (M := M6) rfl) rfl ?_
    change am_At _ _ _ 63 [_, _, _, _, _, _] [_] _ _
    cases hyp
    exact am_iret dX11_feed_63 rfl
  · intro hc1
    have hc1 : (f_X10_hasRoom (20 : Int32) M) = 0 := hc1
    replace hyp := it_pos hc1 hyp
    refine am_iconst (-1) (v := (-1)) dX11_feed_12 (by decide) ?_
    cases hyp
    exact am_iret dX11_feed_13 rfl
theorem isb_X11_isBitOf (x0 x1 : Int32) : isb (f_X11_isBitOf x0 x1) = true := by
  unfold f_X11_isBitOf
  (repeat' split) <;> rfl
theorem ef_X11_isBitOf {d : Nat} {h : am_H} {x0 x1 : Int32} {v : Int32} (hyp : f_X11_isBitOf x0 x1 = v) : am_Ev (d + 0) mX11_isBitOf [am_I x0, am_I x1] h (.inl (some (am_I v), h)) := by
  unfold f_X11_isBitOf at hyp
  refine am_Ev.mk (by decide +kernel) rfl rfl (Nat.le_refl _) (Nat.le_refl _) ?_
  change am_At _ _ _ 0 [_, _] [] _ _
  refine am_iload_n dX11_isBitOf_0 rfl ?_
  refine am_iload_n dX11_isBitOf_1 rfl ?_
  refine am_ishr dX11_isBitOf_2 ?_
  refine am_iconst 1 (v := 1) dX11_isBitOf_3 (by decide) ?_
  refine am_iand dX11_isBitOf_4 ?_
  refine am_iconst 1 (v := 1) dX11_isBitOf_5 (by decide) ?_
  refine am_icmp_ne (7) 13 dX11_isBitOf_6 rfl ?_ ?_
  · intro hc1n
    have hc1n : ¬ (((x0 >>> (x1 &&& 31)) &&& (1 : Int32)) = (1 : Int32)) := hc1n
    replace hyp := it_neg hc1n hyp
    refine am_iconst 0 (v := 0) dX11_isBitOf_13 (by decide) ?_
    cases hyp
    exact am_zret dX11_isBitOf_14 rfl rfl
  · intro hc1
    have hc1 : ((x0 >>> (x1 &&& 31)) &&& (1 : Int32)) = (1 : Int32) := hc1
    replace hyp := it_pos hc1 hyp
    refine am_iconst 1 (v := 1) dX11_isBitOf_9 (by decide) ?_
    refine am_goto (4) 14 dX11_isBitOf_10 rfl ?_
    cases hyp
    exact am_zret dX11_isBitOf_14 rfl rfl
theorem ef_X11_needFit {d : Nat} {h : am_H} (g : lay h) {x1 x2 x3 : Int32} {M : Mem} {y : (Int32 ⊕ String) × Mem} (hyp : f_X11_needFit x1 x2 x3 M = some y) : am_Ev (d + 0) mX11_needFit [.inr (0, 0), am_I x1, am_I x2, am_I x3] (am_hM h M) (am_o0 h y) := by
  unfold f_X11_needFit at hyp
  refine am_Ev.mk (by decide +kernel) rfl rfl (am_oc0 h y) (am_os0 h y) ?_
  change am_At _ _ _ 0 [_, _, _, _] [] _ _
  refine am_iload_n dX11_needFit_0 rfl ?_
  refine am_iload_n dX11_needFit_1 rfl ?_
  refine am_icmp_lt (8) 10 dX11_needFit_2 rfl ?_ ?_
  · intro hc1
    have hc1 : x1 < x2 := hc1
    replace hyp := it_pos hc1 hyp
    refine am_aload_n dX11_needFit_10 rfl ?_
    refine am_dup dX11_needFit_11 (fun _ => rfl) ?_
    refine am_getI 11 14 dX11_needFit_12 fg_X11_396 (sh_0 g) (by decide) rfl ?_
    refine am_iconst 1 (v := 1) dX11_needFit_15 (by decide) ?_
    refine am_iadd dX11_needFit_16 ?_
    refine am_putI 11 14 dX11_needFit_17 (Or.inl fp_X11_396) (sh_0 g) (by decide) rfl rfl rfl ?_
    cases hyp
    exact thr_fit
  · intro hc1n
    have hc1n : ¬ (x1 < x2) := hc1n
    replace hyp := it_neg hc1n hyp
    refine am_iload_n dX11_needFit_5 rfl ?_
    refine am_iload_n dX11_needFit_6 rfl ?_
    refine am_icmp_le (24) 31 dX11_needFit_7 rfl ?_ ?_
    · intro hc2
      have hc2 : x1 ≤ x3 := hc2
      replace hyp := it_pos hc2 hyp
      cases hyp
      exact am_vret dX11_needFit_31 rfl
    · intro hc2n
      have hc2n : ¬ (x1 ≤ x3) := hc2n
      replace hyp := it_neg hc2n hyp
      refine am_aload_n dX11_needFit_10 rfl ?_
      refine am_dup dX11_needFit_11 (fun _ => rfl) ?_
      refine am_getI 11 14 dX11_needFit_12 fg_X11_396 (sh_0 g) (by decide) rfl ?_
      refine am_iconst 1 (v := 1) dX11_needFit_15 (by decide) ?_
      refine am_iadd dX11_needFit_16 ?_
      refine am_putI 11 14 dX11_needFit_17 (Or.inl fp_X11_396) (sh_0 g) (by decide) rfl rfl rfl ?_
      cases hyp
      exact thr_fit
theorem ef_X11_needMast {d : Nat} {h : am_H} (g : lay h) {x1 : Int32} {M : Mem} {y : (Int32 ⊕ String) × Mem} (hyp : f_X11_needMast x1 M = some y) : am_Ev (d + 1) mX11_needMast [.inr (0, 0), am_I x1] (am_hM h M) (am_o0 h y) := by
  unfold f_X11_needMast at hyp
  refine am_Ev.mk (by decide +kernel) rfl rfl (am_oc0 h y) (am_os0 h y) ?_
  change am_At _ _ _ 0 [_, _] [] _ _
  refine am_aload_n dX11_needMast_0 rfl ?_
  refine am_iload_n dX11_needMast_1 rfl ?_
  refine am_iconst 0 (v := 0) dX11_needMast_2 (by decide) ?_
  refine am_bipush 9 (v := 9) dX11_needMast_3 (by decide) ?_
  obtain ⟨⟨y1, M1⟩, hk1, hyp⟩ := bd_some hyp
  rcases y1 with v1 | E1
  rotate_left
  · try dsimp only at hyp
    cases hyp
    exact am_callVX [_, _, _] dX11_needMast_5 ml_X11_178 vm_X11_needFit (sh_0 g) rfl (fun _ => Nat.le_of_ble_eq_true rfl) (by omega) rfl (am_o0t (ef_X11_needFit (d := d + 0) (h := h) g hk1)) rfl
  try dsimp only at hyp
  refine am_callV [_, _, _] dX11_needMast_5 ml_X11_178 vm_X11_needFit (sh_0 g) rfl (fun _ => Nat.le_of_ble_eq_true rfl) (by omega) rfl (am_o0v (ef_X11_needFit (d := d + 0) (h := h) g hk1)) rfl ?_
  change am_At _ _ _ 8 [_, _] [] _ _
  cases hyp
  exact am_vret dX11_needMast_8 rfl
theorem ef_X11_needThere {d : Nat} {h : am_H} (g : lay h) {x1 x2 : Int32} {M : Mem} {y : (Int32 ⊕ String) × Mem} (hyp : f_X11_needThere x1 x2 M = some y) : am_Ev (d + 0) mX11_needThere [.inr (0, 0), am_I x1, am_I x2] (am_hM h M) (am_o0 h y) := by
  unfold f_X11_needThere at hyp
  refine am_Ev.mk (by decide +kernel) rfl rfl (am_oc0 h y) (am_os0 h y) ?_
  change am_At _ _ _ 0 [_, _, _] [] _ _
  refine am_iload_n dX11_needThere_0 rfl ?_
  refine am_if_lt (8) 9 dX11_needThere_1 rfl ?_ ?_
  · intro hc1
    have hc1 : x1 < 0 := hc1
    replace hyp := it_pos hc1 hyp
    refine am_aload_n dX11_needThere_9 rfl ?_
    refine am_dup dX11_needThere_10 (fun _ => rfl) ?_
    refine am_getI 11 13 dX11_needThere_11 fg_X11_393 (sh_0 g) (by decide) rfl ?_
    refine am_iconst 1 (v := 1) dX11_needThere_14 (by decide) ?_
    refine am_iadd dX11_needThere_15 ?_
    refine am_putI 11 13 dX11_needThere_16 (Or.inl fp_X11_393) (sh_0 g) (by decide) rfl rfl rfl ?_
    cases hyp
    exact thr_there
  · intro hc1n
    have hc1n : ¬ (x1 < 0) := hc1n
    replace hyp := it_neg hc1n hyp
    refine am_iload_n dX11_needThere_4 rfl ?_
    refine am_iload_n dX11_needThere_5 rfl ?_
    refine am_icmp_lt (24) 30 dX11_needThere_6 rfl ?_ ?_
    · intro hc2
      have hc2 : x1 < x2 := hc2
      replace hyp := it_pos hc2 hyp
      cases hyp
      exact am_vret dX11_needThere_30 rfl
    · intro hc2n
      have hc2n : ¬ (x1 < x2) := hc2n
      replace hyp := it_neg hc2n hyp
      refine am_aload_n dX11_needThere_9 rfl ?_
      refine am_dup dX11_needThere_10 (fun _ => rfl) ?_
      refine am_getI 11 13 dX11_needThere_11 fg_X11_393 (sh_0 g) (by decide) rfl ?_
      refine am_iconst 1 (v := 1) dX11_needThere_14 (by decide) ?_
      refine am_iadd dX11_needThere_15 ?_
      refine am_putI 11 13 dX11_needThere_16 (Or.inl fp_X11_393) (sh_0 g) (by decide) rfl rfl rfl ?_
      cases hyp
      exact thr_there
theorem ef_X11_needWinter {d : Nat} {h : am_H} (g : lay h) {x1 x2 : Int32} {M : Mem} {y : (Int32 ⊕ String) × Mem} (hyp : f_X11_needWinter x1 x2 M = some y) : am_Ev (d + 1) mX11_needWinter [.inr (0, 0), am_I x1, am_I x2] (am_hM h M) (am_o0 h y) := by
  unfold f_X11_needWinter at hyp
  refine am_Ev.mk (by decide +kernel) rfl rfl (am_oc0 h y) (am_os0 h y) ?_
  change am_At _ _ _ 0 [_, _, _] [] _ _
  refine am_aload_n dX11_needWinter_0 rfl ?_
  refine am_iload_n dX11_needWinter_1 rfl ?_
  refine am_iconst 0 (v := 0) dX11_needWinter_2 (by decide) ?_
  refine am_bipush 16 (v := 16) dX11_needWinter_3 (by decide) ?_
  obtain ⟨⟨y1, M1⟩, hk1, hyp⟩ := bd_some hyp
  rcases y1 with v1 | E1
  rotate_left
  · try dsimp only at hyp
    cases hyp
    exact am_callVX [_, _, _] dX11_needWinter_5 ml_X11_178 vm_X11_needFit (sh_0 g) rfl (fun _ => Nat.le_of_ble_eq_true rfl) (by omega) rfl (am_o0t (ef_X11_needFit (d := d + 0) (h := h) g hk1)) rfl
  try dsimp only at hyp
  refine am_callV [_, _, _] dX11_needWinter_5 ml_X11_178 vm_X11_needFit (sh_0 g) rfl (fun _ => Nat.le_of_ble_eq_true rfl) (by omega) rfl (am_o0v (ef_X11_needFit (d := d + 0) (h := h) g hk1)) rfl ?_
  change am_At _ _ _ 8 [_, _, _] [] _ _
  refine am_aload_n dX11_needWinter_8 rfl ?_
  refine am_iload_n dX11_needWinter_9 rfl ?_
  refine am_iconst 1 (v := 1) dX11_needWinter_10 (by decide) ?_
  refine am_sipush 240 (v := 240) dX11_needWinter_11 (by decide) ?_
  obtain ⟨⟨y2, M2⟩, hk2, hyp⟩ := bd_some hyp
  rcases y2 with v2 | E2
  rotate_left
  · try dsimp only at hyp
    cases hyp
    exact am_callVX [_, _, _] dX11_needWinter_14 ml_X11_178 vm_X11_needFit (sh_0 g) rfl (fun _ => Nat.le_of_ble_eq_true rfl) (by omega) rfl (am_o0t (ef_X11_needFit (d := d + 0) (h := h) g hk2)) rfl
  try dsimp only at hyp
  refine am_callV [_, _, _] dX11_needWinter_14 ml_X11_178 vm_X11_needFit (sh_0 g) rfl (fun _ => Nat.le_of_ble_eq_true rfl) (by omega) rfl (am_o0v (ef_X11_needFit (d := d + 0) (h := h) g hk2)) rfl ?_
  change am_At _ _ _ 17 [_, _, _] [] _ _
  cases hyp
  exact am_vret dX11_needWinter_17 rfl
theorem ef_X11_status {d : Nat} {h : am_H} (g : lay h) {x1 : Int32} {M : Mem} {v : Int32} (hyp : f_X11_status x1 M = v) : am_Ev (d + 0) mX11_status [.inr (0, 0), am_I x1] (am_hM h M) (.inl (some (am_I v), am_hM h M)) := by
  unfold f_X11_status at hyp
  refine am_Ev.mk (by decide +kernel) rfl rfl (Nat.le_refl _) (Nat.le_refl _) ?_
  change am_At _ _ _ 0 [_, _] [] _ _
  refine am_iload_n dX11_status_0 rfl ?_
  refine am_if_ne (8) 9 dX11_status_1 rfl ?_ ?_
  · intro hc1n
    have hc1n : ¬ (x1 = 0) := hc1n
    replace hyp := it_neg hc1n hyp
    refine am_iload_n dX11_status_9 rfl ?_
    refine am_iconst 1 (v := 1) dX11_status_10 (by decide) ?_
    refine am_icmp_ne (10) 21 dX11_status_11 rfl ?_ ?_
    · intro hc2n
      have hc2n : ¬ (x1 = (1 : Int32)) := hc2n
      replace hyp := it_neg hc2n hyp
      refine am_iconst (-1) (v := (-1)) dX11_status_21 (by decide) ?_
      cases hyp
      exact am_iret dX11_status_22 rfl
    · intro hc2
      have hc2 : x1 = (1 : Int32) := hc2
      replace hyp := it_pos hc2 hyp
      refine am_aload_n dX11_status_14 rfl ?_
      refine am_getI 11 14 dX11_status_15 fg_X11_396 (sh_0 g) (by decide) rfl ?_
      refine am_goto (4) 22 dX11_status_18 rfl ?_
      cases hyp
      exact am_iret dX11_status_22 rfl
  · intro hc1
    have hc1 : x1 = 0 := hc1
    replace hyp := it_pos hc1 hyp
    refine am_aload_n dX11_status_4 rfl ?_
    refine am_getI 11 13 dX11_status_5 fg_X11_393 (sh_0 g) (by decide) rfl ?_
    cases hyp
    exact am_iret dX11_status_8 rfl
theorem ef_X11_takeText {d : Nat} {h : am_H} (g : lay h) {x1 x2 : Int32} {M : Mem} {y : (Int32 ⊕ String) × Mem} (hyp : f_X11_takeText x1 x2 M = some y) : am_Ev (d + 1) mX11_takeText [.inr (0, 0), am_I x1, am_I x2] (am_hM h M) (am_o0 h y) := by
  unfold f_X11_takeText at hyp
  refine am_Ev.mk (by decide +kernel) rfl rfl (am_oc0 h y) (am_os0 h y) ?_
  change am_At _ _ _ 0 [_, _, _] [] _ _
  refine am_aload_n dX11_takeText_0 rfl ?_
  refine am_iload_n dX11_takeText_1 rfl ?_
  refine am_iconst 0 (v := 0) dX11_takeText_2 (by decide) ?_
  refine am_iload_n dX11_takeText_3 rfl ?_
  refine am_aload_n dX11_takeText_4 rfl ?_
  refine am_getR 11 0 1 dX11_takeText_5 fg_X11_10 (sh_0 g) (by decide) rfl (rf_0_0 g) ?_
  refine am_callV [] dX11_takeText_8 ml_X11_103 vm_X10_size (sh_1 g) rfl (fun _ => Nat.le_of_ble_eq_true rfl) (by omega) rfl (ef_X10_size (d := d + 0) (h := h) g  (M := M) rfl) rfl ?_
  change am_At _ _ _ 11 [_, _, _] [_, _, _, _, _] _ _
  refine am_min dX11_takeText_11 ml_X11_326 (fun _ => Nat.le_of_ble_eq_true rfl) ?_
  obtain ⟨⟨y1, M1⟩, hk1, hyp⟩ := bd_some hyp
  rcases y1 with v1 | E1
  rotate_left
  · try dsimp only at hyp
    cases hyp
    exact am_callVX [_, _, _] dX11_takeText_14 ml_X11_178 vm_X11_needFit (sh_0 g) rfl (fun _ => Nat.le_of_ble_eq_true rfl) (by omega) rfl (am_o0t (ef_X11_needFit (d := d + 0) (h := h) g hk1)) rfl
  try dsimp only at hyp
  refine am_callV [_, _, _] dX11_takeText_14 ml_X11_178 vm_X11_needFit (sh_0 g) rfl (fun _ => Nat.le_of_ble_eq_true rfl) (by omega) rfl (am_o0v (ef_X11_needFit (d := d + 0) (h := h) g hk1)) rfl ?_
  change am_At _ _ _ 17 [_, _, _] [] _ _
  refine am_aload_n dX11_takeText_17 rfl ?_
  refine am_getR 11 0 1 dX11_takeText_18 fg_X11_10 (sh_0 g) (by decide) rfl (rf_0_0 g) ?_
  refine am_iload_n dX11_takeText_21 rfl ?_
  refine am_callV [_] dX11_takeText_22 ml_X11_414 vm_X10_take (sh_1 g) rfl (fun _ => Nat.le_of_ble_eq_true rfl) (by omega) rfl (ef_X10_take (d := d + 0) (h := h) g (x1 := x1) (M := M1) rfl) rfl ?_
  change am_At _ _ _ 25 [_, _, _] [] _ _
  cases hyp
  exact am_vret dX11_takeText_25 rfl
theorem ef_X12_bad {d : Nat} {h : am_H} (g : lay h) {x1 x2 x3 : Int32} {M : Mem} {v : Int32} {M' : Mem} (hyp : f_X12_bad x1 x2 x3 M = some (v, M')) : am_Ev (d + 0) mX12_bad [.inr (54, 0), am_I x1, am_I x2, am_I x3] (am_hM h M) (.inl (some (am_I v), am_hM h M')) := by
  unfold f_X12_bad at hyp
  refine am_Ev.mk (by decide +kernel) rfl rfl (Nat.le_refl _) (Nat.le_refl _) ?_
  change am_At _ _ _ 0 [_, _, _, _] [] _ _
  refine am_iload_n dX12_bad_0 rfl ?_
  refine am_if_eq (25) 26 dX12_bad_1 rfl ?_ ?_
  · intro hc1
    have hc1 : x1 = 0 := hc1
    replace hyp := it_pos hc1 hyp
    refine am_aload_n dX12_bad_26 rfl ?_
    refine am_getI 12 0 dX12_bad_27 fg_X12_103 (sh_54 g) (by decide) rfl ?_
    refine am_if_eq (7) 37 dX12_bad_30 rfl ?_ ?_
    · intro hc2
      have hc2 : (M 54 0 0) = 0 := hc2
      replace hyp := it_pos hc2 hyp
      refine am_iconst 0 (v := 0) dX12_bad_37 (by decide) ?_
      cases hyp
      exact am_zret dX12_bad_38 rfl rfl
    · intro hc2n
      have hc2n : ¬ ((M 54 0 0) = 0) := hc2n
      replace hyp := it_neg hc2n hyp
      refine am_iconst 1 (v := 1) dX12_bad_33 (by decide) ?_
      refine am_goto (4) 38 dX12_bad_34 rfl ?_
      cases hyp
      exact am_zret dX12_bad_38 rfl rfl
  · intro hc1n
    have hc1n : ¬ (x1 = 0) := hc1n
    replace hyp := it_neg hc1n hyp
    refine am_aload_n dX12_bad_4 rfl ?_
    refine am_getI 12 0 dX12_bad_5 fg_X12_103 (sh_54 g) (by decide) rfl ?_
    refine am_if_ne (18) 26 dX12_bad_8 rfl ?_ ?_
    · intro hc3n
      have hc3n : ¬ ((M 54 0 0) = 0) := hc3n
      replace hyp := it_neg hc3n hyp
      refine am_aload_n dX12_bad_26 rfl ?_
      refine am_getI 12 0 dX12_bad_27 fg_X12_103 (sh_54 g) (by decide) rfl ?_
      refine am_if_eqF (7) 37 dX12_bad_30 rfl hc3n ?_
      refine am_iconst 1 (v := 1) dX12_bad_33 (by decide) ?_
      refine am_goto (4) 38 dX12_bad_34 rfl ?_
      cases hyp
      exact am_zret dX12_bad_38 rfl rfl
    · intro hc3
      have hc3 : (M 54 0 0) = 0 := hc3
      replace hyp := it_pos hc3 hyp
      refine am_aload_n dX12_bad_11 rfl ?_
      refine am_iload_n dX12_bad_12 rfl ?_
      refine am_putI 12 0 dX12_bad_13 (Or.inl fp_X12_103) (sh_54 g) (by decide) rfl rfl rfl ?_
      refine am_aload_n dX12_bad_16 rfl ?_
      refine am_getR 12 10 56 dX12_bad_17 fg_X12_17 (sh_54 g) (by decide) rfl (rf_54_10 g) ?_
      refine am_iload_n dX12_bad_20 rfl ?_
      refine am_dup2 dX12_bad_21 (fun _ => rfl) (fun _ => rfl) ?_
      obtain ⟨hg4, hyp⟩ := gd_some hyp
      refine am_iald dX12_bad_22 (am_ia.one (sh_56 g)) (am_lit hg4) ?_
      refine am_iconst 1 (v := 1) dX12_bad_23 (by decide) ?_
      refine am_iadd dX12_bad_24 ?_
      refine am_iast dX12_bad_25 (am_ia.one (sh_56 g)) (am_lit hg4) ?_
      refine am_aload_n dX12_bad_26 rfl ?_
      refine am_getI 12 0 dX12_bad_27 fg_X12_103 (sh_54 g) (by decide) rfl ?_
      refine am_if_eq (7) 37 dX12_bad_30 rfl ?_ ?_
      · intro hc5
        have hc5 : x2 = 0 := hc5
        replace hyp := it_pos hc5 hyp
        refine am_iconst 0 (v := 0) dX12_bad_37 (by decide) ?_
        cases hyp
        exact am_zret dX12_bad_38 rfl rfl
      · intro hc5n
        have hc5n : ¬ (x2 = 0) := hc5n
        replace hyp := it_neg hc5n hyp
        refine am_iconst 1 (v := 1) dX12_bad_33 (by decide) ?_
        refine am_goto (4) 38 dX12_bad_34 rfl ?_
        cases hyp
        exact am_zret dX12_bad_38 rfl rfl
theorem ef_X12_byteAt {d : Nat} {h : am_H} (g : lay h) {x1 : Int32} {M : Mem} {v : Int32} (hyp : f_X12_byteAt x1 M = some v) : am_Ev (d + 0) mX12_byteAt [.inr (54, 0), am_I x1] (am_hM h M) (.inl (some (am_I v), am_hM h M)) := by
  unfold f_X12_byteAt at hyp
  refine am_Ev.mk (by decide +kernel) rfl rfl (Nat.le_refl _) (Nat.le_refl _) ?_
  change am_At _ _ _ 0 [_, _] [] _ _
  refine am_iload_n dX12_byteAt_0 rfl ?_
  refine am_aload_n dX12_byteAt_1 rfl ?_
  refine am_getI 12 2 dX12_byteAt_2 fg_X12_109 (sh_54 g) (by decide) rfl ?_
  refine am_icmp_lt (7) 12 dX12_byteAt_5 rfl ?_ ?_
  · intro hc1
    have hc1 : x1 < (M 54 0 2) := hc1
    replace hyp := it_pos hc1 hyp
    refine am_aload_n dX12_byteAt_12 rfl ?_
    refine am_getR 12 9 55 dX12_byteAt_13 fg_X12_13 (sh_54 g) (by decide) rfl (rf_54_9 g) ?_
    refine am_iload_n dX12_byteAt_16 rfl ?_
    obtain ⟨hg2, hyp⟩ := gd_some hyp
    refine am_iald dX12_byteAt_17 (am_ia.one (sh_55 g)) (am_lit hg2) ?_
    cases hyp
    exact am_iret dX12_byteAt_18 rfl
  · intro hc1n
    have hc1n : ¬ (x1 < (M 54 0 2)) := hc1n
    replace hyp := it_neg hc1n hyp
    refine am_iconst (-1) (v := (-1)) dX12_byteAt_8 (by decide) ?_
    refine am_goto (9) 18 dX12_byteAt_9 rfl ?_
    cases hyp
    exact am_iret dX12_byteAt_18 rfl
theorem ef_X12_count {d : Nat} {h : am_H} (g : lay h) {x1 : Int32} {M : Mem} {v : Int32} {M' : Mem} (hyp : f_X12_count x1 M = (v, M')) : am_Ev (d + 0) mX12_count [.inr (54, 0), am_I x1] (am_hM h M) (.inl (some (am_I v), am_hM h M')) := by
  unfold f_X12_count at hyp
  refine am_Ev.mk (by decide +kernel) rfl rfl (Nat.le_refl _) (Nat.le_refl _) ?_
  change am_At _ _ _ 0 [_, _] [] _ _
  refine am_aload_n dX12_count_0 rfl ?_
  refine am_iconst 0 (v := 0) dX12_count_1 (by decide) ?_
  refine am_putI 12 0 dX12_count_2 (Or.inl fp_X12_103) (sh_54 g) (by decide) rfl rfl rfl ?_
  refine am_iload_n dX12_count_5 rfl ?_
  refine am_if_ne (10) 16 dX12_count_6 rfl ?_ ?_
  · intro hc1n
    have hc1n : ¬ (x1 = 0) := hc1n
    replace hyp := it_neg hc1n hyp
    refine am_iload_n dX12_count_16 rfl ?_
    refine am_iconst 1 (v := 1) dX12_count_17 (by decide) ?_
    refine am_icmp_ne (10) 28 dX12_count_18 rfl ?_ ?_
    · intro hc2n
      have hc2n : ¬ (x1 = (1 : Int32)) := hc2n
      replace hyp := it_neg hc2n hyp
      refine am_iload_n dX12_count_28 rfl ?_
      refine am_iconst 2 (v := 2) dX12_count_29 (by decide) ?_
      refine am_icmp_ne (10) 40 dX12_count_30 rfl ?_ ?_
      · intro hc3n
        have hc3n : ¬ (x1 = (2 : Int32)) := hc3n
        replace hyp := it_neg hc3n hyp
        refine am_iconst (-1) (v := (-1)) dX12_count_40 (by decide) ?_
        cases hyp
        exact am_iret dX12_count_41 rfl
      · intro hc3
        have hc3 : x1 = (2 : Int32) := hc3
        replace hyp := it_pos hc3 hyp
        refine am_aload_n dX12_count_33 rfl ?_
        refine am_getI 12 35 dX12_count_34 fg_X12_202 (sh_54 g) (by decide) rfl ?_
        refine am_goto (4) 41 dX12_count_37 rfl ?_
        cases hyp
        exact am_iret dX12_count_41 rfl
    · intro hc2
      have hc2 : x1 = (1 : Int32) := hc2
      replace hyp := it_pos hc2 hyp
      refine am_aload_n dX12_count_21 rfl ?_
      refine am_getI 12 1 dX12_count_22 fg_X12_106 (sh_54 g) (by decide) rfl ?_
      refine am_goto (16) 41 dX12_count_25 rfl ?_
      cases hyp
      exact am_iret dX12_count_41 rfl
  · intro hc1
    have hc1 : x1 = 0 := hc1
    replace hyp := it_pos hc1 hyp
    refine am_aload_n dX12_count_9 rfl ?_
    refine am_getI 12 37 dX12_count_10 fg_X12_208 (sh_54 g) (by decide) rfl ?_
    refine am_goto (28) 41 dX12_count_13 rfl ?_
    cases hyp
    exact am_iret dX12_count_41 rfl
theorem ef_X12_ends {d : Nat} {h : am_H} (g : lay h) {M : Mem} {v : Int32} {M' : Mem} (hyp : f_X12_ends M = (v, M')) : am_Ev (d + 0) mX12_ends [.inr (54, 0)] (am_hM h M) (.inl (some (am_I v), am_hM h M')) := by
  unfold f_X12_ends at hyp
  refine am_Ev.mk (by decide +kernel) rfl rfl (Nat.le_refl _) (Nat.le_refl _) ?_
  change am_At _ _ _ 0 [_] [] _ _
  refine am_aload_n dX12_ends_0 rfl ?_
  refine am_aload_n dX12_ends_1 rfl ?_
  refine am_getI 12 6 dX12_ends_2 fg_X12_122 (sh_54 g) (by decide) rfl ?_
  refine am_putI 12 3 dX12_ends_5 (Or.inl fp_X12_9) (sh_54 g) (by decide) rfl rfl rfl ?_
  refine am_aload_n dX12_ends_8 rfl ?_
  refine am_getI 12 5 dX12_ends_9 fg_X12_119 (sh_54 g) (by decide) rfl ?_
  refine am_bipush 10 (v := 10) dX12_ends_12 (by decide) ?_
  refine am_isub dX12_ends_14 ?_
  cases hyp
  exact am_iret dX12_ends_15 rfl
theorem ef_X12_fault {d : Nat} {h : am_H} (g : lay h) {M : Mem} {v : Int32} {M' : Mem} (hyp : f_X12_fault M = (v, M')) : am_Ev (d + 0) mX12_fault [.inr (54, 0)] (am_hM h M) (.inl (some (am_I v), am_hM h M')) := by
  unfold f_X12_fault at hyp
  refine am_Ev.mk (by decide +kernel) rfl rfl (Nat.le_refl _) (Nat.le_refl _) ?_
  change am_At _ _ _ 0 [_] [] _ _
  refine am_aload_n dX12_fault_0 rfl ?_
  refine am_iconst 0 (v := 0) dX12_fault_1 (by decide) ?_
  refine am_putI 12 0 dX12_fault_2 (Or.inl fp_X12_103) (sh_54 g) (by decide) rfl rfl rfl ?_
  refine am_aload_n dX12_fault_5 rfl ?_
  refine am_getI 12 3 dX12_fault_6 fg_X12_9 (sh_54 g) (by decide) rfl ?_
  cases hyp
  exact am_iret dX12_fault_9 rfl
theorem eL_X12_feed_23 {d : Nat} {h : am_H} (g : lay h) {x1 x2 x3 x4 x5 : Int32} {r : am_R} (n : Nat) : ∀ (s : Int32 × Mem) (e : Mem), wh (L_X12_feed_23 x1 x2 x3 x4 x5) n s = some e → ((fun (M : Mem) => am_At am_X0 (d + 0) mX12_feed 120 [some (.inr (54, 0)), some (am_I (x1)), some (am_I (x2)), some (am_I (x3)), some (am_I (x4)), some (am_I (x5)), none, none] [] (am_hM h M) r) e) → (match s with | (x6, M) => am_At am_X0 (d + 0) mX12_feed 23 [some (.inr (54, 0)), some (am_I (x1)), some (am_I (x2)), some (am_I (x3)), some (am_I (x4)), some (am_I (x5)), some (am_I (x6)), none] [] (am_hM h M) r) := by
  refine am_wh (At := fun (s : Int32 × Mem) => match s with | (x6, M) => am_At am_X0 (d + 0) mX12_feed 23 [some (.inr (54, 0)), some (am_I (x1)), some (am_I (x2)), some (am_I (x3)), some (am_I (x4)), some (am_I (x5)), some (am_I (x6)), none] [] (am_hM h M) r) (Ex := fun (e : Mem) => (fun (M : Mem) => am_At am_X0 (d + 0) mX12_feed 120 [some (.inr (54, 0)), some (am_I (x1)), some (am_I (x2)), some (am_I (x3)), some (am_I (x4)), some (am_I (x5)), none, none] [] (am_hM h M) r) e) ?_ n
  rintro ⟨x6, M⟩ y hyp hx
  unfold L_X12_feed_23 at hyp
  try dsimp only at hyp
  change am_At _ _ _ 23 [_, _, _, _, _, _, _, _] [] _ _
  refine am_iload dX12_feed_23 rfl ?_
  refine am_bipush 20 (v := 20) dX12_feed_25 (by decide) ?_
  refine am_icmp_ge (93) 120 dX12_feed_27 rfl ?_ ?_
  · intro hc2
    have hc2 : (20 : Int32) ≤ x6 := hc2
    replace hyp := it_pos hc2 hyp
    cases hyp
    refine am_At.drop 6 ?_
    exact hx
  · intro hc2n
    have hc2n : ¬ ((20 : Int32) ≤ x6) := hc2n
    replace hyp := it_neg hc2n hyp
    refine am_iload dX12_feed_30 rfl ?_
    refine am_iconst 4 (v := 4) dX12_feed_32 (by decide) ?_
    refine am_icmp_ge (7) 40 dX12_feed_33 rfl ?_ ?_
    · intro hc3
      have hc3 : (4 : Int32) ≤ x6 := hc3
      replace hyp := it_pos hc3 hyp
      refine am_iload dX12_feed_40 rfl ?_
      refine am_bipush 8 (v := 8) dX12_feed_42 (by decide) ?_
      refine am_icmp_ge (7) 51 dX12_feed_44 rfl ?_ ?_
      · intro hc4
        have hc4 : (8 : Int32) ≤ x6 := hc4
        replace hyp := it_pos hc4 hyp
        refine am_iload dX12_feed_51 rfl ?_
        refine am_bipush 12 (v := 12) dX12_feed_53 (by decide) ?_
        refine am_icmp_ge (7) 62 dX12_feed_55 rfl ?_ ?_
        · intro hc5
          have hc5 : (12 : Int32) ≤ x6 := hc5
          replace hyp := it_pos hc5 hyp
          refine am_iload dX12_feed_62 rfl ?_
          refine am_bipush 16 (v := 16) dX12_feed_64 (by decide) ?_
          refine am_icmp_ge (8) 74 dX12_feed_66 rfl ?_ ?_
          · intro hc6
            have hc6 : (16 : Int32) ≤ x6 := hc6
            replace hyp := it_pos hc6 hyp
            refine am_iload dX12_feed_74 rfl ?_
            refine am_istore dX12_feed_76 (am_lb rfl) ?_
            change am_At _ _ _ 78 [_, _, _, _, _, _, _, _] [] _ _
            refine am_aload_n dX12_feed_78 rfl ?_
            refine am_getR 12 9 55 dX12_feed_79 fg_X12_13 (sh_54 g) (by decide) rfl (rf_54_9 g) ?_
            refine am_aload_n dX12_feed_82 rfl ?_
            refine am_getI 12 1 dX12_feed_83 fg_X12_106 (sh_54 g) (by decide) rfl ?_
            refine am_iload dX12_feed_86 rfl ?_
            refine am_bipush 24 (v := 24) dX12_feed_88 (by decide) ?_
            refine am_bipush 8 (v := 8) dX12_feed_90 (by decide) ?_
            refine am_iload dX12_feed_92 rfl ?_
            refine am_iconst 4 (v := 4) dX12_feed_94 (by decide) ?_
            refine am_irem dX12_feed_95 (by decide) ?_
            refine am_imul dX12_feed_96 ?_
            refine am_isub dX12_feed_97 ?_
            refine am_ishr dX12_feed_98 ?_
            refine am_sipush 255 (v := 255) dX12_feed_99 (by decide) ?_
            refine am_iand dX12_feed_102 ?_
            obtain ⟨hg7, hyp⟩ := gd_some hyp
            refine am_iast dX12_feed_103 (am_ia.one (sh_55 g)) (am_lit hg7) ?_
            refine am_aload_n dX12_feed_104 rfl ?_
            refine am_dup dX12_feed_105 (fun _ => rfl) ?_
            refine am_getI 12 1 dX12_feed_106 fg_X12_106 (sh_54 g) (by decide) rfl ?_
            refine am_iconst 1 (v := 1) dX12_feed_109 (by decide) ?_
            refine am_iadd dX12_feed_110 ?_
            refine am_putI 12 1 dX12_feed_111 (Or.inl fp_X12_106) (sh_54 g) (by decide) rfl rfl rfl ?_
            refine am_iinc dX12_feed_114 rfl (am_ix _) ?_
            change am_At _ _ _ 117 [_, _, _, _, _, _, _, _] [] _ _
            refine am_goto (-94) 23 dX12_feed_117 rfl ?_
            cases hyp
            refine am_At.drop 7 ?_
            exact hx
          · intro hc6n
            have hc6n : ¬ ((16 : Int32) ≤ x6) := hc6n
            replace hyp := it_neg hc6n hyp
            refine am_iload dX12_feed_69 rfl ?_
            refine am_goto (5) 76 dX12_feed_71 rfl ?_
            refine am_istore dX12_feed_76 (am_lb rfl) ?_
            change am_At _ _ _ 78 [_, _, _, _, _, _, _, _] [] _ _
            refine am_aload_n dX12_feed_78 rfl ?_
            refine am_getR 12 9 55 dX12_feed_79 fg_X12_13 (sh_54 g) (by decide) rfl (rf_54_9 g) ?_
            refine am_aload_n dX12_feed_82 rfl ?_
            refine am_getI 12 1 dX12_feed_83 fg_X12_106 (sh_54 g) (by decide) rfl ?_
            refine am_iload dX12_feed_86 rfl ?_
            refine am_bipush 24 (v := 24) dX12_feed_88 (by decide) ?_
            refine am_bipush 8 (v := 8) dX12_feed_90 (by decide) ?_
            refine am_iload dX12_feed_92 rfl ?_
            refine am_iconst 4 (v := 4) dX12_feed_94 (by decide) ?_
            refine am_irem dX12_feed_95 (by decide) ?_
            refine am_imul dX12_feed_96 ?_
            refine am_isub dX12_feed_97 ?_
            refine am_ishr dX12_feed_98 ?_
            refine am_sipush 255 (v := 255) dX12_feed_99 (by decide) ?_
            refine am_iand dX12_feed_102 ?_
            obtain ⟨hg8, hyp⟩ := gd_some hyp
            refine am_iast dX12_feed_103 (am_ia.one (sh_55 g)) (am_lit hg8) ?_
            refine am_aload_n dX12_feed_104 rfl ?_
            refine am_dup dX12_feed_105 (fun _ => rfl) ?_
            refine am_getI 12 1 dX12_feed_106 fg_X12_106 (sh_54 g) (by decide) rfl ?_
            refine am_iconst 1 (v := 1) dX12_feed_109 (by decide) ?_
            refine am_iadd dX12_feed_110 ?_
            refine am_putI 12 1 dX12_feed_111 (Or.inl fp_X12_106) (sh_54 g) (by decide) rfl rfl rfl ?_
            refine am_iinc dX12_feed_114 rfl (am_ix _) ?_
            change am_At _ _ _ 117 [_, _, _, _, _, _, _, _] [] _ _
            refine am_goto (-94) 23 dX12_feed_117 rfl ?_
            cases hyp
            refine am_At.drop 7 ?_
            exact hx
        · intro hc5n
          have hc5n : ¬ ((12 : Int32) ≤ x6) := hc5n
          replace hyp := it_neg hc5n hyp
          refine am_iload_n dX12_feed_58 rfl ?_
          refine am_goto (17) 76 dX12_feed_59 rfl ?_
          refine am_istore dX12_feed_76 (am_lb rfl) ?_
          change am_At _ _ _ 78 [_, _, _, _, _, _, _, _] [] _ _
          refine am_aload_n dX12_feed_78 rfl ?_
          refine am_getR 12 9 55 dX12_feed_79 fg_X12_13 (sh_54 g) (by decide) rfl (rf_54_9 g) ?_
          refine am_aload_n dX12_feed_82 rfl ?_
          refine am_getI 12 1 dX12_feed_83 fg_X12_106 (sh_54 g) (by decide) rfl ?_
          refine am_iload dX12_feed_86 rfl ?_
          refine am_bipush 24 (v := 24) dX12_feed_88 (by decide) ?_
          refine am_bipush 8 (v := 8) dX12_feed_90 (by decide) ?_
          refine am_iload dX12_feed_92 rfl ?_
          refine am_iconst 4 (v := 4) dX12_feed_94 (by decide) ?_
          refine am_irem dX12_feed_95 (by decide) ?_
          refine am_imul dX12_feed_96 ?_
          refine am_isub dX12_feed_97 ?_
          refine am_ishr dX12_feed_98 ?_
          refine am_sipush 255 (v := 255) dX12_feed_99 (by decide) ?_
          refine am_iand dX12_feed_102 ?_
          obtain ⟨hg9, hyp⟩ := gd_some hyp
          refine am_iast dX12_feed_103 (am_ia.one (sh_55 g)) (am_lit hg9) ?_
          refine am_aload_n dX12_feed_104 rfl ?_
          refine am_dup dX12_feed_105 (fun _ => rfl) ?_
          refine am_getI 12 1 dX12_feed_106 fg_X12_106 (sh_54 g) (by decide) rfl ?_
          refine am_iconst 1 (v := 1) dX12_feed_109 (by decide) ?_
          refine am_iadd dX12_feed_110 ?_
          refine am_putI 12 1 dX12_feed_111 (Or.inl fp_X12_106) (sh_54 g) (by decide) rfl rfl rfl ?_
          refine am_iinc dX12_feed_114 rfl (am_ix _) ?_
          change am_At _ _ _ 117 [_, _, _, _, _, _, _, _] [] _ _
          refine am_goto (-94) 23 dX12_feed_117 rfl ?_
          cases hyp
          refine am_At.drop 7 ?_
          exact hx
      · intro hc4n
        have hc4n : ¬ ((8 : Int32) ≤ x6) := hc4n
        replace hyp := it_neg hc4n hyp
        refine am_iload_n dX12_feed_47 rfl ?_
        refine am_goto (28) 76 dX12_feed_48 rfl ?_
        refine am_istore dX12_feed_76 (am_lb rfl) ?_
        change am_At _ _ _ 78 [_, _, _, _, _, _, _, _] [] _ _
        refine am_aload_n dX12_feed_78 rfl ?_
        refine am_getR 12 9 55 dX12_feed_79 fg_X12_13 (sh_54 g) (by decide) rfl (rf_54_9 g) ?_
        refine am_aload_n dX12_feed_82 rfl ?_
        refine am_getI 12 1 dX12_feed_83 fg_X12_106 (sh_54 g) (by decide) rfl ?_
        refine am_iload dX12_feed_86 rfl ?_
        refine am_bipush 24 (v := 24) dX12_feed_88 (by decide) ?_
        refine am_bipush 8 (v := 8) dX12_feed_90 (by decide) ?_
        refine am_iload dX12_feed_92 rfl ?_
        refine am_iconst 4 (v := 4) dX12_feed_94 (by decide) ?_
        refine am_irem dX12_feed_95 (by decide) ?_
        refine am_imul dX12_feed_96 ?_
        refine am_isub dX12_feed_97 ?_
        refine am_ishr dX12_feed_98 ?_
        refine am_sipush 255 (v := 255) dX12_feed_99 (by decide) ?_
        refine am_iand dX12_feed_102 ?_
        obtain ⟨hg10, hyp⟩ := gd_some hyp
        refine am_iast dX12_feed_103 (am_ia.one (sh_55 g)) (am_lit hg10) ?_
        refine am_aload_n dX12_feed_104 rfl ?_
        refine am_dup dX12_feed_105 (fun _ => rfl) ?_
        refine am_getI 12 1 dX12_feed_106 fg_X12_106 (sh_54 g) (by decide) rfl ?_
        refine am_iconst 1 (v := 1) dX12_feed_109 (by decide) ?_
        refine am_iadd dX12_feed_110 ?_
        refine am_putI 12 1 dX12_feed_111 (Or.inl fp_X12_106) (sh_54 g) (by decide) rfl rfl rfl ?_
        refine am_iinc dX12_feed_114 rfl (am_ix _) ?_
        change am_At _ _ _ 117 [_, _, _, _, _, _, _, _] [] _ _
        refine am_goto (-94) 23 dX12_feed_117 rfl ?_
        cases hyp
        refine am_At.drop 7 ?_
        exact hx
    · intro hc3n
      have hc3n : ¬ ((4 : Int32) ≤ x6) := hc3n
      replace hyp := it_neg hc3n hyp
      refine am_iload_n dX12_feed_36 rfl ?_
      refine am_goto (39) 76 dX12_feed_37 rfl ?_
      refine am_istore dX12_feed_76 (am_lb rfl) ?_
      change am_At _ _ _ 78 [_, _, _, _, _, _, _, _] [] _ _
      refine am_aload_n dX12_feed_78 rfl ?_
      refine am_getR 12 9 55 dX12_feed_79 fg_X12_13 (sh_54 g) (by decide) rfl (rf_54_9 g) ?_
      refine am_aload_n dX12_feed_82 rfl ?_
      refine am_getI 12 1 dX12_feed_83 fg_X12_106 (sh_54 g) (by decide) rfl ?_
      refine am_iload dX12_feed_86 rfl ?_
      refine am_bipush 24 (v := 24) dX12_feed_88 (by decide) ?_
      refine am_bipush 8 (v := 8) dX12_feed_90 (by decide) ?_
      refine am_iload dX12_feed_92 rfl ?_
      refine am_iconst 4 (v := 4) dX12_feed_94 (by decide) ?_
      refine am_irem dX12_feed_95 (by decide) ?_
      refine am_imul dX12_feed_96 ?_
      refine am_isub dX12_feed_97 ?_
      refine am_ishr dX12_feed_98 ?_
      refine am_sipush 255 (v := 255) dX12_feed_99 (by decide) ?_
      refine am_iand dX12_feed_102 ?_
      obtain ⟨hg11, hyp⟩ := gd_some hyp
      refine am_iast dX12_feed_103 (am_ia.one (sh_55 g)) (am_lit hg11) ?_
      refine am_aload_n dX12_feed_104 rfl ?_
      refine am_dup dX12_feed_105 (fun _ => rfl) ?_
      refine am_getI 12 1 dX12_feed_106 fg_X12_106 (sh_54 g) (by decide) rfl ?_
      refine am_iconst 1 (v := 1) dX12_feed_109 (by decide) ?_
      refine am_iadd dX12_feed_110 ?_
      refine am_putI 12 1 dX12_feed_111 (Or.inl fp_X12_106) (sh_54 g) (by decide) rfl rfl rfl ?_
      refine am_iinc dX12_feed_114 rfl (am_ix _) ?_
      change am_At _ _ _ 117 [_, _, _, _, _, _, _, _] [] _ _
      refine am_goto (-94) 23 dX12_feed_117 rfl ?_
      cases hyp
      refine am_At.drop 7 ?_
      exact hx
theorem ef_X12_feed {d : Nat} {h : am_H} (g : lay h) {x1 x2 x3 x4 x5 : Int32} {M : Mem} {v : Int32} {M' : Mem} (hyp : f_X12_feed x1 x2 x3 x4 x5 M = some (v, M')) : am_Ev (d + 0) mX12_feed [.inr (54, 0), am_I x1, am_I x2, am_I x3, am_I x4, am_I x5] (am_hM h M) (.inl (some (am_I v), am_hM h M')) := by
  unfold f_X12_feed at hyp
  refine am_Ev.mk (by decide +kernel) rfl rfl (Nat.le_refl _) (Nat.le_refl _) ?_
  change am_At _ _ _ 0 [_, _, _, _, _, _, _, _] [] _ _
  refine am_aload_n dX12_feed_0 rfl ?_
  refine am_iconst 0 (v := 0) dX12_feed_1 (by decide) ?_
  refine am_putI 12 0 dX12_feed_2 (Or.inl fp_X12_103) (sh_54 g) (by decide) rfl rfl rfl ?_
  refine am_aload_n dX12_feed_5 rfl ?_
  refine am_getI 12 1 dX12_feed_6 fg_X12_106 (sh_54 g) (by decide) rfl ?_
  refine am_bipush 20 (v := 20) dX12_feed_9 (by decide) ?_
  refine am_iadd dX12_feed_11 ?_
  refine am_sipush 600 (v := 600) dX12_feed_12 (by decide) ?_
  refine am_icmp_le (5) 20 dX12_feed_15 rfl ?_ ?_
  · intro hc1
    have hc1 : ((M 54 0 1) + (20 : Int32)) ≤ (600 : Int32) := hc1
    replace hyp := it_pos hc1 hyp
    refine am_iconst 0 (v := 0) dX12_feed_20 (by decide) ?_
    refine am_istore dX12_feed_21 (am_lb rfl) ?_
    change am_At _ _ _ 23 [_, _, _, _, _, _, _, _] [] _ _
    obtain ⟨M12, hw12, hyp⟩ := bd_some hyp
    try dsimp only at hyp
    refine eL_X12_feed_23 (d := d) (h := h) g  FU ((0 : Int32), (am_u3 M 54 0 0 (0 : Int32))) M12 hw12 ?_
    change am_At _ _ _ 120 [_, _, _, _, _, _, _, _] [] _ _
    refine am_aload_n dX12_feed_120 rfl ?_
    refine am_getI 12 1 dX12_feed_121 fg_X12_106 (sh_54 g) (by decide) rfl ?_
    cases hyp
    exact am_iret dX12_feed_124 rfl
  · intro hc1n
    have hc1n : ¬ (((M 54 0 1) + (20 : Int32)) ≤ (600 : Int32)) := hc1n
    replace hyp := it_neg hc1n hyp
    refine am_iconst (-1) (v := (-1)) dX12_feed_18 (by decide) ?_
    cases hyp
    exact am_iret dX12_feed_19 rfl
theorem isb_X12_has (x0 x1 : Int32) : isb (f_X12_has x0 x1) = true := by
  unfold f_X12_has
  (repeat' split) <;> rfl
theorem ef_X12_has {d : Nat} {h : am_H} {x0 x1 : Int32} {v : Int32} (hyp : f_X12_has x0 x1 = v) : am_Ev (d + 0) mX12_has [am_I x0, am_I x1] h (.inl (some (am_I v), h)) := by
  unfold f_X12_has at hyp
  refine am_Ev.mk (by decide +kernel) rfl rfl (Nat.le_refl _) (Nat.le_refl _) ?_
  change am_At _ _ _ 0 [_, _] [] _ _
  refine am_iload_n dX12_has_0 rfl ?_
  refine am_iload_n dX12_has_1 rfl ?_
  refine am_ishr dX12_has_2 ?_
  refine am_iconst 1 (v := 1) dX12_has_3 (by decide) ?_
  refine am_iand dX12_has_4 ?_
  refine am_iconst 1 (v := 1) dX12_has_5 (by decide) ?_
  refine am_icmp_ne (7) 13 dX12_has_6 rfl ?_ ?_
  · intro hc1n
    have hc1n : ¬ (((x0 >>> (x1 &&& 31)) &&& (1 : Int32)) = (1 : Int32)) := hc1n
    replace hyp := it_neg hc1n hyp
    refine am_iconst 0 (v := 0) dX12_has_13 (by decide) ?_
    cases hyp
    exact am_zret dX12_has_14 rfl rfl
  · intro hc1
    have hc1 : ((x0 >>> (x1 &&& 31)) &&& (1 : Int32)) = (1 : Int32) := hc1
    replace hyp := it_pos hc1 hyp
    refine am_iconst 1 (v := 1) dX12_has_9 (by decide) ?_
    refine am_goto (4) 14 dX12_has_10 rfl ?_
    cases hyp
    exact am_zret dX12_has_14 rfl rfl
theorem isb_X12_in (x0 x1 x2 : Int32) : isb (f_X12_in x0 x1 x2) = true := by
  unfold f_X12_in
  (repeat' split) <;> rfl
theorem ef_X12_in {d : Nat} {h : am_H} {x0 x1 x2 : Int32} {v : Int32} (hyp : f_X12_in x0 x1 x2 = v) : am_Ev (d + 0) mX12_in [am_I x0, am_I x1, am_I x2] h (.inl (some (am_I v), h)) := by
  unfold f_X12_in at hyp
  refine am_Ev.mk (by decide +kernel) rfl rfl (Nat.le_refl _) (Nat.le_refl _) ?_
  change am_At _ _ _ 0 [_, _, _] [] _ _
  refine am_iload_n dX12_in_0 rfl ?_
  refine am_iload_n dX12_in_1 rfl ?_
  refine am_icmp_lt (12) 14 dX12_in_2 rfl ?_ ?_
  · intro hc1
    have hc1 : x0 < x1 := hc1
    replace hyp := it_pos hc1 hyp
    refine am_iconst 0 (v := 0) dX12_in_14 (by decide) ?_
    cases hyp
    exact am_zret dX12_in_15 rfl rfl
  · intro hc1n
    have hc1n : ¬ (x0 < x1) := hc1n
    replace hyp := it_neg hc1n hyp
    refine am_iload_n dX12_in_5 rfl ?_
    refine am_iload_n dX12_in_6 rfl ?_
    refine am_icmp_gt (7) 14 dX12_in_7 rfl ?_ ?_
    · intro hc2
      have hc2 : x2 < x0 := hc2
      replace hyp := it_pos hc2 hyp
      refine am_iconst 0 (v := 0) dX12_in_14 (by decide) ?_
      cases hyp
      exact am_zret dX12_in_15 rfl rfl
    · intro hc2n
      have hc2n : ¬ (x2 < x0) := hc2n
      replace hyp := it_neg hc2n hyp
      refine am_iconst 1 (v := 1) dX12_in_10 (by decide) ?_
      refine am_goto (4) 15 dX12_in_11 rfl ?_
      cases hyp
      exact am_zret dX12_in_15 rfl rfl
theorem ef_X12_isBoard {d : Nat} {h : am_H} (g : lay h) {x1 : Int32} {M : Mem} {v : Int32} (hyp : f_X12_isBoard x1 M = v) : am_Ev (d + 1) mX12_isBoard [.inr (54, 0), am_I x1] (am_hM h M) (.inl (some (am_I v), am_hM h M)) := by
  unfold f_X12_isBoard at hyp
  refine am_Ev.mk (by decide +kernel) rfl rfl (Nat.le_refl _) (Nat.le_refl _) ?_
  change am_At _ _ _ 0 [_, _] [] _ _
  refine am_iload_n dX12_isBoard_0 rfl ?_
  refine am_iconst 0 (v := 0) dX12_isBoard_1 (by decide) ?_
  refine am_aload_n dX12_isBoard_2 rfl ?_
  refine am_getR 12 12 58 dX12_isBoard_3 fg_X12_23 (sh_54 g) (by decide) rfl (rf_54_12 g) ?_
  refine am_iconst 0 (v := 0) dX12_isBoard_6 (by decide) ?_
  refine am_iald dX12_isBoard_7 (am_ia.one (sh_58 g)) (am_lit rfl) ?_
  refine am_iconst 1 (v := 1) dX12_isBoard_8 (by decide) ?_
  refine am_isub dX12_isBoard_9 ?_
  refine am_callS (c := 0) (k := 0) (n := 0) (w := 0) [_, _, _] dX12_isBoard_10 ml_X12_137 sm_X12_in rfl (fun _ => Nat.le_of_ble_eq_true rfl) (by omega) rfl (ef_X12_in (d := d + 0) (h := am_hM h M) (x0 := x1) (x1 := (0 : Int32)) (x2 := ((M 58 0 0) - (1 : Int32)))  rfl) rfl ?_
  change am_At _ _ _ 13 [_, _] [_] _ _
  cases hyp
  exact am_zret dX12_isBoard_13 rfl (isb_nf (isb_X12_in _ _ _)).1
theorem isb_X12_isDigit (x0 : Int32) : isb (f_X12_isDigit x0) = true := by
  unfold f_X12_isDigit
  (repeat' split) <;> rfl
theorem ef_X12_isDigit {d : Nat} {h : am_H} {x0 : Int32} {v : Int32} (hyp : f_X12_isDigit x0 = v) : am_Ev (d + 0) mX12_isDigit [am_I x0] h (.inl (some (am_I v), h)) := by
  unfold f_X12_isDigit at hyp
  refine am_Ev.mk (by decide +kernel) rfl rfl (Nat.le_refl _) (Nat.le_refl _) ?_
  change am_At _ _ _ 0 [_] [] _ _
  refine am_iload_n dX12_isDigit_0 rfl ?_
  refine am_bipush 48 (v := 48) dX12_isDigit_1 (by decide) ?_
  refine am_icmp_lt (13) 16 dX12_isDigit_3 rfl ?_ ?_
  · intro hc1
    have hc1 : x0 < (48 : Int32) := hc1
    replace hyp := it_pos hc1 hyp
    refine am_iconst 0 (v := 0) dX12_isDigit_16 (by decide) ?_
    cases hyp
    exact am_zret dX12_isDigit_17 rfl rfl
  · intro hc1n
    have hc1n : ¬ (x0 < (48 : Int32)) := hc1n
    replace hyp := it_neg hc1n hyp
    refine am_iload_n dX12_isDigit_6 rfl ?_
    refine am_bipush 57 (v := 57) dX12_isDigit_7 (by decide) ?_
    refine am_icmp_gt (7) 16 dX12_isDigit_9 rfl ?_ ?_
    · intro hc2
      have hc2 : (57 : Int32) < x0 := hc2
      replace hyp := it_pos hc2 hyp
      refine am_iconst 0 (v := 0) dX12_isDigit_16 (by decide) ?_
      cases hyp
      exact am_zret dX12_isDigit_17 rfl rfl
    · intro hc2n
      have hc2n : ¬ ((57 : Int32) < x0) := hc2n
      replace hyp := it_neg hc2n hyp
      refine am_iconst 1 (v := 1) dX12_isDigit_12 (by decide) ?_
      refine am_goto (4) 17 dX12_isDigit_13 rfl ?_
      cases hyp
      exact am_zret dX12_isDigit_17 rfl rfl
theorem isb_X12_isFull (x1 : Int32) (M : Mem) : isb (f_X12_isFull x1 M) = true := by
  unfold f_X12_isFull
  (repeat' split) <;> rfl
theorem ef_X12_isFull {d : Nat} {h : am_H} (g : lay h) {x1 : Int32} {M : Mem} {v : Int32} (hyp : f_X12_isFull x1 M = v) : am_Ev (d + 0) mX12_isFull [.inr (54, 0), am_I x1] (am_hM h M) (.inl (some (am_I v), am_hM h M)) := by
  unfold f_X12_isFull at hyp
  refine am_Ev.mk (by decide +kernel) rfl rfl (Nat.le_refl _) (Nat.le_refl _) ?_
  change am_At _ _ _ 0 [_, _] [] _ _
  refine am_iload_n dX12_isFull_0 rfl ?_
  refine am_if_ne (14) 15 dX12_isFull_1 rfl ?_ ?_
  · intro hc1n
    have hc1n : ¬ (x1 = 0) := hc1n
    replace hyp := it_neg hc1n hyp
    refine am_iload_n dX12_isFull_15 rfl ?_
    refine am_iconst 1 (v := 1) dX12_isFull_16 (by decide) ?_
    refine am_icmp_ne (13) 30 dX12_isFull_17 rfl ?_ ?_
    · intro hc2n
      have hc2n : ¬ (x1 = (1 : Int32)) := hc2n
      replace hyp := it_neg hc2n hyp
      refine am_iload_n dX12_isFull_30 rfl ?_
      refine am_iconst 2 (v := 2) dX12_isFull_31 (by decide) ?_
      refine am_icmp_ne (18) 50 dX12_isFull_32 rfl ?_ ?_
      · intro hc3n
        have hc3n : ¬ (x1 = (2 : Int32)) := hc3n
        replace hyp := it_neg hc3n hyp
        refine am_iconst 0 (v := 0) dX12_isFull_50 (by decide) ?_
        cases hyp
        exact am_zret dX12_isFull_51 rfl rfl
      · intro hc3
        have hc3 : x1 = (2 : Int32) := hc3
        replace hyp := it_pos hc3 hyp
        refine am_aload_n dX12_isFull_35 rfl ?_
        refine am_getR 12 11 57 dX12_isFull_36 fg_X12_20 (sh_54 g) (by decide) rfl (rf_54_11 g) ?_
        refine am_iconst 2 (v := 2) dX12_isFull_39 (by decide) ?_
        refine am_iald dX12_isFull_40 (am_ia.one (sh_57 g)) (am_lit rfl) ?_
        refine am_bipush 8 (v := 8) dX12_isFull_41 (by decide) ?_
        refine am_icmp_ne (7) 50 dX12_isFull_43 rfl ?_ ?_
        · intro hc4n
          have hc4n : ¬ ((M 57 0 2) = (8 : Int32)) := hc4n
          replace hyp := it_neg hc4n hyp
          refine am_iconst 0 (v := 0) dX12_isFull_50 (by decide) ?_
          cases hyp
          exact am_zret dX12_isFull_51 rfl rfl
        · intro hc4
          have hc4 : (M 57 0 2) = (8 : Int32) := hc4
          replace hyp := it_pos hc4 hyp
          refine am_iconst 1 (v := 1) dX12_isFull_46 (by decide) ?_
          refine am_goto (4) 51 dX12_isFull_47 rfl ?_
          cases hyp
          exact am_zret dX12_isFull_51 rfl rfl
    · intro hc2
      have hc2 : x1 = (1 : Int32) := hc2
      replace hyp := it_pos hc2 hyp
      refine am_aload_n dX12_isFull_20 rfl ?_
      refine am_getR 12 11 57 dX12_isFull_21 fg_X12_20 (sh_54 g) (by decide) rfl (rf_54_11 g) ?_
      refine am_iconst 1 (v := 1) dX12_isFull_24 (by decide) ?_
      refine am_iald dX12_isFull_25 (am_ia.one (sh_57 g)) (am_lit rfl) ?_
      refine am_iconst 4 (v := 4) dX12_isFull_26 (by decide) ?_
      refine am_icmp_eq (19) 46 dX12_isFull_27 rfl ?_ ?_
      · intro hc5
        have hc5 : (M 57 0 1) = (4 : Int32) := hc5
        replace hyp := it_pos hc5 hyp
        refine am_iconst 1 (v := 1) dX12_isFull_46 (by decide) ?_
        refine am_goto (4) 51 dX12_isFull_47 rfl ?_
        cases hyp
        exact am_zret dX12_isFull_51 rfl rfl
      · intro hc5n
        have hc5n : ¬ ((M 57 0 1) = (4 : Int32)) := hc5n
        replace hyp := it_neg hc5n hyp
        refine am_iload_n dX12_isFull_30 rfl ?_
        refine am_iconst 2 (v := 2) dX12_isFull_31 (by decide) ?_
        refine am_icmp_ne (18) 50 dX12_isFull_32 rfl ?_ ?_
        · intro hc6n
          have hc6n : ¬ (x1 = (2 : Int32)) := hc6n
          replace hyp := it_neg hc6n hyp
          refine am_iconst 0 (v := 0) dX12_isFull_50 (by decide) ?_
          cases hyp
          exact am_zret dX12_isFull_51 rfl rfl
        · intro hc6
          have hc6 : x1 = (2 : Int32) := hc6
          replace hyp := it_pos hc6 hyp
          refine am_aload_n dX12_isFull_35 rfl ?_
          refine am_getR 12 11 57 dX12_isFull_36 fg_X12_20 (sh_54 g) (by decide) rfl (rf_54_11 g) ?_
          refine am_iconst 2 (v := 2) dX12_isFull_39 (by decide) ?_
          refine am_iald dX12_isFull_40 (am_ia.one (sh_57 g)) (am_lit rfl) ?_
          refine am_bipush 8 (v := 8) dX12_isFull_41 (by decide) ?_
          refine am_icmp_ne (7) 50 dX12_isFull_43 rfl ?_ ?_
          · intro hc7n
            have hc7n : ¬ ((M 57 0 2) = (8 : Int32)) := hc7n
            replace hyp := it_neg hc7n hyp
            refine am_iconst 0 (v := 0) dX12_isFull_50 (by decide) ?_
            cases hyp
            exact am_zret dX12_isFull_51 rfl rfl
          · intro hc7
            have hc7 : (M 57 0 2) = (8 : Int32) := hc7
            replace hyp := it_pos hc7 hyp
            refine am_iconst 1 (v := 1) dX12_isFull_46 (by decide) ?_
            refine am_goto (4) 51 dX12_isFull_47 rfl ?_
            cases hyp
            exact am_zret dX12_isFull_51 rfl rfl
  · intro hc1
    have hc1 : x1 = 0 := hc1
    replace hyp := it_pos hc1 hyp
    refine am_aload_n dX12_isFull_4 rfl ?_
    refine am_getR 12 11 57 dX12_isFull_5 fg_X12_20 (sh_54 g) (by decide) rfl (rf_54_11 g) ?_
    refine am_iconst 0 (v := 0) dX12_isFull_8 (by decide) ?_
    refine am_iald dX12_isFull_9 (am_ia.one (sh_57 g)) (am_lit rfl) ?_
    refine am_bipush 16 (v := 16) dX12_isFull_10 (by decide) ?_
    refine am_icmp_eq (34) 46 dX12_isFull_12 rfl ?_ ?_
    · intro hc8
      have hc8 : (M 57 0 0) = (16 : Int32) := hc8
      replace hyp := it_pos hc8 hyp
      refine am_iconst 1 (v := 1) dX12_isFull_46 (by decide) ?_
      refine am_goto (4) 51 dX12_isFull_47 rfl ?_
      cases hyp
      exact am_zret dX12_isFull_51 rfl rfl
    · intro hc8n
      have hc8n : ¬ ((M 57 0 0) = (16 : Int32)) := hc8n
      replace hyp := it_neg hc8n hyp
      refine am_iload_n dX12_isFull_15 rfl ?_
      refine am_iconst 1 (v := 1) dX12_isFull_16 (by decide) ?_
      refine am_icmp_ne (13) 30 dX12_isFull_17 rfl ?_ ?_
      · intro hc9n
        have hc9n : ¬ (x1 = (1 : Int32)) := hc9n
        replace hyp := it_neg hc9n hyp
        refine am_iload_n dX12_isFull_30 rfl ?_
        refine am_iconst 2 (v := 2) dX12_isFull_31 (by decide) ?_
        refine am_icmp_ne (18) 50 dX12_isFull_32 rfl ?_ ?_
        · intro hc10n
          have hc10n : ¬ (x1 = (2 : Int32)) := hc10n
          replace hyp := it_neg hc10n hyp
          refine am_iconst 0 (v := 0) dX12_isFull_50 (by decide) ?_
          cases hyp
          exact am_zret dX12_isFull_51 rfl rfl
        · intro hc10
          have hc10 : x1 = (2 : Int32) := hc10
          replace hyp := it_pos hc10 hyp
          refine am_aload_n dX12_isFull_35 rfl ?_
          refine am_getR 12 11 57 dX12_isFull_36 fg_X12_20 (sh_54 g) (by decide) rfl (rf_54_11 g) ?_
          refine am_iconst 2 (v := 2) dX12_isFull_39 (by decide) ?_
          refine am_iald dX12_isFull_40 (am_ia.one (sh_57 g)) (am_lit rfl) ?_
          refine am_bipush 8 (v := 8) dX12_isFull_41 (by decide) ?_
          refine am_icmp_ne (7) 50 dX12_isFull_43 rfl ?_ ?_
          · intro hc11n
            have hc11n : ¬ ((M 57 0 2) = (8 : Int32)) := hc11n
            replace hyp := it_neg hc11n hyp
            refine am_iconst 0 (v := 0) dX12_isFull_50 (by decide) ?_
            cases hyp
            exact am_zret dX12_isFull_51 rfl rfl
          · intro hc11
            have hc11 : (M 57 0 2) = (8 : Int32) := hc11
            replace hyp := it_pos hc11 hyp
            refine am_iconst 1 (v := 1) dX12_isFull_46 (by decide) ?_
            refine am_goto (4) 51 dX12_isFull_47 rfl ?_
            cases hyp
            exact am_zret dX12_isFull_51 rfl rfl
      · intro hc9
        have hc9 : x1 = (1 : Int32) := hc9
        replace hyp := it_pos hc9 hyp
        refine am_aload_n dX12_isFull_20 rfl ?_
        refine am_getR 12 11 57 dX12_isFull_21 fg_X12_20 (sh_54 g) (by decide) rfl (rf_54_11 g) ?_
        refine am_iconst 1 (v := 1) dX12_isFull_24 (by decide) ?_
        refine am_iald dX12_isFull_25 (am_ia.one (sh_57 g)) (am_lit rfl) ?_
        refine am_iconst 4 (v := 4) dX12_isFull_26 (by decide) ?_
        refine am_icmp_eq (19) 46 dX12_isFull_27 rfl ?_ ?_
        · intro hc12
          have hc12 : (M 57 0 1) = (4 : Int32) := hc12
          replace hyp := it_pos hc12 hyp
          refine am_iconst 1 (v := 1) dX12_isFull_46 (by decide) ?_
          refine am_goto (4) 51 dX12_isFull_47 rfl ?_
          cases hyp
          exact am_zret dX12_isFull_51 rfl rfl
        · intro hc12n
          have hc12n : ¬ ((M 57 0 1) = (4 : Int32)) := hc12n
          replace hyp := it_neg hc12n hyp
          refine am_iload_n dX12_isFull_30 rfl ?_
          refine am_iconst 2 (v := 2) dX12_isFull_31 (by decide) ?_
          refine am_icmp_ne (18) 50 dX12_isFull_32 rfl ?_ ?_
          · intro hc13n
            have hc13n : ¬ (x1 = (2 : Int32)) := hc13n
            replace hyp := it_neg hc13n hyp
            refine am_iconst 0 (v := 0) dX12_isFull_50 (by decide) ?_
            cases hyp
            exact am_zret dX12_isFull_51 rfl rfl
          · intro hc13
            have hc13 : x1 = (2 : Int32) := hc13
            replace hyp := it_pos hc13 hyp
            refine am_aload_n dX12_isFull_35 rfl ?_
            refine am_getR 12 11 57 dX12_isFull_36 fg_X12_20 (sh_54 g) (by decide) rfl (rf_54_11 g) ?_
            refine am_iconst 2 (v := 2) dX12_isFull_39 (by decide) ?_
            refine am_iald dX12_isFull_40 (am_ia.one (sh_57 g)) (am_lit rfl) ?_
            refine am_bipush 8 (v := 8) dX12_isFull_41 (by decide) ?_
            refine am_icmp_ne (7) 50 dX12_isFull_43 rfl ?_ ?_
            · intro hc14n
              have hc14n : ¬ ((M 57 0 2) = (8 : Int32)) := hc14n
              replace hyp := it_neg hc14n hyp
              refine am_iconst 0 (v := 0) dX12_isFull_50 (by decide) ?_
              cases hyp
              exact am_zret dX12_isFull_51 rfl rfl
            · intro hc14
              have hc14 : (M 57 0 2) = (8 : Int32) := hc14
              replace hyp := it_pos hc14 hyp
              refine am_iconst 1 (v := 1) dX12_isFull_46 (by decide) ?_
              refine am_goto (4) 51 dX12_isFull_47 rfl ?_
              cases hyp
              exact am_zret dX12_isFull_51 rfl rfl
