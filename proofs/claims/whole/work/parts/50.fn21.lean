theorem eL_RX12_sum_4 {d : Nat} {h : am_H} (g : lay h) {r_X12_sum : Mem → Option (Mem)} (er_X12_sum : ∀ {M M' : Mem} , r_X12_sum M = some M' → am_Ev (d + 5) mX12_sum [.inr (54, 0)] (am_hM h M) (.inl (none, am_hM h M'))) {r_X12_product : Mem → Option (Mem)} (er_X12_product : ∀ {M M' : Mem} , r_X12_product M = some M' → am_Ev (d + 5) mX12_product [.inr (54, 0)] (am_hM h M) (.inl (none, am_hM h M'))) {r_X12_one : Mem → Option (Mem)} (er_X12_one : ∀ {M M' : Mem} , r_X12_one M = some M' → am_Ev (d + 5) mX12_one [.inr (54, 0)] (am_hM h M) (.inl (none, am_hM h M'))) {r : am_R} (n : Nat) : ∀ (s : Mem) (e : (Mem) ⊕ (Mem)), wh (L_RX12_sum_4 r_X12_product) n s = some e → (match e with | (Sum.inl M) => am_At am_X0 (d + 6) mX12_sum 44 [some (.inr (54, 0)), none] [] (am_hM h M) r | (Sum.inr M) => am_At am_X0 (d + 6) mX12_sum 58 [some (.inr (54, 0)), none] [] (am_hM h M) r) → ((fun (M : Mem) => am_At am_X0 (d + 6) mX12_sum 4 [some (.inr (54, 0)), none] [] (am_hM h M) r) s) := by
  refine am_wh (At := fun (s : Mem) => (fun (M : Mem) => am_At am_X0 (d + 6) mX12_sum 4 [some (.inr (54, 0)), none] [] (am_hM h M) r) s) (Ex := fun (e : (Mem) ⊕ (Mem)) => match e with | (Sum.inl M) => am_At am_X0 (d + 6) mX12_sum 44 [some (.inr (54, 0)), none] [] (am_hM h M) r | (Sum.inr M) => am_At am_X0 (d + 6) mX12_sum 58 [some (.inr (54, 0)), none] [] (am_hM h M) r) ?_ n
  rintro M y hyp hx
  unfold L_RX12_sum_4 at hyp
  try dsimp only at hyp
  change am_At _ _ _ 4 [_, _] [] _ _
  refine am_aload_n dX12_sum_4 rfl ?_
  refine am_getI 12 5 dX12_sum_5 fg_X12_119 (sh_54 g) (by decide) rfl ?_
  refine am_if_ne (50) 58 dX12_sum_8 rfl ?_ ?_
  · intro hc2n
    have hc2n : ¬ ((M 54 0 5) = 0) := hc2n
    replace hyp := it_neg hc2n hyp
    cases hyp
    exact hx
  · intro hc2
    have hc2 : (M 54 0 5) = 0 := hc2
    replace hyp := it_pos hc2 hyp
    refine am_aload_n dX12_sum_11 rfl ?_
    refine am_bipush 43 (v := 43) dX12_sum_12 (by decide) ?_
    obtain ⟨⟨v3, M3⟩, hk3, hyp⟩ := bd_some hyp
    try dsimp only at hyp
    refine am_callV [_] dX12_sum_14 ml_X12_217 vm_X12_takesSign (sh_54 g) rfl (fun _ => Nat.le_of_ble_eq_true rfl) (by omega) rfl (ef_X12_takesSign (d := d + 3) (h := h) g hk3) rfl ?_
    change am_At _ _ _ 17 [_, _] [_] _ _
    refine am_if_eq (7) 24 dX12_sum_17 rfl ?_ ?_
    · intro hc4
      have hc4 : v3 = 0 := hc4
      replace hyp := it_pos hc4 hyp
      refine am_aload_n dX12_sum_24 rfl ?_
      refine am_bipush 45 (v := 45) dX12_sum_25 (by decide) ?_
      obtain ⟨⟨v5, M5⟩, hk5, hyp⟩ := bd_some hyp
      try dsimp only at hyp
      refine am_callV [_] dX12_sum_27 ml_X12_217 vm_X12_takesSign (sh_54 g) rfl (fun _ => Nat.le_of_ble_eq_true rfl) (by omega) rfl (ef_X12_takesSign (d := d + 3) (h := h) g hk5) rfl ?_
      change am_At _ _ _ 30 [_, _] [_] _ _
      refine am_if_eq (7) 37 dX12_sum_30 rfl ?_ ?_
      · intro hc6
        have hc6 : v5 = 0 := hc6
        replace hyp := it_pos hc6 hyp
        refine am_iconst (-1) (v := (-1)) dX12_sum_37 (by decide) ?_
        refine am_istore_n dX12_sum_38 (am_lb rfl) ?_
        change am_At _ _ _ 39 [_, _] [] _ _
        refine am_iload_n dX12_sum_39 rfl ?_
        refine am_iconst (-1) (v := (-1)) dX12_sum_40 (by decide) ?_
        refine am_icmp_neF (4) 45 dX12_sum_41 rfl (by decide) ?_
        cases hyp
        refine am_At.drop 1 ?_
        exact hx
      · intro hc6n
        have hc6n : ¬ (v5 = 0) := hc6n
        replace hyp := it_neg hc6n hyp
        refine am_iconst 3 (v := 3) dX12_sum_33 (by decide) ?_
        refine am_goto (4) 38 dX12_sum_34 rfl ?_
        refine am_istore_n dX12_sum_38 (am_lb rfl) ?_
        change am_At _ _ _ 39 [_, _] [] _ _
        refine am_iload_n dX12_sum_39 rfl ?_
        refine am_iconst (-1) (v := (-1)) dX12_sum_40 (by decide) ?_
        refine am_icmp_neT (4) 45 dX12_sum_41 rfl (by decide) ?_
        refine am_aload_n dX12_sum_45 rfl ?_
        obtain ⟨M7, hk7, hyp⟩ := bd_some hyp
        try dsimp only at hyp
        refine am_callV [] dX12_sum_46 ml_X12_214 vm_X12_product (sh_54 g) rfl (fun _ => Nat.le_of_ble_eq_true rfl) (by omega) rfl (er_X12_product hk7) rfl ?_
        change am_At _ _ _ 49 [_, _] [] _ _
        refine am_aload_n dX12_sum_49 rfl ?_
        refine am_iload_n dX12_sum_50 rfl ?_
        refine am_iconst 0 (v := 0) dX12_sum_51 (by decide) ?_
        obtain ⟨M8, hk8, hyp⟩ := bd_some hyp
        try dsimp only at hyp
        refine am_callV [_, _] dX12_sum_52 ml_X12_220 vm_X12_notes (sh_54 g) rfl (fun _ => Nat.le_of_ble_eq_true rfl) (by omega) rfl (ef_X12_notes (d := d + 5) (h := h) g hk8) rfl ?_
        change am_At _ _ _ 55 [_, _] [] _ _
        refine am_goto (-51) 4 dX12_sum_55 rfl ?_
        cases hyp
        refine am_At.drop 1 ?_
        exact hx
    · intro hc4n
      have hc4n : ¬ (v3 = 0) := hc4n
      replace hyp := it_neg hc4n hyp
      refine am_iconst 2 (v := 2) dX12_sum_20 (by decide) ?_
      refine am_goto (17) 38 dX12_sum_21 rfl ?_
      refine am_istore_n dX12_sum_38 (am_lb rfl) ?_
      change am_At _ _ _ 39 [_, _] [] _ _
      refine am_iload_n dX12_sum_39 rfl ?_
      refine am_iconst (-1) (v := (-1)) dX12_sum_40 (by decide) ?_
      refine am_icmp_neT (4) 45 dX12_sum_41 rfl (by decide) ?_
      refine am_aload_n dX12_sum_45 rfl ?_
      obtain ⟨M9, hk9, hyp⟩ := bd_some hyp
      try dsimp only at hyp
      refine am_callV [] dX12_sum_46 ml_X12_214 vm_X12_product (sh_54 g) rfl (fun _ => Nat.le_of_ble_eq_true rfl) (by omega) rfl (er_X12_product hk9) rfl ?_
      change am_At _ _ _ 49 [_, _] [] _ _
      refine am_aload_n dX12_sum_49 rfl ?_
      refine am_iload_n dX12_sum_50 rfl ?_
      refine am_iconst 0 (v := 0) dX12_sum_51 (by decide) ?_
      obtain ⟨M10, hk10, hyp⟩ := bd_some hyp
      try dsimp only at hyp
      refine am_callV [_, _] dX12_sum_52 ml_X12_220 vm_X12_notes (sh_54 g) rfl (fun _ => Nat.le_of_ble_eq_true rfl) (by omega) rfl (ef_X12_notes (d := d + 5) (h := h) g hk10) rfl ?_
      change am_At _ _ _ 55 [_, _] [] _ _
      refine am_goto (-51) 4 dX12_sum_55 rfl ?_
      cases hyp
      refine am_At.drop 1 ?_
      exact hx
theorem ef_RX12_sum {d : Nat} {h : am_H} (g : lay h) {r_X12_sum : Mem → Option (Mem)} (er_X12_sum : ∀ {M M' : Mem} , r_X12_sum M = some M' → am_Ev (d + 5) mX12_sum [.inr (54, 0)] (am_hM h M) (.inl (none, am_hM h M'))) {r_X12_product : Mem → Option (Mem)} (er_X12_product : ∀ {M M' : Mem} , r_X12_product M = some M' → am_Ev (d + 5) mX12_product [.inr (54, 0)] (am_hM h M) (.inl (none, am_hM h M'))) {r_X12_one : Mem → Option (Mem)} (er_X12_one : ∀ {M M' : Mem} , r_X12_one M = some M' → am_Ev (d + 5) mX12_one [.inr (54, 0)] (am_hM h M) (.inl (none, am_hM h M'))) {M : Mem} {M' : Mem} (hyp : f_RX12_sum r_X12_sum r_X12_product r_X12_one M = some M') : am_Ev (d + 6) mX12_sum [.inr (54, 0)] (am_hM h M) (.inl (none, am_hM h M')) := by
  unfold f_RX12_sum at hyp
  refine am_Ev.mk (by decide +kernel) rfl rfl (Nat.le_refl _) (Nat.le_refl _) ?_
  change am_At _ _ _ 0 [_, _] [] _ _
  refine am_aload_n dX12_sum_0 rfl ?_
  obtain ⟨M1, hk1, hyp⟩ := bd_some hyp
  try dsimp only at hyp
  refine am_callV [] dX12_sum_1 ml_X12_214 vm_X12_product (sh_54 g) rfl (fun _ => Nat.le_of_ble_eq_true rfl) (by omega) rfl (er_X12_product hk1) rfl ?_
  change am_At _ _ _ 4 [_, _] [] _ _
  obtain ⟨e11, hw11, hyp⟩ := bd_some hyp
  rcases e11 with M11 | M11
  · try dsimp only at hyp
    refine eL_RX12_sum_4 (d := d) (h := h) g er_X12_sum er_X12_product er_X12_one  FU M1 (Sum.inl M11) hw11 ?_
    change am_At _ _ _ 44 [_, _] [] _ _
    cases hyp
    exact am_vret dX12_sum_44 rfl
  · try dsimp only at hyp
    refine eL_RX12_sum_4 (d := d) (h := h) g er_X12_sum er_X12_product er_X12_one  FU M1 (Sum.inr M11) hw11 ?_
    change am_At _ _ _ 58 [_, _] [] _ _
    cases hyp
    exact am_vret dX12_sum_58 rfl
theorem eL_RX12_product_4 {d : Nat} {h : am_H} (g : lay h) {r_X12_sum : Mem → Option (Mem)} (er_X12_sum : ∀ {M M' : Mem} , r_X12_sum M = some M' → am_Ev (d + 5) mX12_sum [.inr (54, 0)] (am_hM h M) (.inl (none, am_hM h M'))) {r_X12_product : Mem → Option (Mem)} (er_X12_product : ∀ {M M' : Mem} , r_X12_product M = some M' → am_Ev (d + 5) mX12_product [.inr (54, 0)] (am_hM h M) (.inl (none, am_hM h M'))) {r_X12_one : Mem → Option (Mem)} (er_X12_one : ∀ {M M' : Mem} , r_X12_one M = some M' → am_Ev (d + 5) mX12_one [.inr (54, 0)] (am_hM h M) (.inl (none, am_hM h M'))) {r : am_R} (n : Nat) : ∀ (s : Mem) (e : (Mem) ⊕ (Mem)), wh (L_RX12_product_4 r_X12_one) n s = some e → (match e with | (Sum.inl M) => am_At am_X0 (d + 6) mX12_product 58 [some (.inr (54, 0)), none] [] (am_hM h M) r | (Sum.inr M) => am_At am_X0 (d + 6) mX12_product 72 [some (.inr (54, 0)), none] [] (am_hM h M) r) → ((fun (M : Mem) => am_At am_X0 (d + 6) mX12_product 4 [some (.inr (54, 0)), none] [] (am_hM h M) r) s) := by
  refine am_wh (At := fun (s : Mem) => (fun (M : Mem) => am_At am_X0 (d + 6) mX12_product 4 [some (.inr (54, 0)), none] [] (am_hM h M) r) s) (Ex := fun (e : (Mem) ⊕ (Mem)) => match e with | (Sum.inl M) => am_At am_X0 (d + 6) mX12_product 58 [some (.inr (54, 0)), none] [] (am_hM h M) r | (Sum.inr M) => am_At am_X0 (d + 6) mX12_product 72 [some (.inr (54, 0)), none] [] (am_hM h M) r) ?_ n
  rintro M y hyp hx
  unfold L_RX12_product_4 at hyp
  try dsimp only at hyp
  change am_At _ _ _ 4 [_, _] [] _ _
  refine am_aload_n dX12_product_4 rfl ?_
  refine am_getI 12 5 dX12_product_5 fg_X12_119 (sh_54 g) (by decide) rfl ?_
  refine am_if_ne (64) 72 dX12_product_8 rfl ?_ ?_
  · intro hc2n
    have hc2n : ¬ ((M 54 0 5) = 0) := hc2n
    replace hyp := it_neg hc2n hyp
    cases hyp
    exact hx
  · intro hc2
    have hc2 : (M 54 0 5) = 0 := hc2
    replace hyp := it_pos hc2 hyp
    refine am_aload_n dX12_product_11 rfl ?_
    refine am_bipush 42 (v := 42) dX12_product_12 (by decide) ?_
    obtain ⟨⟨v3, M3⟩, hk3, hyp⟩ := bd_some hyp
    try dsimp only at hyp
    refine am_callV [_] dX12_product_14 ml_X12_217 vm_X12_takesSign (sh_54 g) rfl (fun _ => Nat.le_of_ble_eq_true rfl) (by omega) rfl (ef_X12_takesSign (d := d + 3) (h := h) g hk3) rfl ?_
    change am_At _ _ _ 17 [_, _] [_] _ _
    refine am_if_eq (7) 24 dX12_product_17 rfl ?_ ?_
    · intro hc4
      have hc4 : v3 = 0 := hc4
      replace hyp := it_pos hc4 hyp
      refine am_aload_n dX12_product_24 rfl ?_
      refine am_bipush 47 (v := 47) dX12_product_25 (by decide) ?_
      obtain ⟨⟨v5, M5⟩, hk5, hyp⟩ := bd_some hyp
      try dsimp only at hyp
      refine am_callV [_] dX12_product_27 ml_X12_217 vm_X12_takesSign (sh_54 g) rfl (fun _ => Nat.le_of_ble_eq_true rfl) (by omega) rfl (ef_X12_takesSign (d := d + 3) (h := h) g hk5) rfl ?_
      change am_At _ _ _ 30 [_, _] [_] _ _
      refine am_if_eq (7) 37 dX12_product_30 rfl ?_ ?_
      · intro hc6
        have hc6 : v5 = 0 := hc6
        replace hyp := it_pos hc6 hyp
        refine am_aload_n dX12_product_37 rfl ?_
        refine am_bipush 37 (v := 37) dX12_product_38 (by decide) ?_
        obtain ⟨⟨v7, M7⟩, hk7, hyp⟩ := bd_some hyp
        try dsimp only at hyp
        refine am_callV [_] dX12_product_40 ml_X12_217 vm_X12_takesSign (sh_54 g) rfl (fun _ => Nat.le_of_ble_eq_true rfl) (by omega) rfl (ef_X12_takesSign (d := d + 3) (h := h) g hk7) rfl ?_
        change am_At _ _ _ 43 [_, _] [_] _ _
        refine am_if_eq (8) 51 dX12_product_43 rfl ?_ ?_
        · intro hc8
          have hc8 : v7 = 0 := hc8
          replace hyp := it_pos hc8 hyp
          refine am_iconst (-1) (v := (-1)) dX12_product_51 (by decide) ?_
          refine am_istore_n dX12_product_52 (am_lb rfl) ?_
          change am_At _ _ _ 53 [_, _] [] _ _
          refine am_iload_n dX12_product_53 rfl ?_
          refine am_iconst (-1) (v := (-1)) dX12_product_54 (by decide) ?_
          refine am_icmp_neF (4) 59 dX12_product_55 rfl (by decide) ?_
          cases hyp
          refine am_At.drop 1 ?_
          exact hx
        · intro hc8n
          have hc8n : ¬ (v7 = 0) := hc8n
          replace hyp := it_neg hc8n hyp
          refine am_bipush 6 (v := 6) dX12_product_46 (by decide) ?_
          refine am_goto (4) 52 dX12_product_48 rfl ?_
          refine am_istore_n dX12_product_52 (am_lb rfl) ?_
          change am_At _ _ _ 53 [_, _] [] _ _
          refine am_iload_n dX12_product_53 rfl ?_
          refine am_iconst (-1) (v := (-1)) dX12_product_54 (by decide) ?_
          refine am_icmp_neT (4) 59 dX12_product_55 rfl (by decide) ?_
          refine am_aload_n dX12_product_59 rfl ?_
          obtain ⟨M9, hk9, hyp⟩ := bd_some hyp
          try dsimp only at hyp
          refine am_callV [] dX12_product_60 ml_X12_223 vm_X12_one (sh_54 g) rfl (fun _ => Nat.le_of_ble_eq_true rfl) (by omega) rfl (er_X12_one hk9) rfl ?_
          change am_At _ _ _ 63 [_, _] [] _ _
          refine am_aload_n dX12_product_63 rfl ?_
          refine am_iload_n dX12_product_64 rfl ?_
          refine am_iconst 0 (v := 0) dX12_product_65 (by decide) ?_
          obtain ⟨M10, hk10, hyp⟩ := bd_some hyp
          try dsimp only at hyp
          refine am_callV [_, _] dX12_product_66 ml_X12_220 vm_X12_notes (sh_54 g) rfl (fun _ => Nat.le_of_ble_eq_true rfl) (by omega) rfl (ef_X12_notes (d := d + 5) (h := h) g hk10) rfl ?_
          change am_At _ _ _ 69 [_, _] [] _ _
          refine am_goto (-65) 4 dX12_product_69 rfl ?_
          cases hyp
          refine am_At.drop 1 ?_
          exact hx
      · intro hc6n
        have hc6n : ¬ (v5 = 0) := hc6n
        replace hyp := it_neg hc6n hyp
        refine am_iconst 5 (v := 5) dX12_product_33 (by decide) ?_
        refine am_goto (18) 52 dX12_product_34 rfl ?_
        refine am_istore_n dX12_product_52 (am_lb rfl) ?_
        change am_At _ _ _ 53 [_, _] [] _ _
        refine am_iload_n dX12_product_53 rfl ?_
        refine am_iconst (-1) (v := (-1)) dX12_product_54 (by decide) ?_
        refine am_icmp_neT (4) 59 dX12_product_55 rfl (by decide) ?_
        refine am_aload_n dX12_product_59 rfl ?_
        obtain ⟨M11, hk11, hyp⟩ := bd_some hyp
        try dsimp only at hyp
        refine am_callV [] dX12_product_60 ml_X12_223 vm_X12_one (sh_54 g) rfl (fun _ => Nat.le_of_ble_eq_true rfl) (by omega) rfl (er_X12_one hk11) rfl ?_
        change am_At _ _ _ 63 [_, _] [] _ _
        refine am_aload_n dX12_product_63 rfl ?_
        refine am_iload_n dX12_product_64 rfl ?_
        refine am_iconst 0 (v := 0) dX12_product_65 (by decide) ?_
        obtain ⟨M12, hk12, hyp⟩ := bd_some hyp
        try dsimp only at hyp
        refine am_callV [_, _] dX12_product_66 ml_X12_220 vm_X12_notes (sh_54 g) rfl (fun _ => Nat.le_of_ble_eq_true rfl) (by omega) rfl (ef_X12_notes (d := d + 5) (h := h) g hk12) rfl ?_
        change am_At _ _ _ 69 [_, _] [] _ _
        refine am_goto (-65) 4 dX12_product_69 rfl ?_
        cases hyp
        refine am_At.drop 1 ?_
        exact hx
    · intro hc4n
      have hc4n : ¬ (v3 = 0) := hc4n
      replace hyp := it_neg hc4n hyp
      refine am_iconst 4 (v := 4) dX12_product_20 (by decide) ?_
      refine am_goto (31) 52 dX12_product_21 rfl ?_
      refine am_istore_n dX12_product_52 (am_lb rfl) ?_
      change am_At _ _ _ 53 [_, _] [] _ _
      refine am_iload_n dX12_product_53 rfl ?_
      refine am_iconst (-1) (v := (-1)) dX12_product_54 (by decide) ?_
      refine am_icmp_neT (4) 59 dX12_product_55 rfl (by decide) ?_
      refine am_aload_n dX12_product_59 rfl ?_
      obtain ⟨M13, hk13, hyp⟩ := bd_some hyp
      try dsimp only at hyp
      refine am_callV [] dX12_product_60 ml_X12_223 vm_X12_one (sh_54 g) rfl (fun _ => Nat.le_of_ble_eq_true rfl) (by omega) rfl (er_X12_one hk13) rfl ?_
      change am_At _ _ _ 63 [_, _] [] _ _
      refine am_aload_n dX12_product_63 rfl ?_
      refine am_iload_n dX12_product_64 rfl ?_
      refine am_iconst 0 (v := 0) dX12_product_65 (by decide) ?_
      obtain ⟨M14, hk14, hyp⟩ := bd_some hyp
      try dsimp only at hyp
      refine am_callV [_, _] dX12_product_66 ml_X12_220 vm_X12_notes (sh_54 g) rfl (fun _ => Nat.le_of_ble_eq_true rfl) (by omega) rfl (ef_X12_notes (d := d + 5) (h := h) g hk14) rfl ?_
      change am_At _ _ _ 69 [_, _] [] _ _
      refine am_goto (-65) 4 dX12_product_69 rfl ?_
      cases hyp
      refine am_At.drop 1 ?_
      exact hx
theorem ef_RX12_product {d : Nat} {h : am_H} (g : lay h) {r_X12_sum : Mem → Option (Mem)} (er_X12_sum : ∀ {M M' : Mem} , r_X12_sum M = some M' → am_Ev (d + 5) mX12_sum [.inr (54, 0)] (am_hM h M) (.inl (none, am_hM h M'))) {r_X12_product : Mem → Option (Mem)} (er_X12_product : ∀ {M M' : Mem} , r_X12_product M = some M' → am_Ev (d + 5) mX12_product [.inr (54, 0)] (am_hM h M) (.inl (none, am_hM h M'))) {r_X12_one : Mem → Option (Mem)} (er_X12_one : ∀ {M M' : Mem} , r_X12_one M = some M' → am_Ev (d + 5) mX12_one [.inr (54, 0)] (am_hM h M) (.inl (none, am_hM h M'))) {M : Mem} {M' : Mem} (hyp : f_RX12_product r_X12_sum r_X12_product r_X12_one M = some M') : am_Ev (d + 6) mX12_product [.inr (54, 0)] (am_hM h M) (.inl (none, am_hM h M')) := by
  unfold f_RX12_product at hyp
  refine am_Ev.mk (by decide +kernel) rfl rfl (Nat.le_refl _) (Nat.le_refl _) ?_
  change am_At _ _ _ 0 [_, _] [] _ _
  refine am_aload_n dX12_product_0 rfl ?_
  obtain ⟨M1, hk1, hyp⟩ := bd_some hyp
  try dsimp only at hyp
  refine am_callV [] dX12_product_1 ml_X12_223 vm_X12_one (sh_54 g) rfl (fun _ => Nat.le_of_ble_eq_true rfl) (by omega) rfl (er_X12_one hk1) rfl ?_
  change am_At _ _ _ 4 [_, _] [] _ _
  obtain ⟨e15, hw15, hyp⟩ := bd_some hyp
  rcases e15 with M15 | M15
  · try dsimp only at hyp
    refine eL_RX12_product_4 (d := d) (h := h) g er_X12_sum er_X12_product er_X12_one  FU M1 (Sum.inl M15) hw15 ?_
    change am_At _ _ _ 58 [_, _] [] _ _
    cases hyp
    exact am_vret dX12_product_58 rfl
  · try dsimp only at hyp
    refine eL_RX12_product_4 (d := d) (h := h) g er_X12_sum er_X12_product er_X12_one  FU M1 (Sum.inr M15) hw15 ?_
    change am_At _ _ _ 72 [_, _] [] _ _
    cases hyp
    exact am_vret dX12_product_72 rfl
theorem ef_RX12_one {d : Nat} {h : am_H} (g : lay h) {r_X12_sum : Mem → Option (Mem)} (er_X12_sum : ∀ {M M' : Mem} , r_X12_sum M = some M' → am_Ev (d + 5) mX12_sum [.inr (54, 0)] (am_hM h M) (.inl (none, am_hM h M'))) {r_X12_product : Mem → Option (Mem)} (er_X12_product : ∀ {M M' : Mem} , r_X12_product M = some M' → am_Ev (d + 5) mX12_product [.inr (54, 0)] (am_hM h M) (.inl (none, am_hM h M'))) {r_X12_one : Mem → Option (Mem)} (er_X12_one : ∀ {M M' : Mem} , r_X12_one M = some M' → am_Ev (d + 5) mX12_one [.inr (54, 0)] (am_hM h M) (.inl (none, am_hM h M'))) {M : Mem} {M' : Mem} (hyp : f_RX12_one r_X12_sum r_X12_product r_X12_one M = some M') : am_Ev (d + 6) mX12_one [.inr (54, 0)] (am_hM h M) (.inl (none, am_hM h M')) := by
  unfold f_RX12_one at hyp
  refine am_Ev.mk (by decide +kernel) rfl rfl (Nat.le_refl _) (Nat.le_refl _) ?_
  change am_At _ _ _ 0 [_, _, _] [] _ _
  refine am_aload_n dX12_one_0 rfl ?_
  refine am_getI 12 5 dX12_one_1 fg_X12_119 (sh_54 g) (by decide) rfl ?_
  refine am_if_eq (4) 8 dX12_one_4 rfl ?_ ?_
  · intro hc1
    have hc1 : (M 54 0 5) = 0 := hc1
    replace hyp := it_pos hc1 hyp
    refine am_aload_n dX12_one_8 rfl ?_
    obtain ⟨M2, hk2, hyp⟩ := bd_some hyp
    try dsimp only at hyp
    refine am_callV [] dX12_one_9 ml_X12_125 vm_X12_blanks (sh_54 g) rfl (fun _ => Nat.le_of_ble_eq_true rfl) (by omega) rfl (ef_X12_blanks (d := d + 4) (h := h) g hk2) rfl ?_
    change am_At _ _ _ 12 [_, _, _] [] _ _
    refine am_aload_n dX12_one_12 rfl ?_
    refine am_bipush 12 (v := 12) dX12_one_13 (by decide) ?_
    refine am_iconst 5 (v := 5) dX12_one_15 (by decide) ?_
    refine am_iconst 1 (v := 1) dX12_one_16 (by decide) ?_
    refine am_bipush 19 (v := 19) dX12_one_17 (by decide) ?_
    refine am_bipush 20 (v := 20) dX12_one_19 (by decide) ?_
    refine am_iconst 0 (v := 0) dX12_one_21 (by decide) ?_
    obtain ⟨⟨v3, M3⟩, hk3, hyp⟩ := bd_some hyp
    try dsimp only at hyp
    refine am_callV [_, _, _, _, _, _] dX12_one_22 ml_X12_152 vm_X12_isWord (sh_54 g) rfl (fun _ => Nat.le_of_ble_eq_true rfl) (by omega) rfl (ef_X12_isWord (d := d + 2) (h := h) g hk3) rfl ?_
    change am_At _ _ _ 25 [_, _, _] [_] _ _
    refine am_if_eq (8) 33 dX12_one_25 rfl ?_ ?_
    · intro hc4
      have hc4 : v3 = 0 := hc4
      replace hyp := it_pos hc4 hyp
      refine am_aload_n dX12_one_33 rfl ?_
      refine am_bipush 13 (v := 13) dX12_one_34 (by decide) ?_
      refine am_bipush 15 (v := 15) dX12_one_36 (by decide) ?_
      refine am_bipush 19 (v := 19) dX12_one_38 (by decide) ?_
      refine am_bipush 20 (v := 20) dX12_one_40 (by decide) ?_
      refine am_iconst 0 (v := 0) dX12_one_42 (by decide) ?_
      refine am_iconst 0 (v := 0) dX12_one_43 (by decide) ?_
      obtain ⟨⟨v5, M5⟩, hk5, hyp⟩ := bd_some hyp
      try dsimp only at hyp
      refine am_callV [_, _, _, _, _, _] dX12_one_44 ml_X12_152 vm_X12_isWord (sh_54 g) rfl (fun _ => Nat.le_of_ble_eq_true rfl) (by omega) rfl (ef_X12_isWord (d := d + 2) (h := h) g hk5) rfl ?_
      change am_At _ _ _ 47 [_, _, _] [_] _ _
      refine am_if_eq (8) 55 dX12_one_47 rfl ?_ ?_
      · intro hc6
        have hc6 : v5 = 0 := hc6
        replace hyp := it_pos hc6 hyp
        refine am_iconst (-1) (v := (-1)) dX12_one_55 (by decide) ?_
        refine am_istore_n dX12_one_56 (am_lb rfl) ?_
        change am_At _ _ _ 57 [_, _, _] [] _ _
        refine am_iload_n dX12_one_57 rfl ?_
        refine am_iconst (-1) (v := (-1)) dX12_one_58 (by decide) ?_
        refine am_icmp_eqT (58) 117 dX12_one_59 rfl (by decide) ?_
        refine am_aload_n dX12_one_117 rfl ?_
        refine am_aload_n dX12_one_118 rfl ?_
        refine am_getI 12 4 dX12_one_119 fg_X12_112 (sh_54 g) (by decide) rfl ?_
        obtain ⟨v7, hk7, hyp⟩ := bd_some hyp
        try dsimp only at hyp
        refine am_callV [_] dX12_one_122 ml_X12_115 vm_X12_byteAt (sh_54 g) rfl (fun _ => Nat.le_of_ble_eq_true rfl) (by omega) rfl (ef_X12_byteAt (d := d + 5) (h := h) g hk7) rfl ?_
        change am_At _ _ _ 125 [_, _, _] [_] _ _
        refine am_bipush 40 (v := 40) dX12_one_125 (by decide) ?_
        refine am_icmp_ne (42) 169 dX12_one_127 rfl ?_ ?_
        · intro hc8n
          have hc8n : ¬ (v7 = (40 : Int32)) := hc8n
          replace hyp := it_neg hc8n hyp
          refine am_aload_n dX12_one_169 rfl ?_
          obtain ⟨⟨v9, M9⟩, hk9, hyp⟩ := bd_some hyp
          try dsimp only at hyp
          refine am_callV [] dX12_one_170 ml_X12_236 vm_X12_knownHere (sh_54 g) rfl (fun _ => Nat.le_of_ble_eq_true rfl) (by omega) rfl (ef_X12_knownHere (d := d + 0) (h := h) g hk9) rfl ?_
          change am_At _ _ _ 173 [_, _, _] [_] _ _
          refine am_istore_n dX12_one_173 (am_lb rfl) ?_
          change am_At _ _ _ 174 [_, _, _] [] _ _
          refine am_iload_n dX12_one_174 rfl ?_
          refine am_iconst (-1) (v := (-1)) dX12_one_175 (by decide) ?_
          refine am_icmp_eq (12) 188 dX12_one_176 rfl ?_ ?_
          · intro hc10
            have hc10 : v9 = (-1 : Int32) := hc10
            replace hyp := it_pos hc10 hyp
            refine am_aload_n dX12_one_188 rfl ?_
            refine am_iconst 0 (v := 0) dX12_one_189 (by decide) ?_
            refine am_aload_n dX12_one_190 rfl ?_
            refine am_iconst 0 (v := 0) dX12_one_191 (by decide) ?_
            refine am_sipush 999 (v := 999) dX12_one_192 (by decide) ?_
            obtain ⟨⟨v11, M11⟩, hk11, hyp⟩ := bd_some hyp
            try dsimp only at hyp
            refine am_callV [_, _] dX12_one_195 ml_X12_171 vm_X12_number (sh_54 g) rfl (fun _ => Nat.le_of_ble_eq_true rfl) (by omega) rfl (ef_X12_number (d := d + 3) (h := h) g hk11) rfl ?_
            change am_At _ _ _ 198 [_, _, _] [_, _, _] _ _
            obtain ⟨M12, hk12, hyp⟩ := bd_some hyp
            try dsimp only at hyp
            refine am_callV [_, _] dX12_one_198 ml_X12_220 vm_X12_notes (sh_54 g) rfl (fun _ => Nat.le_of_ble_eq_true rfl) (by omega) rfl (ef_X12_notes (d := d + 5) (h := h) g hk12) rfl ?_
            change am_At _ _ _ 201 [_, _, _] [] _ _
            cases hyp
            exact am_vret dX12_one_201 rfl
          · intro hc10n
            have hc10n : ¬ (v9 = (-1 : Int32)) := hc10n
            replace hyp := it_neg hc10n hyp
            refine am_aload_n dX12_one_179 rfl ?_
            refine am_iconst 1 (v := 1) dX12_one_180 (by decide) ?_
            refine am_iload_n dX12_one_181 rfl ?_
            obtain ⟨M13, hk13, hyp⟩ := bd_some hyp
            try dsimp only at hyp
            refine am_callV [_, _] dX12_one_182 ml_X12_220 vm_X12_notes (sh_54 g) rfl (fun _ => Nat.le_of_ble_eq_true rfl) (by omega) rfl (ef_X12_notes (d := d + 5) (h := h) g hk13) rfl ?_
            change am_At _ _ _ 185 [_, _, _] [] _ _
            refine am_goto (16) 201 dX12_one_185 rfl ?_
            cases hyp
            exact am_vret dX12_one_201 rfl
        · intro hc8
          have hc8 : v7 = (40 : Int32) := hc8
          replace hyp := it_pos hc8 hyp
          refine am_aload_n dX12_one_130 rfl ?_
          refine am_callV [] dX12_one_131 ml_X12_229 vm_X12_opensOne (sh_54 g) rfl (fun _ => Nat.le_of_ble_eq_true rfl) (by omega) rfl (ef_X12_opensOne (d := d + 4) (h := h) g  (M := M5) rfl) rfl ?_
          change am_At _ _ _ 134 [_, _, _] [_] _ _
          refine am_if_ne (4) 138 dX12_one_134 rfl ?_ ?_
          · intro hc14n
            have hc14n : ¬ (((f_X12_opensOne M5).1) = 0) := hc14n
            replace hyp := it_neg hc14n hyp
            refine am_aload_n dX12_one_138 rfl ?_
            refine am_dup dX12_one_139 (fun _ => rfl) ?_
            refine am_getI 12 4 dX12_one_140 fg_X12_112 (sh_54 g) (by decide) rfl ?_
            refine am_iconst 1 (v := 1) dX12_one_143 (by decide) ?_
            refine am_iadd dX12_one_144 ?_
            refine am_putI 12 4 dX12_one_145 (Or.inl fp_X12_112) (sh_54 g) (by decide) rfl rfl rfl ?_
            refine am_aload_n dX12_one_148 rfl ?_
            obtain ⟨M15, hk15, hyp⟩ := bd_some hyp
            try dsimp only at hyp
            refine am_callV [] dX12_one_149 ml_X12_233 vm_X12_sum (sh_54 g) rfl (fun _ => Nat.le_of_ble_eq_true rfl) (by omega) rfl (er_X12_sum hk15) rfl ?_
            change am_At _ _ _ 152 [_, _, _] [] _ _
            refine am_aload_n dX12_one_152 rfl ?_
            refine am_bipush 41 (v := 41) dX12_one_153 (by decide) ?_
            obtain ⟨M16, hk16, hyp⟩ := bd_some hyp
            try dsimp only at hyp
            refine am_callV [_] dX12_one_155 ml_X12_175 vm_X12_sign (sh_54 g) rfl (fun _ => Nat.le_of_ble_eq_true rfl) (by omega) rfl (ef_X12_sign (d := d + 3) (h := h) g hk16) rfl ?_
            change am_At _ _ _ 158 [_, _, _] [] _ _
            refine am_aload_n dX12_one_158 rfl ?_
            refine am_dup dX12_one_159 (fun _ => rfl) ?_
            refine am_getI 12 8 dX12_one_160 fg_X12_162 (sh_54 g) (by decide) rfl ?_
            refine am_iconst 1 (v := 1) dX12_one_163 (by decide) ?_
            refine am_isub dX12_one_164 ?_
            refine am_putI 12 8 dX12_one_165 (Or.inl fp_X12_162) (sh_54 g) (by decide) rfl rfl rfl ?_
            cases hyp
            exact am_vret dX12_one_168 rfl
          · intro hc14
            have hc14 : ((f_X12_opensOne M5).1) = 0 := hc14
            replace hyp := it_pos hc14 hyp
            cases hyp
            exact am_vret dX12_one_137 rfl
      · intro hc6n
        have hc6n : ¬ (v5 = 0) := hc6n
        replace hyp := it_neg hc6n hyp
        refine am_bipush 8 (v := 8) dX12_one_50 (by decide) ?_
        refine am_goto (4) 56 dX12_one_52 rfl ?_
        refine am_istore_n dX12_one_56 (am_lb rfl) ?_
        change am_At _ _ _ 57 [_, _, _] [] _ _
        refine am_iload_n dX12_one_57 rfl ?_
        refine am_iconst (-1) (v := (-1)) dX12_one_58 (by decide) ?_
        refine am_icmp_eqF (58) 117 dX12_one_59 rfl (by decide) ?_
        refine am_aload_n dX12_one_62 rfl ?_
        refine am_callV [] dX12_one_63 ml_X12_229 vm_X12_opensOne (sh_54 g) rfl (fun _ => Nat.le_of_ble_eq_true rfl) (by omega) rfl (ef_X12_opensOne (d := d + 4) (h := h) g  (M := M5) rfl) rfl ?_
        change am_At _ _ _ 66 [_, _, _] [_] _ _
        refine am_if_ne (4) 70 dX12_one_66 rfl ?_ ?_
        · intro hc17n
          have hc17n : ¬ (((f_X12_opensOne M5).1) = 0) := hc17n
          replace hyp := it_neg hc17n hyp
          refine am_aload_n dX12_one_70 rfl ?_
          obtain ⟨M18, hk18, hyp⟩ := bd_some hyp
          try dsimp only at hyp
          refine am_callV [] dX12_one_71 ml_X12_156 vm_X12_skipWord (sh_54 g) rfl (fun _ => Nat.le_of_ble_eq_true rfl) (by omega) rfl (ef_X12_skipWord (d := d + 4) (h := h) g hk18) rfl ?_
          change am_At _ _ _ 74 [_, _, _] [] _ _
          refine am_aload_n dX12_one_74 rfl ?_
          refine am_bipush 91 (v := 91) dX12_one_75 (by decide) ?_
          obtain ⟨M19, hk19, hyp⟩ := bd_some hyp
          try dsimp only at hyp
          refine am_callV [_] dX12_one_77 ml_X12_175 vm_X12_sign (sh_54 g) rfl (fun _ => Nat.le_of_ble_eq_true rfl) (by omega) rfl (ef_X12_sign (d := d + 3) (h := h) g hk19) rfl ?_
          change am_At _ _ _ 80 [_, _, _] [] _ _
          refine am_aload_n dX12_one_80 rfl ?_
          obtain ⟨M20, hk20, hyp⟩ := bd_some hyp
          try dsimp only at hyp
          refine am_callV [] dX12_one_81 ml_X12_233 vm_X12_sum (sh_54 g) rfl (fun _ => Nat.le_of_ble_eq_true rfl) (by omega) rfl (er_X12_sum hk20) rfl ?_
          change am_At _ _ _ 84 [_, _, _] [] _ _
          refine am_aload_n dX12_one_84 rfl ?_
          refine am_bipush 44 (v := 44) dX12_one_85 (by decide) ?_
          obtain ⟨M21, hk21, hyp⟩ := bd_some hyp
          try dsimp only at hyp
          refine am_callV [_] dX12_one_87 ml_X12_175 vm_X12_sign (sh_54 g) rfl (fun _ => Nat.le_of_ble_eq_true rfl) (by omega) rfl (ef_X12_sign (d := d + 3) (h := h) g hk21) rfl ?_
          change am_At _ _ _ 90 [_, _, _] [] _ _
          refine am_aload_n dX12_one_90 rfl ?_
          obtain ⟨M22, hk22, hyp⟩ := bd_some hyp
          try dsimp only at hyp
          refine am_callV [] dX12_one_91 ml_X12_233 vm_X12_sum (sh_54 g) rfl (fun _ => Nat.le_of_ble_eq_true rfl) (by omega) rfl (er_X12_sum hk22) rfl ?_
          change am_At _ _ _ 94 [_, _, _] [] _ _
          refine am_aload_n dX12_one_94 rfl ?_
          refine am_bipush 93 (v := 93) dX12_one_95 (by decide) ?_
          obtain ⟨M23, hk23, hyp⟩ := bd_some hyp
          try dsimp only at hyp
          refine am_callV [_] dX12_one_97 ml_X12_175 vm_X12_sign (sh_54 g) rfl (fun _ => Nat.le_of_ble_eq_true rfl) (by omega) rfl (ef_X12_sign (d := d + 3) (h := h) g hk23) rfl ?_
          change am_At _ _ _ 100 [_, _, _] [] _ _
          refine am_aload_n dX12_one_100 rfl ?_
          refine am_iload_n dX12_one_101 rfl ?_
          refine am_iconst 0 (v := 0) dX12_one_102 (by decide) ?_
          obtain ⟨M24, hk24, hyp⟩ := bd_some hyp
          try dsimp only at hyp
          refine am_callV [_, _] dX12_one_103 ml_X12_220 vm_X12_notes (sh_54 g) rfl (fun _ => Nat.le_of_ble_eq_true rfl) (by omega) rfl (ef_X12_notes (d := d + 5) (h := h) g hk24) rfl ?_
          change am_At _ _ _ 106 [_, _, _] [] _ _
          refine am_aload_n dX12_one_106 rfl ?_
          refine am_dup dX12_one_107 (fun _ => rfl) ?_
          refine am_getI 12 8 dX12_one_108 fg_X12_162 (sh_54 g) (by decide) rfl ?_
          refine am_iconst 1 (v := 1) dX12_one_111 (by decide) ?_
          refine am_isub dX12_one_112 ?_
          refine am_putI 12 8 dX12_one_113 (Or.inl fp_X12_162) (sh_54 g) (by decide) rfl rfl rfl ?_
          cases hyp
          exact am_vret dX12_one_116 rfl
        · intro hc17
          have hc17 : ((f_X12_opensOne M5).1) = 0 := hc17
          replace hyp := it_pos hc17 hyp
          cases hyp
          exact am_vret dX12_one_69 rfl
    · intro hc4n
      have hc4n : ¬ (v3 = 0) := hc4n
      replace hyp := it_neg hc4n hyp
      refine am_bipush 7 (v := 7) dX12_one_28 (by decide) ?_
      refine am_goto (26) 56 dX12_one_30 rfl ?_
      refine am_istore_n dX12_one_56 (am_lb rfl) ?_
      change am_At _ _ _ 57 [_, _, _] [] _ _
      refine am_iload_n dX12_one_57 rfl ?_
      refine am_iconst (-1) (v := (-1)) dX12_one_58 (by decide) ?_
      refine am_icmp_eqF (58) 117 dX12_one_59 rfl (by decide) ?_
      refine am_aload_n dX12_one_62 rfl ?_
      refine am_callV [] dX12_one_63 ml_X12_229 vm_X12_opensOne (sh_54 g) rfl (fun _ => Nat.le_of_ble_eq_true rfl) (by omega) rfl (ef_X12_opensOne (d := d + 4) (h := h) g  (M := M3) rfl) rfl ?_
      change am_At _ _ _ 66 [_, _, _] [_] _ _
      refine am_if_ne (4) 70 dX12_one_66 rfl ?_ ?_
      · intro hc25n
        have hc25n : ¬ (((f_X12_opensOne M3).1) = 0) := hc25n
        replace hyp := it_neg hc25n hyp
        refine am_aload_n dX12_one_70 rfl ?_
        obtain ⟨M26, hk26, hyp⟩ := bd_some hyp
        try dsimp only at hyp
        refine am_callV [] dX12_one_71 ml_X12_156 vm_X12_skipWord (sh_54 g) rfl (fun _ => Nat.le_of_ble_eq_true rfl) (by omega) rfl (ef_X12_skipWord (d := d + 4) (h := h) g hk26) rfl ?_
        change am_At _ _ _ 74 [_, _, _] [] _ _
        refine am_aload_n dX12_one_74 rfl ?_
        refine am_bipush 91 (v := 91) dX12_one_75 (by decide) ?_
        obtain ⟨M27, hk27, hyp⟩ := bd_some hyp
        try dsimp only at hyp
        refine am_callV [_] dX12_one_77 ml_X12_175 vm_X12_sign (sh_54 g) rfl (fun _ => Nat.le_of_ble_eq_true rfl) (by omega) rfl (ef_X12_sign (d := d + 3) (h := h) g hk27) rfl ?_
        change am_At _ _ _ 80 [_, _, _] [] _ _
        refine am_aload_n dX12_one_80 rfl ?_
        obtain ⟨M28, hk28, hyp⟩ := bd_some hyp
        try dsimp only at hyp
        refine am_callV [] dX12_one_81 ml_X12_233 vm_X12_sum (sh_54 g) rfl (fun _ => Nat.le_of_ble_eq_true rfl) (by omega) rfl (er_X12_sum hk28) rfl ?_
        change am_At _ _ _ 84 [_, _, _] [] _ _
        refine am_aload_n dX12_one_84 rfl ?_
        refine am_bipush 44 (v := 44) dX12_one_85 (by decide) ?_
        obtain ⟨M29, hk29, hyp⟩ := bd_some hyp
        try dsimp only at hyp
        refine am_callV [_] dX12_one_87 ml_X12_175 vm_X12_sign (sh_54 g) rfl (fun _ => Nat.le_of_ble_eq_true rfl) (by omega) rfl (ef_X12_sign (d := d + 3) (h := h) g hk29) rfl ?_
        change am_At _ _ _ 90 [_, _, _] [] _ _
        refine am_aload_n dX12_one_90 rfl ?_
        obtain ⟨M30, hk30, hyp⟩ := bd_some hyp
        try dsimp only at hyp
        refine am_callV [] dX12_one_91 ml_X12_233 vm_X12_sum (sh_54 g) rfl (fun _ => Nat.le_of_ble_eq_true rfl) (by omega) rfl (er_X12_sum hk30) rfl ?_
        change am_At _ _ _ 94 [_, _, _] [] _ _
        refine am_aload_n dX12_one_94 rfl ?_
        refine am_bipush 93 (v := 93) dX12_one_95 (by decide) ?_
        obtain ⟨M31, hk31, hyp⟩ := bd_some hyp
        try dsimp only at hyp
        refine am_callV [_] dX12_one_97 ml_X12_175 vm_X12_sign (sh_54 g) rfl (fun _ => Nat.le_of_ble_eq_true rfl) (by omega) rfl (ef_X12_sign (d := d + 3) (h := h) g hk31) rfl ?_
        change am_At _ _ _ 100 [_, _, _] [] _ _
        refine am_aload_n dX12_one_100 rfl ?_
        refine am_iload_n dX12_one_101 rfl ?_
        refine am_iconst 0 (v := 0) dX12_one_102 (by decide) ?_
        obtain ⟨M32, hk32, hyp⟩ := bd_some hyp
        try dsimp only at hyp
        refine am_callV [_, _] dX12_one_103 ml_X12_220 vm_X12_notes (sh_54 g) rfl (fun _ => Nat.le_of_ble_eq_true rfl) (by omega) rfl (ef_X12_notes (d := d + 5) (h := h) g hk32) rfl ?_
        change am_At _ _ _ 106 [_, _, _] [] _ _
        refine am_aload_n dX12_one_106 rfl ?_
        refine am_dup dX12_one_107 (fun _ => rfl) ?_
        refine am_getI 12 8 dX12_one_108 fg_X12_162 (sh_54 g) (by decide) rfl ?_
        refine am_iconst 1 (v := 1) dX12_one_111 (by decide) ?_
        refine am_isub dX12_one_112 ?_
        refine am_putI 12 8 dX12_one_113 (Or.inl fp_X12_162) (sh_54 g) (by decide) rfl rfl rfl ?_
        cases hyp
        exact am_vret dX12_one_116 rfl
      · intro hc25
        have hc25 : ((f_X12_opensOne M3).1) = 0 := hc25
        replace hyp := it_pos hc25 hyp
        cases hyp
        exact am_vret dX12_one_69 rfl
  · intro hc1n
    have hc1n : ¬ ((M 54 0 5) = 0) := hc1n
    replace hyp := it_neg hc1n hyp
    cases hyp
    exact am_vret dX12_one_7 rfl
theorem erec_sum {d : Nat} {h : am_H} (g : lay h) : ∀ (n : Nat), (∀ {M M' : Mem} , (rec_sum n).1 M = some M' → am_Ev (d + n + 5) mX12_sum [.inr (54, 0)] (am_hM h M) (.inl (none, am_hM h M'))) ∧ (∀ {M M' : Mem} , (rec_sum n).2.1 M = some M' → am_Ev (d + n + 5) mX12_product [.inr (54, 0)] (am_hM h M) (.inl (none, am_hM h M'))) ∧ (∀ {M M' : Mem} , (rec_sum n).2.2 M = some M' → am_Ev (d + n + 5) mX12_one [.inr (54, 0)] (am_hM h M) (.inl (none, am_hM h M')))
  | 0 => ⟨(fun hyp => nomatch hyp), (fun hyp => nomatch hyp), (fun hyp => nomatch hyp)⟩
  | n + 1 => ⟨(fun hyp => by
      rw [show d + (n + 1) + 5 = d + n + 6 by omega]
      exact ef_RX12_sum (d := d + n) g (erec_sum g n).1 (erec_sum g n).2.1 (erec_sum g n).2.2 hyp),
    (fun hyp => by
      rw [show d + (n + 1) + 5 = d + n + 6 by omega]
      exact ef_RX12_product (d := d + n) g (erec_sum g n).1 (erec_sum g n).2.1 (erec_sum g n).2.2 hyp),
    (fun hyp => by
      rw [show d + (n + 1) + 5 = d + n + 6 by omega]
      exact ef_RX12_one (d := d + n) g (erec_sum g n).1 (erec_sum g n).2.1 (erec_sum g n).2.2 hyp)⟩
theorem ef_X12_sum {d : Nat} {h : am_H} (g : lay h) : ∀ {M M' : Mem} , f_X12_sum M = some M' → am_Ev (d + 35) mX12_sum [.inr (54, 0)] (am_hM h M) (.inl (none, am_hM h M')) := fun hyp => (erec_sum (d := d) g 30).1 hyp
theorem ef_X12_product {d : Nat} {h : am_H} (g : lay h) : ∀ {M M' : Mem} , f_X12_product M = some M' → am_Ev (d + 35) mX12_product [.inr (54, 0)] (am_hM h M) (.inl (none, am_hM h M')) := fun hyp => (erec_sum (d := d) g 30).2.1 hyp
theorem ef_X12_one {d : Nat} {h : am_H} (g : lay h) : ∀ {M M' : Mem} , f_X12_one M = some M' → am_Ev (d + 35) mX12_one [.inr (54, 0)] (am_hM h M) (.inl (none, am_hM h M')) := fun hyp => (erec_sum (d := d) g 30).2.2 hyp
theorem ef_X12_law {d : Nat} {h : am_H} (g : lay h) {x1 : Int32} {M : Mem} {v : Int32} {M' : Mem} (hyp : f_X12_law x1 M = some (v, M')) : am_Ev (d + 36) mX12_law [.inr (54, 0), am_I x1] (am_hM h M) (.inl (some (am_I v), am_hM h M')) := by
  unfold f_X12_law at hyp
  refine am_Ev.mk (by decide +kernel) rfl rfl (Nat.le_refl _) (Nat.le_refl _) ?_
  change am_At _ _ _ 0 [_, _] [] _ _
  refine am_aload_n dX12_law_0 rfl ?_
  refine am_iconst 0 (v := 0) dX12_law_1 (by decide) ?_
  refine am_putI 12 0 dX12_law_2 (Or.inl fp_X12_103) (sh_54 g) (by decide) rfl rfl rfl ?_
  refine am_aload_n dX12_law_5 rfl ?_
  refine am_iload_n dX12_law_6 rfl ?_
  refine am_iconst 0 (v := 0) dX12_law_7 (by decide) ?_
  refine am_aload_n dX12_law_8 rfl ?_
  refine am_getI 12 1 dX12_law_9 fg_X12_106 (sh_54 g) (by decide) rfl ?_
  refine am_callS (c := 0) (k := 0) (n := 0) (w := 0) [_, _, _] dX12_law_12 ml_X12_137 sm_X12_in rfl (fun _ => Nat.le_of_ble_eq_true rfl) (by omega) rfl (ef_X12_in (d := d + 35) (h := am_hM h (am_u3 M 54 0 0 (0 : Int32))) (x0 := x1) (x1 := (0 : Int32)) (x2 := (M 54 0 1))  rfl) rfl ?_
  change am_At _ _ _ 15 [_, _] [_, _] _ _
  refine am_if_eq (10) 25 dX12_law_15 rfl ?_ ?_
  · intro hc1
    have hc1 : (f_X12_in x1 (0 : Int32) (M 54 0 1)) = 0 := hc1
    replace hyp := it_pos hc1 hyp
    refine am_iconst 1 (v := 1) dX12_law_25 (by decide) ?_
    refine am_goto (4) 30 dX12_law_26 rfl ?_
    refine am_iconst 1 (v := 1) dX12_law_30 (by decide) ?_
    refine am_iconst 1 (v := 1) dX12_law_31 (by decide) ?_
    obtain ⟨⟨v2, M2⟩, hk2, hyp⟩ := bd_some hyp
    try dsimp only at hyp
    refine am_callV [_, _, _] dX12_law_32 ml_X12_179 vm_X12_bad (sh_54 g) rfl (fun _ => Nat.le_of_ble_eq_true rfl) (by omega) rfl (ef_X12_bad (d := d + 35) (h := h) g hk2) rfl ?_
    change am_At _ _ _ 35 [_, _] [_] _ _
    refine am_if_eq (5) 40 dX12_law_35 rfl ?_ ?_
    · intro hc3
      have hc3 : v2 = 0 := hc3
      replace hyp := it_pos hc3 hyp
      refine am_aload_n dX12_law_40 rfl ?_
      refine am_iload_n dX12_law_41 rfl ?_
      obtain ⟨M4, hk4, hyp⟩ := bd_some hyp
      try dsimp only at hyp
      refine am_callV [_] dX12_law_42 ml_X12_183 vm_X12_starts (sh_54 g) rfl (fun _ => Nat.le_of_ble_eq_true rfl) (by omega) rfl (ef_X12_starts (d := d + 33) (h := h) g hk4) rfl ?_
      change am_At _ _ _ 45 [_, _] [] _ _
      refine am_aload_n dX12_law_45 rfl ?_
      refine am_iconst 0 (v := 0) dX12_law_46 (by decide) ?_
      refine am_putI 12 20 dX12_law_47 (Or.inl fp_X12_211) (sh_54 g) (by decide) rfl rfl rfl ?_
      refine am_aload_n dX12_law_50 rfl ?_
      obtain ⟨M5, hk5, hyp⟩ := bd_some hyp
      try dsimp only at hyp
      refine am_callV [] dX12_law_51 ml_X12_233 vm_X12_sum (sh_54 g) rfl (fun _ => Nat.le_of_ble_eq_true rfl) (by omega) rfl (ef_X12_sum (d := d + 0) (h := h) g hk5) rfl ?_
      change am_At _ _ _ 54 [_, _] [] _ _
      refine am_aload_n dX12_law_54 rfl ?_
      obtain ⟨M6, hk6, hyp⟩ := bd_some hyp
      try dsimp only at hyp
      refine am_callV [] dX12_law_55 ml_X12_125 vm_X12_blanks (sh_54 g) rfl (fun _ => Nat.le_of_ble_eq_true rfl) (by omega) rfl (ef_X12_blanks (d := d + 34) (h := h) g hk6) rfl ?_
      change am_At _ _ _ 58 [_, _] [] _ _
      refine am_aload_n dX12_law_58 rfl ?_
      refine am_getI 12 5 dX12_law_59 fg_X12_119 (sh_54 g) (by decide) rfl ?_
      refine am_if_ne (23) 85 dX12_law_62 rfl ?_ ?_
      · intro hc7n
        have hc7n : ¬ ((M6 54 0 5) = 0) := hc7n
        replace hyp := it_neg hc7n hyp
        refine am_aload_n dX12_law_85 rfl ?_
        refine am_getI 12 5 dX12_law_86 fg_X12_119 (sh_54 g) (by decide) rfl ?_
        refine am_if_eqF (8) 97 dX12_law_89 rfl hc7n ?_
        refine am_aload_n dX12_law_92 rfl ?_
        refine am_callV [] dX12_law_93 ml_X12_189 vm_X12_ends (sh_54 g) rfl (fun _ => Nat.le_of_ble_eq_true rfl) (by omega) rfl (ef_X12_ends (d := d + 35) (h := h) g  (M := M6) rfl) rfl ?_
        change am_At _ _ _ 96 [_, _] [_] _ _
        cases hyp
        exact am_iret dX12_law_96 rfl
      · intro hc7
        have hc7 : (M6 54 0 5) = 0 := hc7
        replace hyp := it_pos hc7 hyp
        refine am_aload_n dX12_law_65 rfl ?_
        refine am_getI 12 4 dX12_law_66 fg_X12_112 (sh_54 g) (by decide) rfl ?_
        refine am_aload_n dX12_law_69 rfl ?_
        refine am_getI 12 2 dX12_law_70 fg_X12_109 (sh_54 g) (by decide) rfl ?_
        refine am_icmp_ge (12) 85 dX12_law_73 rfl ?_ ?_
        · intro hc8
          have hc8 : (M6 54 0 2) ≤ (M6 54 0 4) := hc8
          replace hyp := it_pos hc8 hyp
          refine am_aload_n dX12_law_85 rfl ?_
          refine am_getI 12 5 dX12_law_86 fg_X12_119 (sh_54 g) (by decide) rfl ?_
          refine am_if_eqT (8) 97 dX12_law_89 rfl hc7 ?_
          refine am_aload_n dX12_law_97 rfl ?_
          refine am_iconst (-1) (v := (-1)) dX12_law_98 (by decide) ?_
          refine am_putI 12 3 dX12_law_99 (Or.inl fp_X12_9) (sh_54 g) (by decide) rfl rfl rfl ?_
          refine am_aload_n dX12_law_102 rfl ?_
          refine am_aload_n dX12_law_103 rfl ?_
          refine am_getI 12 20 dX12_law_104 fg_X12_211 (sh_54 g) (by decide) rfl ?_
          refine am_putI 12 19 dX12_law_107 (Or.inl fp_X12_196) (sh_54 g) (by decide) rfl rfl rfl ?_
          refine am_aload_n dX12_law_110 rfl ?_
          refine am_getR 12 22 66 dX12_law_111 fg_X12_49 (sh_54 g) (by decide) rfl (rf_54_22 g) ?_
          refine am_aload_n dX12_law_114 rfl ?_
          refine am_getR 12 21 65 dX12_law_115 fg_X12_46 (sh_54 g) (by decide) rfl (rf_54_21 g) ?_
          refine am_aload_n dX12_law_118 rfl ?_
          refine am_getI 12 19 dX12_law_119 fg_X12_196 (sh_54 g) (by decide) rfl ?_
          obtain ⟨M9, hk9, hyp⟩ := bd_some hyp
          try dsimp only at hyp
          refine am_callS (c := 0) (k := 0) (n := 0) (w := 0) [_, _, _] dX12_law_122 ml_X12_192 sm_X12_lays rfl (fun _ => Nat.le_of_ble_eq_true rfl) (by omega) rfl (ef_X12_lays_l (d := d + 35) (h := h) g hk9) rfl ?_
          change am_At _ _ _ 125 [_, _] [] _ _
          refine am_iconst 1 (v := 1) dX12_law_125 (by decide) ?_
          cases hyp
          exact am_iret dX12_law_126 rfl
        · intro hc8n
          have hc8n : ¬ ((M6 54 0 2) ≤ (M6 54 0 4)) := hc8n
          replace hyp := it_neg hc8n hyp
          refine am_aload_n dX12_law_76 rfl ?_
          refine am_iconst 1 (v := 1) dX12_law_77 (by decide) ?_
          refine am_aload_n dX12_law_78 rfl ?_
          refine am_getI 12 4 dX12_law_79 fg_X12_112 (sh_54 g) (by decide) rfl ?_
          refine am_callV [_, _] dX12_law_82 ml_X12_132 vm_X12_wrong (sh_54 g) rfl (fun _ => Nat.le_of_ble_eq_true rfl) (by omega) rfl (ef_X12_wrong (d := d + 35) (h := h) g (x1 := (1 : Int32)) (x2 := (M6 54 0 4)) (M := M6) rfl) rfl ?_
          change am_At _ _ _ 85 [_, _] [] _ _
          refine am_aload_n dX12_law_85 rfl ?_
          refine am_getI 12 5 dX12_law_86 fg_X12_119 (sh_54 g) (by decide) rfl ?_
          refine am_if_eq (8) 97 dX12_law_89 rfl ?_ ?_
          · intro hc10
            have hc10 : ((f_X12_wrong (1 : Int32) (M6 54 0 4) M6) 54 0 5) = 0 := hc10
            replace hyp := it_pos hc10 hyp
            refine am_aload_n dX12_law_97 rfl ?_
            refine am_iconst (-1) (v := (-1)) dX12_law_98 (by decide) ?_
            refine am_putI 12 3 dX12_law_99 (Or.inl fp_X12_9) (sh_54 g) (by decide) rfl rfl rfl ?_
            refine am_aload_n dX12_law_102 rfl ?_
            refine am_aload_n dX12_law_103 rfl ?_
            refine am_getI 12 20 dX12_law_104 fg_X12_211 (sh_54 g) (by decide) rfl ?_
            refine am_putI 12 19 dX12_law_107 (Or.inl fp_X12_196) (sh_54 g) (by decide) rfl rfl rfl ?_
            refine am_aload_n dX12_law_110 rfl ?_
            refine am_getR 12 22 66 dX12_law_111 fg_X12_49 (sh_54 g) (by decide) rfl (rf_54_22 g) ?_
            refine am_aload_n dX12_law_114 rfl ?_
            refine am_getR 12 21 65 dX12_law_115 fg_X12_46 (sh_54 g) (by decide) rfl (rf_54_21 g) ?_
            refine am_aload_n dX12_law_118 rfl ?_
            refine am_getI 12 19 dX12_law_119 fg_X12_196 (sh_54 g) (by decide) rfl ?_
            obtain ⟨M11, hk11, hyp⟩ := bd_some hyp
            try dsimp only at hyp
            refine am_callS (c := 0) (k := 0) (n := 0) (w := 0) [_, _, _] dX12_law_122 ml_X12_192 sm_X12_lays rfl (fun _ => Nat.le_of_ble_eq_true rfl) (by omega) rfl (ef_X12_lays_l (d := d + 35) (h := h) g hk11) rfl ?_
            change am_At _ _ _ 125 [_, _] [] _ _
            refine am_iconst 1 (v := 1) dX12_law_125 (by decide) ?_
            cases hyp
            exact am_iret dX12_law_126 rfl
          · intro hc10n
            have hc10n : ¬ (((f_X12_wrong (1 : Int32) (M6 54 0 4) M6) 54 0 5) = 0) := hc10n
            replace hyp := it_neg hc10n hyp
            refine am_aload_n dX12_law_92 rfl ?_
            refine am_callV [] dX12_law_93 ml_X12_189 vm_X12_ends (sh_54 g) rfl (fun _ => Nat.le_of_ble_eq_true rfl) (by omega) rfl (ef_X12_ends (d := d + 35) (h := h) g  (M := (f_X12_wrong (1 : Int32) (M6 54 0 4) M6)) rfl) rfl ?_
            change am_At _ _ _ 96 [_, _] [_] _ _
            cases hyp
            exact am_iret dX12_law_96 rfl
    · intro hc3n
      have hc3n : ¬ (v2 = 0) := hc3n
      replace hyp := it_neg hc3n hyp
      refine am_iconst 0 (v := 0) dX12_law_38 (by decide) ?_
      cases hyp
      exact am_iret dX12_law_39 rfl
  · intro hc1n
    have hc1n : ¬ ((f_X12_in x1 (0 : Int32) (M 54 0 1)) = 0) := hc1n
    replace hyp := it_neg hc1n hyp
    refine am_iload_n dX12_law_18 rfl ?_
    refine am_sipush 150 (v := 150) dX12_law_19 (by decide) ?_
    refine am_icmp_le (7) 29 dX12_law_22 rfl ?_ ?_
    · intro hc12
      have hc12 : x1 ≤ (150 : Int32) := hc12
      replace hyp := it_pos hc12 hyp
      refine am_iconst 0 (v := 0) dX12_law_29 (by decide) ?_
      refine am_iconst 1 (v := 1) dX12_law_30 (by decide) ?_
      refine am_iconst 1 (v := 1) dX12_law_31 (by decide) ?_
      obtain ⟨⟨v13, M13⟩, hk13, hyp⟩ := bd_some hyp
      try dsimp only at hyp
      refine am_callV [_, _, _] dX12_law_32 ml_X12_179 vm_X12_bad (sh_54 g) rfl (fun _ => Nat.le_of_ble_eq_true rfl) (by omega) rfl (ef_X12_bad (d := d + 35) (h := h) g hk13) rfl ?_
      change am_At _ _ _ 35 [_, _] [_] _ _
      refine am_if_eq (5) 40 dX12_law_35 rfl ?_ ?_
      · intro hc14
        have hc14 : v13 = 0 := hc14
        replace hyp := it_pos hc14 hyp
        refine am_aload_n dX12_law_40 rfl ?_
        refine am_iload_n dX12_law_41 rfl ?_
        obtain ⟨M15, hk15, hyp⟩ := bd_some hyp
        try dsimp only at hyp
        refine am_callV [_] dX12_law_42 ml_X12_183 vm_X12_starts (sh_54 g) rfl (fun _ => Nat.le_of_ble_eq_true rfl) (by omega) rfl (ef_X12_starts (d := d + 33) (h := h) g hk15) rfl ?_
        change am_At _ _ _ 45 [_, _] [] _ _
        refine am_aload_n dX12_law_45 rfl ?_
        refine am_iconst 0 (v := 0) dX12_law_46 (by decide) ?_
        refine am_putI 12 20 dX12_law_47 (Or.inl fp_X12_211) (sh_54 g) (by decide) rfl rfl rfl ?_
        refine am_aload_n dX12_law_50 rfl ?_
        obtain ⟨M16, hk16, hyp⟩ := bd_some hyp
        try dsimp only at hyp
        refine am_callV [] dX12_law_51 ml_X12_233 vm_X12_sum (sh_54 g) rfl (fun _ => Nat.le_of_ble_eq_true rfl) (by omega) rfl (ef_X12_sum (d := d + 0) (h := h) g hk16) rfl ?_
        change am_At _ _ _ 54 [_, _] [] _ _
        refine am_aload_n dX12_law_54 rfl ?_
        obtain ⟨M17, hk17, hyp⟩ := bd_some hyp
        try dsimp only at hyp
        refine am_callV [] dX12_law_55 ml_X12_125 vm_X12_blanks (sh_54 g) rfl (fun _ => Nat.le_of_ble_eq_true rfl) (by omega) rfl (ef_X12_blanks (d := d + 34) (h := h) g hk17) rfl ?_
        change am_At _ _ _ 58 [_, _] [] _ _
        refine am_aload_n dX12_law_58 rfl ?_
        refine am_getI 12 5 dX12_law_59 fg_X12_119 (sh_54 g) (by decide) rfl ?_
        refine am_if_ne (23) 85 dX12_law_62 rfl ?_ ?_
        · intro hc18n
          have hc18n : ¬ ((M17 54 0 5) = 0) := hc18n
          replace hyp := it_neg hc18n hyp
          refine am_aload_n dX12_law_85 rfl ?_
          refine am_getI 12 5 dX12_law_86 fg_X12_119 (sh_54 g) (by decide) rfl ?_
          refine am_if_eqF (8) 97 dX12_law_89 rfl hc18n ?_
          refine am_aload_n dX12_law_92 rfl ?_
          refine am_callV [] dX12_law_93 ml_X12_189 vm_X12_ends (sh_54 g) rfl (fun _ => Nat.le_of_ble_eq_true rfl) (by omega) rfl (ef_X12_ends (d := d + 35) (h := h) g  (M := M17) rfl) rfl ?_
          change am_At _ _ _ 96 [_, _] [_] _ _
          cases hyp
          exact am_iret dX12_law_96 rfl
        · intro hc18
          have hc18 : (M17 54 0 5) = 0 := hc18
          replace hyp := it_pos hc18 hyp
          refine am_aload_n dX12_law_65 rfl ?_
          refine am_getI 12 4 dX12_law_66 fg_X12_112 (sh_54 g) (by decide) rfl ?_
          refine am_aload_n dX12_law_69 rfl ?_
          refine am_getI 12 2 dX12_law_70 fg_X12_109 (sh_54 g) (by decide) rfl ?_
          refine am_icmp_ge (12) 85 dX12_law_73 rfl ?_ ?_
          · intro hc19
            have hc19 : (M17 54 0 2) ≤ (M17 54 0 4) := hc19
            replace hyp := it_pos hc19 hyp
            refine am_aload_n dX12_law_85 rfl ?_
            refine am_getI 12 5 dX12_law_86 fg_X12_119 (sh_54 g) (by decide) rfl ?_
            refine am_if_eqT (8) 97 dX12_law_89 rfl hc18 ?_
            refine am_aload_n dX12_law_97 rfl ?_
            refine am_iconst (-1) (v := (-1)) dX12_law_98 (by decide) ?_
            refine am_putI 12 3 dX12_law_99 (Or.inl fp_X12_9) (sh_54 g) (by decide) rfl rfl rfl ?_
            refine am_aload_n dX12_law_102 rfl ?_
            refine am_aload_n dX12_law_103 rfl ?_
            refine am_getI 12 20 dX12_law_104 fg_X12_211 (sh_54 g) (by decide) rfl ?_
            refine am_putI 12 19 dX12_law_107 (Or.inl fp_X12_196) (sh_54 g) (by decide) rfl rfl rfl ?_
            refine am_aload_n dX12_law_110 rfl ?_
            refine am_getR 12 22 66 dX12_law_111 fg_X12_49 (sh_54 g) (by decide) rfl (rf_54_22 g) ?_
            refine am_aload_n dX12_law_114 rfl ?_
            refine am_getR 12 21 65 dX12_law_115 fg_X12_46 (sh_54 g) (by decide) rfl (rf_54_21 g) ?_
            refine am_aload_n dX12_law_118 rfl ?_
            refine am_getI 12 19 dX12_law_119 fg_X12_196 (sh_54 g) (by decide) rfl ?_
            obtain ⟨M20, hk20, hyp⟩ := bd_some hyp
            try dsimp only at hyp
            refine am_callS (c := 0) (k := 0) (n := 0) (w := 0) [_, _, _] dX12_law_122 ml_X12_192 sm_X12_lays rfl (fun _ => Nat.le_of_ble_eq_true rfl) (by omega) rfl (ef_X12_lays_l (d := d + 35) (h := h) g hk20) rfl ?_
            change am_At _ _ _ 125 [_, _] [] _ _
            refine am_iconst 1 (v := 1) dX12_law_125 (by decide) ?_
            cases hyp
            exact am_iret dX12_law_126 rfl
          · intro hc19n
            have hc19n : ¬ ((M17 54 0 2) ≤ (M17 54 0 4)) := hc19n
            replace hyp := it_neg hc19n hyp
            refine am_aload_n dX12_law_76 rfl ?_
            refine am_iconst 1 (v := 1) dX12_law_77 (by decide) ?_
            refine am_aload_n dX12_law_78 rfl ?_
            refine am_getI 12 4 dX12_law_79 fg_X12_112 (sh_54 g) (by decide) rfl ?_
            refine am_callV [_, _] dX12_law_82 ml_X12_132 vm_X12_wrong (sh_54 g) rfl (fun _ => Nat.le_of_ble_eq_true rfl) (by omega) rfl (ef_X12_wrong (d := d + 35) (h := h) g (x1 := (1 : Int32)) (x2 := (M17 54 0 4)) (M := M17) rfl) rfl ?_
            change am_At _ _ _ 85 [_, _] [] _ _
            refine am_aload_n dX12_law_85 rfl ?_
            refine am_getI 12 5 dX12_law_86 fg_X12_119 (sh_54 g) (by decide) rfl ?_
            refine am_if_eq (8) 97 dX12_law_89 rfl ?_ ?_
            · intro hc21
              have hc21 : ((f_X12_wrong (1 : Int32) (M17 54 0 4) M17) 54 0 5) = 0 := hc21
              replace hyp := it_pos hc21 hyp
              refine am_aload_n dX12_law_97 rfl ?_
              refine am_iconst (-1) (v := (-1)) dX12_law_98 (by decide) ?_
              refine am_putI 12 3 dX12_law_99 (Or.inl fp_X12_9) (sh_54 g) (by decide) rfl rfl rfl ?_
              refine am_aload_n dX12_law_102 rfl ?_
              refine am_aload_n dX12_law_103 rfl ?_
              refine am_getI 12 20 dX12_law_104 fg_X12_211 (sh_54 g) (by decide) rfl ?_
              refine am_putI 12 19 dX12_law_107 (Or.inl fp_X12_196) (sh_54 g) (by decide) rfl rfl rfl ?_
              refine am_aload_n dX12_law_110 rfl ?_
              refine am_getR 12 22 66 dX12_law_111 fg_X12_49 (sh_54 g) (by decide) rfl (rf_54_22 g) ?_
              refine am_aload_n dX12_law_114 rfl ?_
              refine am_getR 12 21 65 dX12_law_115 fg_X12_46 (sh_54 g) (by decide) rfl (rf_54_21 g) ?_
              refine am_aload_n dX12_law_118 rfl ?_
              refine am_getI 12 19 dX12_law_119 fg_X12_196 (sh_54 g) (by decide) rfl ?_
              obtain ⟨M22, hk22, hyp⟩ := bd_some hyp
              try dsimp only at hyp
              refine am_callS (c := 0) (k := 0) (n := 0) (w := 0) [_, _, _] dX12_law_122 ml_X12_192 sm_X12_lays rfl (fun _ => Nat.le_of_ble_eq_true rfl) (by omega) rfl (ef_X12_lays_l (d := d + 35) (h := h) g hk22) rfl ?_
              change am_At _ _ _ 125 [_, _] [] _ _
              refine am_iconst 1 (v := 1) dX12_law_125 (by decide) ?_
              cases hyp
              exact am_iret dX12_law_126 rfl
            · intro hc21n
              have hc21n : ¬ (((f_X12_wrong (1 : Int32) (M17 54 0 4) M17) 54 0 5) = 0) := hc21n
              replace hyp := it_neg hc21n hyp
              refine am_aload_n dX12_law_92 rfl ?_
              refine am_callV [] dX12_law_93 ml_X12_189 vm_X12_ends (sh_54 g) rfl (fun _ => Nat.le_of_ble_eq_true rfl) (by omega) rfl (ef_X12_ends (d := d + 35) (h := h) g  (M := (f_X12_wrong (1 : Int32) (M17 54 0 4) M17)) rfl) rfl ?_
              change am_At _ _ _ 96 [_, _] [_] _ _
              cases hyp
              exact am_iret dX12_law_96 rfl
      · intro hc14n
        have hc14n : ¬ (v13 = 0) := hc14n
        replace hyp := it_neg hc14n hyp
        refine am_iconst 0 (v := 0) dX12_law_38 (by decide) ?_
        cases hyp
        exact am_iret dX12_law_39 rfl
    · intro hc12n
      have hc12n : ¬ (x1 ≤ (150 : Int32)) := hc12n
      replace hyp := it_neg hc12n hyp
      refine am_iconst 1 (v := 1) dX12_law_25 (by decide) ?_
      refine am_goto (4) 30 dX12_law_26 rfl ?_
      refine am_iconst 1 (v := 1) dX12_law_30 (by decide) ?_
      refine am_iconst 1 (v := 1) dX12_law_31 (by decide) ?_
      obtain ⟨⟨v23, M23⟩, hk23, hyp⟩ := bd_some hyp
      try dsimp only at hyp
      refine am_callV [_, _, _] dX12_law_32 ml_X12_179 vm_X12_bad (sh_54 g) rfl (fun _ => Nat.le_of_ble_eq_true rfl) (by omega) rfl (ef_X12_bad (d := d + 35) (h := h) g hk23) rfl ?_
      change am_At _ _ _ 35 [_, _] [_] _ _
      refine am_if_eq (5) 40 dX12_law_35 rfl ?_ ?_
      · intro hc24
        have hc24 : v23 = 0 := hc24
        replace hyp := it_pos hc24 hyp
        refine am_aload_n dX12_law_40 rfl ?_
        refine am_iload_n dX12_law_41 rfl ?_
        obtain ⟨M25, hk25, hyp⟩ := bd_some hyp
        try dsimp only at hyp
        refine am_callV [_] dX12_law_42 ml_X12_183 vm_X12_starts (sh_54 g) rfl (fun _ => Nat.le_of_ble_eq_true rfl) (by omega) rfl (ef_X12_starts (d := d + 33) (h := h) g hk25) rfl ?_
        change am_At _ _ _ 45 [_, _] [] _ _
        refine am_aload_n dX12_law_45 rfl ?_
        refine am_iconst 0 (v := 0) dX12_law_46 (by decide) ?_
        refine am_putI 12 20 dX12_law_47 (Or.inl fp_X12_211) (sh_54 g) (by decide) rfl rfl rfl ?_
        refine am_aload_n dX12_law_50 rfl ?_
        obtain ⟨M26, hk26, hyp⟩ := bd_some hyp
        try dsimp only at hyp
        refine am_callV [] dX12_law_51 ml_X12_233 vm_X12_sum (sh_54 g) rfl (fun _ => Nat.le_of_ble_eq_true rfl) (by omega) rfl (ef_X12_sum (d := d + 0) (h := h) g hk26) rfl ?_
        change am_At _ _ _ 54 [_, _] [] _ _
        refine am_aload_n dX12_law_54 rfl ?_
        obtain ⟨M27, hk27, hyp⟩ := bd_some hyp
        try dsimp only at hyp
        refine am_callV [] dX12_law_55 ml_X12_125 vm_X12_blanks (sh_54 g) rfl (fun _ => Nat.le_of_ble_eq_true rfl) (by omega) rfl (ef_X12_blanks (d := d + 34) (h := h) g hk27) rfl ?_
        change am_At _ _ _ 58 [_, _] [] _ _
        refine am_aload_n dX12_law_58 rfl ?_
        refine am_getI 12 5 dX12_law_59 fg_X12_119 (sh_54 g) (by decide) rfl ?_
        refine am_if_ne (23) 85 dX12_law_62 rfl ?_ ?_
        · intro hc28n
          have hc28n : ¬ ((M27 54 0 5) = 0) := hc28n
          replace hyp := it_neg hc28n hyp
          refine am_aload_n dX12_law_85 rfl ?_
          refine am_getI 12 5 dX12_law_86 fg_X12_119 (sh_54 g) (by decide) rfl ?_
          refine am_if_eqF (8) 97 dX12_law_89 rfl hc28n ?_
          refine am_aload_n dX12_law_92 rfl ?_
          refine am_callV [] dX12_law_93 ml_X12_189 vm_X12_ends (sh_54 g) rfl (fun _ => Nat.le_of_ble_eq_true rfl) (by omega) rfl (ef_X12_ends (d := d + 35) (h := h) g  (M := M27) rfl) rfl ?_
          change am_At _ _ _ 96 [_, _] [_] _ _
          cases hyp
          exact am_iret dX12_law_96 rfl
        · intro hc28
          have hc28 : (M27 54 0 5) = 0 := hc28
          replace hyp := it_pos hc28 hyp
          refine am_aload_n dX12_law_65 rfl ?_
          refine am_getI 12 4 dX12_law_66 fg_X12_112 (sh_54 g) (by decide) rfl ?_
          refine am_aload_n dX12_law_69 rfl ?_
          refine am_getI 12 2 dX12_law_70 fg_X12_109 (sh_54 g) (by decide) rfl ?_
          refine am_icmp_ge (12) 85 dX12_law_73 rfl ?_ ?_
          · intro hc29
            have hc29 : (M27 54 0 2) ≤ (M27 54 0 4) := hc29
            replace hyp := it_pos hc29 hyp
            refine am_aload_n dX12_law_85 rfl ?_
            refine am_getI 12 5 dX12_law_86 fg_X12_119 (sh_54 g) (by decide) rfl ?_
            refine am_if_eqT (8) 97 dX12_law_89 rfl hc28 ?_
            refine am_aload_n dX12_law_97 rfl ?_
            refine am_iconst (-1) (v := (-1)) dX12_law_98 (by decide) ?_
            refine am_putI 12 3 dX12_law_99 (Or.inl fp_X12_9) (sh_54 g) (by decide) rfl rfl rfl ?_
            refine am_aload_n dX12_law_102 rfl ?_
            refine am_aload_n dX12_law_103 rfl ?_
            refine am_getI 12 20 dX12_law_104 fg_X12_211 (sh_54 g) (by decide) rfl ?_
            refine am_putI 12 19 dX12_law_107 (Or.inl fp_X12_196) (sh_54 g) (by decide) rfl rfl rfl ?_
            refine am_aload_n dX12_law_110 rfl ?_
            refine am_getR 12 22 66 dX12_law_111 fg_X12_49 (sh_54 g) (by decide) rfl (rf_54_22 g) ?_
            refine am_aload_n dX12_law_114 rfl ?_
            refine am_getR 12 21 65 dX12_law_115 fg_X12_46 (sh_54 g) (by decide) rfl (rf_54_21 g) ?_
            refine am_aload_n dX12_law_118 rfl ?_
            refine am_getI 12 19 dX12_law_119 fg_X12_196 (sh_54 g) (by decide) rfl ?_
            obtain ⟨M30, hk30, hyp⟩ := bd_some hyp
            try dsimp only at hyp
            refine am_callS (c := 0) (k := 0) (n := 0) (w := 0) [_, _, _] dX12_law_122 ml_X12_192 sm_X12_lays rfl (fun _ => Nat.le_of_ble_eq_true rfl) (by omega) rfl (ef_X12_lays_l (d := d + 35) (h := h) g hk30) rfl ?_
            change am_At _ _ _ 125 [_, _] [] _ _
            refine am_iconst 1 (v := 1) dX12_law_125 (by decide) ?_
            cases hyp
            exact am_iret dX12_law_126 rfl
          · intro hc29n
            have hc29n : ¬ ((M27 54 0 2) ≤ (M27 54 0 4)) := hc29n
            replace hyp := it_neg hc29n hyp
            refine am_aload_n dX12_law_76 rfl ?_
            refine am_iconst 1 (v := 1) dX12_law_77 (by decide) ?_
            refine am_aload_n dX12_law_78 rfl ?_
            refine am_getI 12 4 dX12_law_79 fg_X12_112 (sh_54 g) (by decide) rfl ?_
            refine am_callV [_, _] dX12_law_82 ml_X12_132 vm_X12_wrong (sh_54 g) rfl (fun _ => Nat.le_of_ble_eq_true rfl) (by omega) rfl (ef_X12_wrong (d := d + 35) (h := h) g (x1 := (1 : Int32)) (x2 := (M27 54 0 4)) (M := M27) rfl) rfl ?_
            change am_At _ _ _ 85 [_, _] [] _ _
            refine am_aload_n dX12_law_85 rfl ?_
            refine am_getI 12 5 dX12_law_86 fg_X12_119 (sh_54 g) (by decide) rfl ?_
            refine am_if_eq (8) 97 dX12_law_89 rfl ?_ ?_
            · intro hc31
              have hc31 : ((f_X12_wrong (1 : Int32) (M27 54 0 4) M27) 54 0 5) = 0 := hc31
              replace hyp := it_pos hc31 hyp
              refine am_aload_n dX12_law_97 rfl ?_
              refine am_iconst (-1) (v := (-1)) dX12_law_98 (by decide) ?_
              refine am_putI 12 3 dX12_law_99 (Or.inl fp_X12_9) (sh_54 g) (by decide) rfl rfl rfl ?_
              refine am_aload_n dX12_law_102 rfl ?_
              refine am_aload_n dX12_law_103 rfl ?_
              refine am_getI 12 20 dX12_law_104 fg_X12_211 (sh_54 g) (by decide) rfl ?_
              refine am_putI 12 19 dX12_law_107 (Or.inl fp_X12_196) (sh_54 g) (by decide) rfl rfl rfl ?_
              refine am_aload_n dX12_law_110 rfl ?_
              refine am_getR 12 22 66 dX12_law_111 fg_X12_49 (sh_54 g) (by decide) rfl (rf_54_22 g) ?_
              refine am_aload_n dX12_law_114 rfl ?_
              refine am_getR 12 21 65 dX12_law_115 fg_X12_46 (sh_54 g) (by decide) rfl (rf_54_21 g) ?_
              refine am_aload_n dX12_law_118 rfl ?_
              refine am_getI 12 19 dX12_law_119 fg_X12_196 (sh_54 g) (by decide) rfl ?_
              obtain ⟨M32, hk32, hyp⟩ := bd_some hyp
              try dsimp only at hyp
              refine am_callS (c := 0) (k := 0) (n := 0) (w := 0) [_, _, _] dX12_law_122 ml_X12_192 sm_X12_lays rfl (fun _ => Nat.le_of_ble_eq_true rfl) (by omega) rfl (ef_X12_lays_l (d := d + 35) (h := h) g hk32) rfl ?_
              change am_At _ _ _ 125 [_, _] [] _ _
              refine am_iconst 1 (v := 1) dX12_law_125 (by decide) ?_
              cases hyp
              exact am_iret dX12_law_126 rfl
            · intro hc31n
              have hc31n : ¬ (((f_X12_wrong (1 : Int32) (M27 54 0 4) M27) 54 0 5) = 0) := hc31n
              replace hyp := it_neg hc31n hyp
              refine am_aload_n dX12_law_92 rfl ?_
              refine am_callV [] dX12_law_93 ml_X12_189 vm_X12_ends (sh_54 g) rfl (fun _ => Nat.le_of_ble_eq_true rfl) (by omega) rfl (ef_X12_ends (d := d + 35) (h := h) g  (M := (f_X12_wrong (1 : Int32) (M27 54 0 4) M27)) rfl) rfl ?_
              change am_At _ _ _ 96 [_, _] [_] _ _
              cases hyp
              exact am_iret dX12_law_96 rfl
      · intro hc24n
        have hc24n : ¬ (v23 = 0) := hc24n
        replace hyp := it_neg hc24n hyp
        refine am_iconst 0 (v := 0) dX12_law_38 (by decide) ?_
        cases hyp
        exact am_iret dX12_law_39 rfl
theorem eL_X12_reach_61 {d : Nat} {h : am_H} (g : lay h) {M : Mem} {r : am_R} (n : Nat) : ∀ (s : Int32 × Int32) (e : Int32), wh (L_X12_reach_61 M) n s = some e → ((fun (x3 : Int32) => am_At am_X0 (d + 8) mX12_reach 100 [some (.inr (54, 0)), none, none, some (am_I (x3)), none] [] (am_hM h M) r) e) → (match s with | (x3, x4) => am_At am_X0 (d + 8) mX12_reach 61 [some (.inr (54, 0)), none, none, some (am_I (x3)), some (am_I (x4))] [] (am_hM h M) r) := by
  refine am_wh (At := fun (s : Int32 × Int32) => match s with | (x3, x4) => am_At am_X0 (d + 8) mX12_reach 61 [some (.inr (54, 0)), none, none, some (am_I (x3)), some (am_I (x4))] [] (am_hM h M) r) (Ex := fun (e : Int32) => (fun (x3 : Int32) => am_At am_X0 (d + 8) mX12_reach 100 [some (.inr (54, 0)), none, none, some (am_I (x3)), none] [] (am_hM h M) r) e) ?_ n
  rintro ⟨x3, x4⟩ y hyp hx
  unfold L_X12_reach_61 at hyp
  try dsimp only at hyp
  change am_At _ _ _ 61 [_, _, _, _, _] [] _ _
  refine am_iload dX12_reach_61 rfl ?_
  refine am_aload_n dX12_reach_63 rfl ?_
  refine am_getR 12 12 58 dX12_reach_64 fg_X12_23 (sh_54 g) (by decide) rfl (rf_54_12 g) ?_
  refine am_iconst 0 (v := 0) dX12_reach_67 (by decide) ?_
  refine am_iald dX12_reach_68 (am_ia.one (sh_58 g)) (am_lit rfl) ?_
  refine am_icmp_ge (31) 100 dX12_reach_69 rfl ?_ ?_
  · intro hc8
    have hc8 : (M 58 0 0) ≤ x4 := hc8
    replace hyp := it_pos hc8 hyp
    cases hyp
    refine am_At.drop 4 ?_
    exact hx
  · intro hc8n
    have hc8n : ¬ ((M 58 0 0) ≤ x4) := hc8n
    replace hyp := it_neg hc8n hyp
    refine am_iload_n dX12_reach_72 rfl ?_
    refine am_aload_n dX12_reach_73 rfl ?_
    refine am_getR 12 47 81 dX12_reach_74 fg_X12_94 (sh_54 g) (by decide) rfl (rf_54_47 g) ?_
    refine am_iload dX12_reach_77 rfl ?_
    obtain ⟨hg9, hyp⟩ := gd_some hyp
    refine am_iald dX12_reach_79 (am_ia.one (sh_81 g)) (am_lit hg9) ?_
    refine am_iconst (-1) (v := (-1)) dX12_reach_80 (by decide) ?_
    refine am_icmp_eq (10) 91 dX12_reach_81 rfl ?_ ?_
    · intro hc10
      have hc10 : (M 81 0 x4.toNatClampNeg) = (-1 : Int32) := hc10
      replace hyp := it_pos hc10 hyp
      refine am_iconst 0 (v := 0) dX12_reach_91 (by decide) ?_
      refine am_ior dX12_reach_92 ?_
      refine am_istore_n dX12_reach_93 (am_lb rfl) ?_
      change am_At _ _ _ 94 [_, _, _, _, _] [] _ _
      refine am_iinc dX12_reach_94 rfl (am_ix _) ?_
      change am_At _ _ _ 97 [_, _, _, _, _] [] _ _
      refine am_goto (-36) 61 dX12_reach_97 rfl ?_
      cases hyp
      exact hx
    · intro hc10n
      have hc10n : ¬ ((M 81 0 x4.toNatClampNeg) = (-1 : Int32)) := hc10n
      replace hyp := it_neg hc10n hyp
      refine am_iconst 1 (v := 1) dX12_reach_84 (by decide) ?_
      refine am_iload dX12_reach_85 rfl ?_
      refine am_ishl dX12_reach_87 ?_
      refine am_goto (4) 92 dX12_reach_88 rfl ?_
      refine am_ior dX12_reach_92 ?_
      refine am_istore_n dX12_reach_93 (am_lb rfl) ?_
      change am_At _ _ _ 94 [_, _, _, _, _] [] _ _
      refine am_iinc dX12_reach_94 rfl (am_ix _) ?_
      change am_At _ _ _ 97 [_, _, _, _, _] [] _ _
      refine am_goto (-36) 61 dX12_reach_97 rfl ?_
      cases hyp
      exact hx
theorem ef_X12_reach {d : Nat} {h : am_H} (g : lay h) {x1 x2 : Int32} {M : Mem} {v : Int32} {M' : Mem} (hyp : f_X12_reach x1 x2 M = some (v, M')) : am_Ev (d + 8) mX12_reach [.inr (54, 0), am_I x1, am_I x2] (am_hM h M) (.inl (some (am_I v), am_hM h M')) := by
  unfold f_X12_reach at hyp
  refine am_Ev.mk (by decide +kernel) rfl rfl (Nat.le_refl _) (Nat.le_refl _) ?_
  change am_At _ _ _ 0 [_, _, _, _, _] [] _ _
  refine am_aload_n dX12_reach_0 rfl ?_
  refine am_iconst 0 (v := 0) dX12_reach_1 (by decide) ?_
  refine am_putI 12 0 dX12_reach_2 (Or.inl fp_X12_103) (sh_54 g) (by decide) rfl rfl rfl ?_
  refine am_aload_n dX12_reach_5 rfl ?_
  refine am_aload_n dX12_reach_6 rfl ?_
  refine am_iload_n dX12_reach_7 rfl ?_
  refine am_callV [_] dX12_reach_8 ml_X12_327 vm_X12_isBoard (sh_54 g) rfl (fun _ => Nat.le_of_ble_eq_true rfl) (by omega) rfl (ef_X12_isBoard (d := d + 6) (h := h) g (x1 := x1) (M := (am_u3 M 54 0 0 (0 : Int32))) rfl) rfl ?_
  change am_At _ _ _ 11 [_, _, _, _, _] [_, _] _ _
  refine am_if_ne (7) 18 dX12_reach_11 rfl ?_ ?_
  · intro hc1n
    have hc1n : ¬ ((f_X12_in x1 (0 : Int32) (((am_u3 M 54 0 0 (0 : Int32)) 58 0 0) - (1 : Int32))) = 0) := hc1n
    replace hyp := it_neg hc1n hyp
    refine am_iconst 0 (v := 0) dX12_reach_18 (by decide) ?_
    refine am_iconst 1 (v := 1) dX12_reach_19 (by decide) ?_
    refine am_iconst 0 (v := 0) dX12_reach_20 (by decide) ?_
    obtain ⟨⟨v2, M2⟩, hk2, hyp⟩ := bd_some hyp
    try dsimp only at hyp
    refine am_callV [_, _, _] dX12_reach_21 ml_X12_179 vm_X12_bad (sh_54 g) rfl (fun _ => Nat.le_of_ble_eq_true rfl) (by omega) rfl (ef_X12_bad (d := d + 7) (h := h) g hk2) rfl ?_
    change am_At _ _ _ 24 [_, _, _, _, _] [_] _ _
    refine am_if_ne (24) 48 dX12_reach_24 rfl ?_ ?_
    · intro hc3n
      have hc3n : ¬ (v2 = 0) := hc3n
      replace hyp := it_neg hc3n hyp
      refine am_iconst 0 (v := 0) dX12_reach_48 (by decide) ?_
      cases hyp
      exact am_iret dX12_reach_49 rfl
    · intro hc3
      have hc3 : v2 = 0 := hc3
      replace hyp := it_pos hc3 hyp
      refine am_aload_n dX12_reach_27 rfl ?_
      refine am_iload_n dX12_reach_28 rfl ?_
      refine am_callS (c := 0) (k := 0) (n := 0) (w := 0) [_] dX12_reach_29 ml_X12_363 sm_X12_isWeight rfl (fun _ => Nat.le_of_ble_eq_true rfl) (by omega) rfl (ef_X12_isWeight (d := d + 6) (h := am_hM h M2) (x0 := x2)  rfl) rfl ?_
      change am_At _ _ _ 32 [_, _, _, _, _] [_, _] _ _
      refine am_if_ne (7) 39 dX12_reach_32 rfl ?_ ?_
      · intro hc4n
        have hc4n : ¬ ((f_X12_in x2 (0 : Int32) (20 : Int32)) = 0) := hc4n
        replace hyp := it_neg hc4n hyp
        refine am_iconst 0 (v := 0) dX12_reach_39 (by decide) ?_
        refine am_iconst 2 (v := 2) dX12_reach_40 (by decide) ?_
        refine am_iconst 1 (v := 1) dX12_reach_41 (by decide) ?_
        obtain ⟨⟨v5, M5⟩, hk5, hyp⟩ := bd_some hyp
        try dsimp only at hyp
        refine am_callV [_, _, _] dX12_reach_42 ml_X12_179 vm_X12_bad (sh_54 g) rfl (fun _ => Nat.le_of_ble_eq_true rfl) (by omega) rfl (ef_X12_bad (d := d + 7) (h := h) g hk5) rfl ?_
        change am_At _ _ _ 45 [_, _, _, _, _] [_] _ _
        refine am_if_eq (5) 50 dX12_reach_45 rfl ?_ ?_
        · intro hc6
          have hc6 : v5 = 0 := hc6
          replace hyp := it_pos hc6 hyp
          refine am_aload_n dX12_reach_50 rfl ?_
          refine am_iload_n dX12_reach_51 rfl ?_
          refine am_iload_n dX12_reach_52 rfl ?_
          obtain ⟨M7, hk7, hyp⟩ := bd_some hyp
          try dsimp only at hyp
          refine am_callV [_, _] dX12_reach_53 ml_X12_366 vm_X12_walks (sh_54 g) rfl (fun _ => Nat.le_of_ble_eq_true rfl) (by omega) rfl (ef_X12_walks (d := d + 0) (h := h) g hk7) rfl ?_
          change am_At _ _ _ 56 [_, _, _, _, _] [] _ _
          refine am_iconst 0 (v := 0) dX12_reach_56 (by decide) ?_
          refine am_istore_n dX12_reach_57 (am_lb rfl) ?_
          change am_At _ _ _ 58 [_, _, _, _, _] [] _ _
          refine am_iconst 0 (v := 0) dX12_reach_58 (by decide) ?_
          refine am_istore dX12_reach_59 (am_lb rfl) ?_
          change am_At _ _ _ 61 [_, _, _, _, _] [] _ _
          obtain ⟨x3_11, hw11, hyp⟩ := bd_some hyp
          refine am_At.drop 1 ?_
          refine am_At.drop 2 ?_
          try dsimp only at hyp
          refine eL_X12_reach_61 (d := d) (h := h) g (M := M7) FU ((0 : Int32), (0 : Int32)) x3_11 hw11 ?_
          change am_At _ _ _ 100 [_, _, _, _, _] [] _ _
          refine am_iload_n dX12_reach_100 rfl ?_
          cases hyp
          exact am_iret dX12_reach_101 rfl
        · intro hc6n
          have hc6n : ¬ (v5 = 0) := hc6n
          replace hyp := it_neg hc6n hyp
          refine am_iconst 0 (v := 0) dX12_reach_48 (by decide) ?_
          cases hyp
          exact am_iret dX12_reach_49 rfl
      · intro hc4
        have hc4 : (f_X12_in x2 (0 : Int32) (20 : Int32)) = 0 := hc4
        replace hyp := it_pos hc4 hyp
        refine am_iconst 1 (v := 1) dX12_reach_35 (by decide) ?_
        refine am_goto (4) 40 dX12_reach_36 rfl ?_
        refine am_iconst 2 (v := 2) dX12_reach_40 (by decide) ?_
        refine am_iconst 1 (v := 1) dX12_reach_41 (by decide) ?_
        obtain ⟨⟨v12, M12⟩, hk12, hyp⟩ := bd_some hyp
        try dsimp only at hyp
        refine am_callV [_, _, _] dX12_reach_42 ml_X12_179 vm_X12_bad (sh_54 g) rfl (fun _ => Nat.le_of_ble_eq_true rfl) (by omega) rfl (ef_X12_bad (d := d + 7) (h := h) g hk12) rfl ?_
        change am_At _ _ _ 45 [_, _, _, _, _] [_] _ _
        refine am_if_eq (5) 50 dX12_reach_45 rfl ?_ ?_
        · intro hc13
          have hc13 : v12 = 0 := hc13
          replace hyp := it_pos hc13 hyp
          refine am_aload_n dX12_reach_50 rfl ?_
          refine am_iload_n dX12_reach_51 rfl ?_
          refine am_iload_n dX12_reach_52 rfl ?_
          obtain ⟨M14, hk14, hyp⟩ := bd_some hyp
          try dsimp only at hyp
          refine am_callV [_, _] dX12_reach_53 ml_X12_366 vm_X12_walks (sh_54 g) rfl (fun _ => Nat.le_of_ble_eq_true rfl) (by omega) rfl (ef_X12_walks (d := d + 0) (h := h) g hk14) rfl ?_
          change am_At _ _ _ 56 [_, _, _, _, _] [] _ _
          refine am_iconst 0 (v := 0) dX12_reach_56 (by decide) ?_
          refine am_istore_n dX12_reach_57 (am_lb rfl) ?_
          change am_At _ _ _ 58 [_, _, _, _, _] [] _ _
          refine am_iconst 0 (v := 0) dX12_reach_58 (by decide) ?_
          refine am_istore dX12_reach_59 (am_lb rfl) ?_
          change am_At _ _ _ 61 [_, _, _, _, _] [] _ _
          obtain ⟨x3_15, hw15, hyp⟩ := bd_some hyp
          refine am_At.drop 1 ?_
          refine am_At.drop 2 ?_
          try dsimp only at hyp
          refine eL_X12_reach_61 (d := d) (h := h) g (M := M14) FU ((0 : Int32), (0 : Int32)) x3_15 hw15 ?_
          change am_At _ _ _ 100 [_, _, _, _, _] [] _ _
          refine am_iload_n dX12_reach_100 rfl ?_
          cases hyp
          exact am_iret dX12_reach_101 rfl
        · intro hc13n
          have hc13n : ¬ (v12 = 0) := hc13n
          replace hyp := it_neg hc13n hyp
          refine am_iconst 0 (v := 0) dX12_reach_48 (by decide) ?_
          cases hyp
          exact am_iret dX12_reach_49 rfl
  · intro hc1
    have hc1 : (f_X12_in x1 (0 : Int32) (((am_u3 M 54 0 0 (0 : Int32)) 58 0 0) - (1 : Int32))) = 0 := hc1
    replace hyp := it_pos hc1 hyp
    refine am_iconst 1 (v := 1) dX12_reach_14 (by decide) ?_
    refine am_goto (4) 19 dX12_reach_15 rfl ?_
    refine am_iconst 1 (v := 1) dX12_reach_19 (by decide) ?_
    refine am_iconst 0 (v := 0) dX12_reach_20 (by decide) ?_
    obtain ⟨⟨v16, M16⟩, hk16, hyp⟩ := bd_some hyp
    try dsimp only at hyp
    refine am_callV [_, _, _] dX12_reach_21 ml_X12_179 vm_X12_bad (sh_54 g) rfl (fun _ => Nat.le_of_ble_eq_true rfl) (by omega) rfl (ef_X12_bad (d := d + 7) (h := h) g hk16) rfl ?_
    change am_At _ _ _ 24 [_, _, _, _, _] [_] _ _
    refine am_if_ne (24) 48 dX12_reach_24 rfl ?_ ?_
    · intro hc17n
      have hc17n : ¬ (v16 = 0) := hc17n
      replace hyp := it_neg hc17n hyp
      refine am_iconst 0 (v := 0) dX12_reach_48 (by decide) ?_
      cases hyp
      exact am_iret dX12_reach_49 rfl
    · intro hc17
      have hc17 : v16 = 0 := hc17
      replace hyp := it_pos hc17 hyp
      refine am_aload_n dX12_reach_27 rfl ?_
      refine am_iload_n dX12_reach_28 rfl ?_
      refine am_callS (c := 0) (k := 0) (n := 0) (w := 0) [_] dX12_reach_29 ml_X12_363 sm_X12_isWeight rfl (fun _ => Nat.le_of_ble_eq_true rfl) (by omega) rfl (ef_X12_isWeight (d := d + 6) (h := am_hM h M16) (x0 := x2)  rfl) rfl ?_
      change am_At _ _ _ 32 [_, _, _, _, _] [_, _] _ _
      refine am_if_ne (7) 39 dX12_reach_32 rfl ?_ ?_
      · intro hc18n
        have hc18n : ¬ ((f_X12_in x2 (0 : Int32) (20 : Int32)) = 0) := hc18n
        replace hyp := it_neg hc18n hyp
        refine am_iconst 0 (v := 0) dX12_reach_39 (by decide) ?_
        refine am_iconst 2 (v := 2) dX12_reach_40 (by decide) ?_
        refine am_iconst 1 (v := 1) dX12_reach_41 (by decide) ?_
        obtain ⟨⟨v19, M19⟩, hk19, hyp⟩ := bd_some hyp
        try dsimp only at hyp
        refine am_callV [_, _, _] dX12_reach_42 ml_X12_179 vm_X12_bad (sh_54 g) rfl (fun _ => Nat.le_of_ble_eq_true rfl) (by omega) rfl (ef_X12_bad (d := d + 7) (h := h) g hk19) rfl ?_
        change am_At _ _ _ 45 [_, _, _, _, _] [_] _ _
        refine am_if_eq (5) 50 dX12_reach_45 rfl ?_ ?_
        · intro hc20
          have hc20 : v19 = 0 := hc20
          replace hyp := it_pos hc20 hyp
          refine am_aload_n dX12_reach_50 rfl ?_
          refine am_iload_n dX12_reach_51 rfl ?_
          refine am_iload_n dX12_reach_52 rfl ?_
          obtain ⟨M21, hk21, hyp⟩ := bd_some hyp
          try dsimp only at hyp
          refine am_callV [_, _] dX12_reach_53 ml_X12_366 vm_X12_walks (sh_54 g) rfl (fun _ => Nat.le_of_ble_eq_true rfl) (by omega) rfl (ef_X12_walks (d := d + 0) (h := h) g hk21) rfl ?_
          change am_At _ _ _ 56 [_, _, _, _, _] [] _ _
          refine am_iconst 0 (v := 0) dX12_reach_56 (by decide) ?_
          refine am_istore_n dX12_reach_57 (am_lb rfl) ?_
          change am_At _ _ _ 58 [_, _, _, _, _] [] _ _
          refine am_iconst 0 (v := 0) dX12_reach_58 (by decide) ?_
          refine am_istore dX12_reach_59 (am_lb rfl) ?_
          change am_At _ _ _ 61 [_, _, _, _, _] [] _ _
          obtain ⟨x3_22, hw22, hyp⟩ := bd_some hyp
          refine am_At.drop 1 ?_
          refine am_At.drop 2 ?_
          try dsimp only at hyp
          refine eL_X12_reach_61 (d := d) (h := h) g (M := M21) FU ((0 : Int32), (0 : Int32)) x3_22 hw22 ?_
          change am_At _ _ _ 100 [_, _, _, _, _] [] _ _
          refine am_iload_n dX12_reach_100 rfl ?_
          cases hyp
          exact am_iret dX12_reach_101 rfl
        · intro hc20n
          have hc20n : ¬ (v19 = 0) := hc20n
          replace hyp := it_neg hc20n hyp
          refine am_iconst 0 (v := 0) dX12_reach_48 (by decide) ?_
          cases hyp
          exact am_iret dX12_reach_49 rfl
      · intro hc18
        have hc18 : (f_X12_in x2 (0 : Int32) (20 : Int32)) = 0 := hc18
        replace hyp := it_pos hc18 hyp
        refine am_iconst 1 (v := 1) dX12_reach_35 (by decide) ?_
        refine am_goto (4) 40 dX12_reach_36 rfl ?_
        refine am_iconst 2 (v := 2) dX12_reach_40 (by decide) ?_
        refine am_iconst 1 (v := 1) dX12_reach_41 (by decide) ?_
        obtain ⟨⟨v23, M23⟩, hk23, hyp⟩ := bd_some hyp
        try dsimp only at hyp
        refine am_callV [_, _, _] dX12_reach_42 ml_X12_179 vm_X12_bad (sh_54 g) rfl (fun _ => Nat.le_of_ble_eq_true rfl) (by omega) rfl (ef_X12_bad (d := d + 7) (h := h) g hk23) rfl ?_
        change am_At _ _ _ 45 [_, _, _, _, _] [_] _ _
        refine am_if_eq (5) 50 dX12_reach_45 rfl ?_ ?_
        · intro hc24
          have hc24 : v23 = 0 := hc24
          replace hyp := it_pos hc24 hyp
          refine am_aload_n dX12_reach_50 rfl ?_
          refine am_iload_n dX12_reach_51 rfl ?_
          refine am_iload_n dX12_reach_52 rfl ?_
          obtain ⟨M25, hk25, hyp⟩ := bd_some hyp
          try dsimp only at hyp
          refine am_callV [_, _] dX12_reach_53 ml_X12_366 vm_X12_walks (sh_54 g) rfl (fun _ => Nat.le_of_ble_eq_true rfl) (by omega) rfl (ef_X12_walks (d := d + 0) (h := h) g hk25) rfl ?_
          change am_At _ _ _ 56 [_, _, _, _, _] [] _ _
          refine am_iconst 0 (v := 0) dX12_reach_56 (by decide) ?_
          refine am_istore_n dX12_reach_57 (am_lb rfl) ?_
          change am_At _ _ _ 58 [_, _, _, _, _] [] _ _
          refine am_iconst 0 (v := 0) dX12_reach_58 (by decide) ?_
          refine am_istore dX12_reach_59 (am_lb rfl) ?_
          change am_At _ _ _ 61 [_, _, _, _, _] [] _ _
          obtain ⟨x3_26, hw26, hyp⟩ := bd_some hyp
          refine am_At.drop 1 ?_
          refine am_At.drop 2 ?_
          try dsimp only at hyp
          refine eL_X12_reach_61 (d := d) (h := h) g (M := M25) FU ((0 : Int32), (0 : Int32)) x3_26 hw26 ?_
          change am_At _ _ _ 100 [_, _, _, _, _] [] _ _
          refine am_iload_n dX12_reach_100 rfl ?_
          cases hyp
          exact am_iret dX12_reach_101 rfl
        · intro hc24n
          have hc24n : ¬ (v23 = 0) := hc24n
          replace hyp := it_neg hc24n hyp
          refine am_iconst 0 (v := 0) dX12_reach_48 (by decide) ?_
          cases hyp
          exact am_iret dX12_reach_49 rfl
theorem eL_X12_soonest_56 {d : Nat} {h : am_H} (g : lay h) {x1 x2 x3 : Int32} {r : am_R} (n : Nat) : ∀ (s : Int32 × Int32 × Int32 × Mem) (e : Int32 × Int32 × Mem), wh (L_X12_soonest_56 x1 x2) n s = some e → (match e with | (x4, x5, M) => am_At am_X0 (d + 9) mX12_soonest 107 [some (.inr (54, 0)), some (am_I (x1)), some (am_I (x2)), some (am_I (x3)), some (am_I (x4)), some (am_I (x5)), none, none] [] (am_hM h M) r) → (match s with | (x4, x5, x6, M) => am_At am_X0 (d + 9) mX12_soonest 56 [some (.inr (54, 0)), some (am_I (x1)), some (am_I (x2)), some (am_I (x3)), some (am_I (x4)), some (am_I (x5)), some (am_I (x6)), none] [] (am_hM h M) r) := by
  refine am_wh (At := fun (s : Int32 × Int32 × Int32 × Mem) => match s with | (x4, x5, x6, M) => am_At am_X0 (d + 9) mX12_soonest 56 [some (.inr (54, 0)), some (am_I (x1)), some (am_I (x2)), some (am_I (x3)), some (am_I (x4)), some (am_I (x5)), some (am_I (x6)), none] [] (am_hM h M) r) (Ex := fun (e : Int32 × Int32 × Mem) => match e with | (x4, x5, M) => am_At am_X0 (d + 9) mX12_soonest 107 [some (.inr (54, 0)), some (am_I (x1)), some (am_I (x2)), some (am_I (x3)), some (am_I (x4)), some (am_I (x5)), none, none] [] (am_hM h M) r) ?_ n
  rintro ⟨x4, x5, x6, M⟩ y hyp hx
  unfold L_X12_soonest_56 at hyp
  try dsimp only at hyp
  change am_At _ _ _ 56 [_, _, _, _, _, _, _, _] [] _ _
  refine am_iload dX12_soonest_56 rfl ?_
  refine am_iload_n dX12_soonest_58 rfl ?_
  refine am_icmp_gt (48) 107 dX12_soonest_59 rfl ?_ ?_
  · intro hc4
    have hc4 : x2 < x6 := hc4
    replace hyp := it_pos hc4 hyp
    cases hyp
    refine am_At.drop 6 ?_
    exact hx
  · intro hc4n
    have hc4n : ¬ (x2 < x6) := hc4n
    replace hyp := it_neg hc4n hyp
    refine am_aload_n dX12_soonest_62 rfl ?_
    refine am_iload_n dX12_soonest_63 rfl ?_
    refine am_iload dX12_soonest_64 rfl ?_
    obtain ⟨⟨v5, M5⟩, hk5, hyp⟩ := bd_some hyp
    try dsimp only at hyp
    refine am_callV [_, _] dX12_soonest_66 ml_X12_339 vm_X12_trips (sh_54 g) rfl (fun _ => Nat.le_of_ble_eq_true rfl) (by omega) rfl (ef_X12_trips (d := d + 0) (h := h) g hk5) rfl ?_
    change am_At _ _ _ 69 [_, _, _, _, _, _, _, _] [_] _ _
    refine am_istore dX12_soonest_69 (am_lb rfl) ?_
    change am_At _ _ _ 71 [_, _, _, _, _, _, _, _] [] _ _
    refine am_iload dX12_soonest_71 rfl ?_
    refine am_iconst (-1) (v := (-1)) dX12_soonest_73 (by decide) ?_
    refine am_icmp_eq (27) 101 dX12_soonest_74 rfl ?_ ?_
    · intro hc6
      have hc6 : v5 = (-1 : Int32) := hc6
      replace hyp := it_pos hc6 hyp
      refine am_iinc dX12_soonest_101 rfl (am_ix _) ?_
      change am_At _ _ _ 104 [_, _, _, _, _, _, _, _] [] _ _
      refine am_goto (-48) 56 dX12_soonest_104 rfl ?_
      cases hyp
      refine am_At.drop 7 ?_
      exact hx
    · intro hc6n
      have hc6n : ¬ (v5 = (-1 : Int32)) := hc6n
      replace hyp := it_neg hc6n hyp
      refine am_iload dX12_soonest_77 rfl ?_
      refine am_iconst (-1) (v := (-1)) dX12_soonest_79 (by decide) ?_
      refine am_icmp_eq (13) 93 dX12_soonest_80 rfl ?_ ?_
      · intro hc7
        have hc7 : x4 = (-1 : Int32) := hc7
        replace hyp := it_pos hc7 hyp
        refine am_iload dX12_soonest_93 rfl ?_
        refine am_istore dX12_soonest_95 (am_lb rfl) ?_
        change am_At _ _ _ 97 [_, _, _, _, _, _, _, _] [] _ _
        refine am_iload dX12_soonest_97 rfl ?_
        refine am_istore dX12_soonest_99 (am_lb rfl) ?_
        change am_At _ _ _ 101 [_, _, _, _, _, _, _, _] [] _ _
        refine am_iinc dX12_soonest_101 rfl (am_ix _) ?_
        change am_At _ _ _ 104 [_, _, _, _, _, _, _, _] [] _ _
        refine am_goto (-48) 56 dX12_soonest_104 rfl ?_
        cases hyp
        refine am_At.drop 7 ?_
        exact hx
      · intro hc7n
        have hc7n : ¬ (x4 = (-1 : Int32)) := hc7n
        replace hyp := it_neg hc7n hyp
        refine am_iload dX12_soonest_83 rfl ?_
        refine am_iload dX12_soonest_85 rfl ?_
        refine am_icmp_le (6) 93 dX12_soonest_87 rfl ?_ ?_
        · intro hc8
          have hc8 : v5 ≤ x5 := hc8
          replace hyp := it_pos hc8 hyp
          refine am_iload dX12_soonest_93 rfl ?_
          refine am_istore dX12_soonest_95 (am_lb rfl) ?_
          change am_At _ _ _ 97 [_, _, _, _, _, _, _, _] [] _ _
          refine am_iload dX12_soonest_97 rfl ?_
          refine am_istore dX12_soonest_99 (am_lb rfl) ?_
          change am_At _ _ _ 101 [_, _, _, _, _, _, _, _] [] _ _
          refine am_iinc dX12_soonest_101 rfl (am_ix _) ?_
          change am_At _ _ _ 104 [_, _, _, _, _, _, _, _] [] _ _
          refine am_goto (-48) 56 dX12_soonest_104 rfl ?_
          cases hyp
          refine am_At.drop 7 ?_
          exact hx
        · intro hc8n
          have hc8n : ¬ (v5 ≤ x5) := hc8n
          replace hyp := it_neg hc8n hyp
          refine am_goto (11) 101 dX12_soonest_90 rfl ?_
          refine am_iinc dX12_soonest_101 rfl (am_ix _) ?_
          change am_At _ _ _ 104 [_, _, _, _, _, _, _, _] [] _ _
          refine am_goto (-48) 56 dX12_soonest_104 rfl ?_
          cases hyp
          refine am_At.drop 7 ?_
          exact hx
theorem ef_X12_soonest {d : Nat} {h : am_H} (g : lay h) {x1 x2 x3 : Int32} {M : Mem} {v : Int32} {M' : Mem} (hyp : f_X12_soonest x1 x2 x3 M = some (v, M')) : am_Ev (d + 9) mX12_soonest [.inr (54, 0), am_I x1, am_I x2, am_I x3] (am_hM h M) (.inl (some (am_I v), am_hM h M')) := by
  unfold f_X12_soonest at hyp
  refine am_Ev.mk (by decide +kernel) rfl rfl (Nat.le_refl _) (Nat.le_refl _) ?_
  change am_At _ _ _ 0 [_, _, _, _, _, _, _, _] [] _ _
  refine am_aload_n dX12_soonest_0 rfl ?_
  refine am_iconst 0 (v := 0) dX12_soonest_1 (by decide) ?_
  refine am_putI 12 0 dX12_soonest_2 (Or.inl fp_X12_103) (sh_54 g) (by decide) rfl rfl rfl ?_
  refine am_aload_n dX12_soonest_5 rfl ?_
  refine am_iload_n dX12_soonest_6 rfl ?_
  refine am_callS (c := 0) (k := 0) (n := 0) (w := 0) [_] dX12_soonest_7 ml_X12_336 sm_X12_isMast rfl (fun _ => Nat.le_of_ble_eq_true rfl) (by omega) rfl (ef_X12_isMast (d := d + 7) (h := am_hM h (am_u3 M 54 0 0 (0 : Int32))) (x0 := x1)  rfl) rfl ?_
  change am_At _ _ _ 10 [_, _, _, _, _, _, _, _] [_, _] _ _
  refine am_if_eq (22) 32 dX12_soonest_10 rfl ?_ ?_
  · intro hc1
    have hc1 : (f_X12_in x1 (0 : Int32) (9 : Int32)) = 0 := hc1
    replace hyp := it_pos hc1 hyp
    refine am_iconst 1 (v := 1) dX12_soonest_32 (by decide) ?_
    refine am_goto (4) 37 dX12_soonest_33 rfl ?_
    refine am_iconst 1 (v := 1) dX12_soonest_37 (by decide) ?_
    refine am_iconst 1 (v := 1) dX12_soonest_38 (by decide) ?_
    obtain ⟨⟨v2, M2⟩, hk2, hyp⟩ := bd_some hyp
    try dsimp only at hyp
    refine am_callV [_, _, _] dX12_soonest_39 ml_X12_179 vm_X12_bad (sh_54 g) rfl (fun _ => Nat.le_of_ble_eq_true rfl) (by omega) rfl (ef_X12_bad (d := d + 8) (h := h) g hk2) rfl ?_
    change am_At _ _ _ 42 [_, _, _, _, _, _, _, _] [_] _ _
    refine am_if_eq (5) 47 dX12_soonest_42 rfl ?_ ?_
    · intro hc3
      have hc3 : v2 = 0 := hc3
      replace hyp := it_pos hc3 hyp
      refine am_iconst (-1) (v := (-1)) dX12_soonest_47 (by decide) ?_
      refine am_istore dX12_soonest_48 (am_lb rfl) ?_
      change am_At _ _ _ 50 [_, _, _, _, _, _, _, _] [] _ _
      refine am_iconst (-1) (v := (-1)) dX12_soonest_50 (by decide) ?_
      refine am_istore dX12_soonest_51 (am_lb rfl) ?_
      change am_At _ _ _ 53 [_, _, _, _, _, _, _, _] [] _ _
      refine am_iconst 0 (v := 0) dX12_soonest_53 (by decide) ?_
      refine am_istore dX12_soonest_54 (am_lb rfl) ?_
      change am_At _ _ _ 56 [_, _, _, _, _, _, _, _] [] _ _
      obtain ⟨⟨x4_9, x5_9, M9⟩, hw9, hyp⟩ := bd_some hyp
      try dsimp only at hyp
      refine eL_X12_soonest_56 (d := d) (h := h) g  FU ((-1 : Int32), (-1 : Int32), (0 : Int32), M2) (x4_9, x5_9, M9) hw9 ?_
      change am_At _ _ _ 107 [_, _, _, _, _, _, _, _] [] _ _
      refine am_iload_n dX12_soonest_107 rfl ?_
      refine am_if_ne (8) 116 dX12_soonest_108 rfl ?_ ?_
      · intro hc10n
        have hc10n : ¬ (x3 = 0) := hc10n
        replace hyp := it_neg hc10n hyp
        refine am_iload dX12_soonest_116 rfl ?_
        cases hyp
        exact am_iret dX12_soonest_118 rfl
      · intro hc10
        have hc10 : x3 = 0 := hc10
        replace hyp := it_pos hc10 hyp
        refine am_iload dX12_soonest_111 rfl ?_
        refine am_goto (5) 118 dX12_soonest_113 rfl ?_
        cases hyp
        exact am_iret dX12_soonest_118 rfl
    · intro hc3n
      have hc3n : ¬ (v2 = 0) := hc3n
      replace hyp := it_neg hc3n hyp
      refine am_iconst 0 (v := 0) dX12_soonest_45 (by decide) ?_
      cases hyp
      exact am_iret dX12_soonest_46 rfl
  · intro hc1n
    have hc1n : ¬ ((f_X12_in x1 (0 : Int32) (9 : Int32)) = 0) := hc1n
    replace hyp := it_neg hc1n hyp
    refine am_iload_n dX12_soonest_13 rfl ?_
    refine am_iconst 0 (v := 0) dX12_soonest_14 (by decide) ?_
    refine am_bipush 48 (v := 48) dX12_soonest_15 (by decide) ?_
    refine am_callS (c := 0) (k := 0) (n := 0) (w := 0) [_, _, _] dX12_soonest_17 ml_X12_137 sm_X12_in rfl (fun _ => Nat.le_of_ble_eq_true rfl) (by omega) rfl (ef_X12_in (d := d + 8) (h := am_hM h (am_u3 M 54 0 0 (0 : Int32))) (x0 := x2) (x1 := (0 : Int32)) (x2 := (48 : Int32))  rfl) rfl ?_
    change am_At _ _ _ 20 [_, _, _, _, _, _, _, _] [_, _] _ _
    refine am_if_eq (12) 32 dX12_soonest_20 rfl ?_ ?_
    · intro hc11
      have hc11 : (f_X12_in x2 (0 : Int32) (48 : Int32)) = 0 := hc11
      replace hyp := it_pos hc11 hyp
      refine am_iconst 1 (v := 1) dX12_soonest_32 (by decide) ?_
      refine am_goto (4) 37 dX12_soonest_33 rfl ?_
      refine am_iconst 1 (v := 1) dX12_soonest_37 (by decide) ?_
      refine am_iconst 1 (v := 1) dX12_soonest_38 (by decide) ?_
      obtain ⟨⟨v12, M12⟩, hk12, hyp⟩ := bd_some hyp
      try dsimp only at hyp
      refine am_callV [_, _, _] dX12_soonest_39 ml_X12_179 vm_X12_bad (sh_54 g) rfl (fun _ => Nat.le_of_ble_eq_true rfl) (by omega) rfl (ef_X12_bad (d := d + 8) (h := h) g hk12) rfl ?_
      change am_At _ _ _ 42 [_, _, _, _, _, _, _, _] [_] _ _
      refine am_if_eq (5) 47 dX12_soonest_42 rfl ?_ ?_
      · intro hc13
        have hc13 : v12 = 0 := hc13
        replace hyp := it_pos hc13 hyp
        refine am_iconst (-1) (v := (-1)) dX12_soonest_47 (by decide) ?_
        refine am_istore dX12_soonest_48 (am_lb rfl) ?_
        change am_At _ _ _ 50 [_, _, _, _, _, _, _, _] [] _ _
        refine am_iconst (-1) (v := (-1)) dX12_soonest_50 (by decide) ?_
        refine am_istore dX12_soonest_51 (am_lb rfl) ?_
        change am_At _ _ _ 53 [_, _, _, _, _, _, _, _] [] _ _
        refine am_iconst 0 (v := 0) dX12_soonest_53 (by decide) ?_
        refine am_istore dX12_soonest_54 (am_lb rfl) ?_
        change am_At _ _ _ 56 [_, _, _, _, _, _, _, _] [] _ _
        obtain ⟨⟨x4_14, x5_14, M14⟩, hw14, hyp⟩ := bd_some hyp
        try dsimp only at hyp
        refine eL_X12_soonest_56 (d := d) (h := h) g  FU ((-1 : Int32), (-1 : Int32), (0 : Int32), M12) (x4_14, x5_14, M14) hw14 ?_
        change am_At _ _ _ 107 [_, _, _, _, _, _, _, _] [] _ _
        refine am_iload_n dX12_soonest_107 rfl ?_
        refine am_if_ne (8) 116 dX12_soonest_108 rfl ?_ ?_
        · intro hc15n
          have hc15n : ¬ (x3 = 0) := hc15n
          replace hyp := it_neg hc15n hyp
          refine am_iload dX12_soonest_116 rfl ?_
          cases hyp
          exact am_iret dX12_soonest_118 rfl
        · intro hc15
          have hc15 : x3 = 0 := hc15
          replace hyp := it_pos hc15 hyp
          refine am_iload dX12_soonest_111 rfl ?_
          refine am_goto (5) 118 dX12_soonest_113 rfl ?_
          cases hyp
          exact am_iret dX12_soonest_118 rfl
      · intro hc13n
        have hc13n : ¬ (v12 = 0) := hc13n
        replace hyp := it_neg hc13n hyp
        refine am_iconst 0 (v := 0) dX12_soonest_45 (by decide) ?_
        cases hyp
        exact am_iret dX12_soonest_46 rfl
    · intro hc11n
      have hc11n : ¬ ((f_X12_in x2 (0 : Int32) (48 : Int32)) = 0) := hc11n
      replace hyp := it_neg hc11n hyp
      refine am_iload_n dX12_soonest_23 rfl ?_
      refine am_iconst 0 (v := 0) dX12_soonest_24 (by decide) ?_
      refine am_iconst 1 (v := 1) dX12_soonest_25 (by decide) ?_
      refine am_callS (c := 0) (k := 0) (n := 0) (w := 0) [_, _, _] dX12_soonest_26 ml_X12_137 sm_X12_in rfl (fun _ => Nat.le_of_ble_eq_true rfl) (by omega) rfl (ef_X12_in (d := d + 8) (h := am_hM h (am_u3 M 54 0 0 (0 : Int32))) (x0 := x3) (x1 := (0 : Int32)) (x2 := (1 : Int32))  rfl) rfl ?_
      change am_At _ _ _ 29 [_, _, _, _, _, _, _, _] [_, _] _ _
      refine am_if_ne (7) 36 dX12_soonest_29 rfl ?_ ?_
      · intro hc16n
        have hc16n : ¬ ((f_X12_in x3 (0 : Int32) (1 : Int32)) = 0) := hc16n
        replace hyp := it_neg hc16n hyp
        refine am_iconst 0 (v := 0) dX12_soonest_36 (by decide) ?_
        refine am_iconst 1 (v := 1) dX12_soonest_37 (by decide) ?_
        refine am_iconst 1 (v := 1) dX12_soonest_38 (by decide) ?_
        obtain ⟨⟨v17, M17⟩, hk17, hyp⟩ := bd_some hyp
        try dsimp only at hyp
        refine am_callV [_, _, _] dX12_soonest_39 ml_X12_179 vm_X12_bad (sh_54 g) rfl (fun _ => Nat.le_of_ble_eq_true rfl) (by omega) rfl (ef_X12_bad (d := d + 8) (h := h) g hk17) rfl ?_
        change am_At _ _ _ 42 [_, _, _, _, _, _, _, _] [_] _ _
        refine am_if_eq (5) 47 dX12_soonest_42 rfl ?_ ?_
        · intro hc18
          have hc18 : v17 = 0 := hc18
          replace hyp := it_pos hc18 hyp
          refine am_iconst (-1) (v := (-1)) dX12_soonest_47 (by decide) ?_
          refine am_istore dX12_soonest_48 (am_lb rfl) ?_
          change am_At _ _ _ 50 [_, _, _, _, _, _, _, _] [] _ _
          refine am_iconst (-1) (v := (-1)) dX12_soonest_50 (by decide) ?_
          refine am_istore dX12_soonest_51 (am_lb rfl) ?_
          change am_At _ _ _ 53 [_, _, _, _, _, _, _, _] [] _ _
          refine am_iconst 0 (v := 0) dX12_soonest_53 (by decide) ?_
          refine am_istore dX12_soonest_54 (am_lb rfl) ?_
          change am_At _ _ _ 56 [_, _, _, _, _, _, _, _] [] _ _
          obtain ⟨⟨x4_19, x5_19, M19⟩, hw19, hyp⟩ := bd_some hyp
          try dsimp only at hyp
          refine eL_X12_soonest_56 (d := d) (h := h) g  FU ((-1 : Int32), (-1 : Int32), (0 : Int32), M17) (x4_19, x5_19, M19) hw19 ?_
          change am_At _ _ _ 107 [_, _, _, _, _, _, _, _] [] _ _
          refine am_iload_n dX12_soonest_107 rfl ?_
          refine am_if_ne (8) 116 dX12_soonest_108 rfl ?_ ?_
          · intro hc20n
            have hc20n : ¬ (x3 = 0) := hc20n
            replace hyp := it_neg hc20n hyp
            refine am_iload dX12_soonest_116 rfl ?_
            cases hyp
            exact am_iret dX12_soonest_118 rfl
          · intro hc20
            have hc20 : x3 = 0 := hc20
            replace hyp := it_pos hc20 hyp
            refine am_iload dX12_soonest_111 rfl ?_
            refine am_goto (5) 118 dX12_soonest_113 rfl ?_
            cases hyp
            exact am_iret dX12_soonest_118 rfl
        · intro hc18n
          have hc18n : ¬ (v17 = 0) := hc18n
          replace hyp := it_neg hc18n hyp
          refine am_iconst 0 (v := 0) dX12_soonest_45 (by decide) ?_
          cases hyp
          exact am_iret dX12_soonest_46 rfl
      · intro hc16
        have hc16 : (f_X12_in x3 (0 : Int32) (1 : Int32)) = 0 := hc16
        replace hyp := it_pos hc16 hyp
        refine am_iconst 1 (v := 1) dX12_soonest_32 (by decide) ?_
        refine am_goto (4) 37 dX12_soonest_33 rfl ?_
        refine am_iconst 1 (v := 1) dX12_soonest_37 (by decide) ?_
        refine am_iconst 1 (v := 1) dX12_soonest_38 (by decide) ?_
        obtain ⟨⟨v21, M21⟩, hk21, hyp⟩ := bd_some hyp
        try dsimp only at hyp
        refine am_callV [_, _, _] dX12_soonest_39 ml_X12_179 vm_X12_bad (sh_54 g) rfl (fun _ => Nat.le_of_ble_eq_true rfl) (by omega) rfl (ef_X12_bad (d := d + 8) (h := h) g hk21) rfl ?_
        change am_At _ _ _ 42 [_, _, _, _, _, _, _, _] [_] _ _
        refine am_if_eq (5) 47 dX12_soonest_42 rfl ?_ ?_
        · intro hc22
          have hc22 : v21 = 0 := hc22
          replace hyp := it_pos hc22 hyp
          refine am_iconst (-1) (v := (-1)) dX12_soonest_47 (by decide) ?_
          refine am_istore dX12_soonest_48 (am_lb rfl) ?_
          change am_At _ _ _ 50 [_, _, _, _, _, _, _, _] [] _ _
          refine am_iconst (-1) (v := (-1)) dX12_soonest_50 (by decide) ?_
          refine am_istore dX12_soonest_51 (am_lb rfl) ?_
          change am_At _ _ _ 53 [_, _, _, _, _, _, _, _] [] _ _
          refine am_iconst 0 (v := 0) dX12_soonest_53 (by decide) ?_
          refine am_istore dX12_soonest_54 (am_lb rfl) ?_
          change am_At _ _ _ 56 [_, _, _, _, _, _, _, _] [] _ _
          obtain ⟨⟨x4_23, x5_23, M23⟩, hw23, hyp⟩ := bd_some hyp
          try dsimp only at hyp
          refine eL_X12_soonest_56 (d := d) (h := h) g  FU ((-1 : Int32), (-1 : Int32), (0 : Int32), M21) (x4_23, x5_23, M23) hw23 ?_
          change am_At _ _ _ 107 [_, _, _, _, _, _, _, _] [] _ _
          refine am_iload_n dX12_soonest_107 rfl ?_
          refine am_if_ne (8) 116 dX12_soonest_108 rfl ?_ ?_
          · intro hc24n
            have hc24n : ¬ (x3 = 0) := hc24n
            replace hyp := it_neg hc24n hyp
            refine am_iload dX12_soonest_116 rfl ?_
            cases hyp
            exact am_iret dX12_soonest_118 rfl
          · intro hc24
            have hc24 : x3 = 0 := hc24
            replace hyp := it_pos hc24 hyp
            refine am_iload dX12_soonest_111 rfl ?_
            refine am_goto (5) 118 dX12_soonest_113 rfl ?_
            cases hyp
            exact am_iret dX12_soonest_118 rfl
        · intro hc22n
          have hc22n : ¬ (v21 = 0) := hc22n
          replace hyp := it_neg hc22n hyp
          refine am_iconst 0 (v := 0) dX12_soonest_45 (by decide) ?_
          cases hyp
          exact am_iret dX12_soonest_46 rfl
