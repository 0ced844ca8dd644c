/-! a TRIP as mathematics: how far, the KNOCKS, when THROUGH -/
def sailR (n V : Nat) (lt : Nat → Nat → Bool) : Nat → Nat → Nat → Int32 → (Nat → Int32) → Int32 × Int32 × (Nat → Int32)
  | 0, _, _, cn, K => (-1, cn, K)
  | m + 1, t, p, cn, K =>
    if ponE (lt t) n V p < n ∧ ponE (lt t) n V p < p + V then sailR n V lt m (t + 1) (ponE (lt t) n V p) (cn + 1) (upd K (ponE (lt t) n V p) (K (ponE (lt t) n V p) + 1))
    else if ponE (lt t) n V p = n then (nI t, cn, K) else sailR n V lt m (t + 1) (ponE (lt t) n V p) cn K
/-- the place of the greatest, the first of alike ones; none above 0: none -/
def topK (K : Nat → Int32) (o : Option Nat) : Int32 := match o with
  | none => 0
  | some i => K i
def mostK (K : Nat → Int32) : Nat → Option Nat
  | 0 => none
  | b + 1 => if topK K (mostK K b) < K b then some b else mostK K b
def optI (o : Option Nat) : Int32 := match o with
  | none => -1
  | some i => nI i
theorem mostK_lt (K : Nat → Int32) : ∀ n i, mostK K n = some i → i < n
  | 0, i, h => by cases h
  | n + 1, i, h => by
    unfold mostK at h
    split at h
    · cases h; omega
    · have := mostK_lt K n i h; omega
theorem optI_none {o : Option Nat} (hb : ∀ i, o = some i → i < 2 ^ 31) : optI o = -1 ↔ o = none := by
  cases o with
  | none => simp [optI]
  | some i =>
    have := hb i rfl
    constructor
    · intro e
      have e1 : (nI i).toInt = (-1 : Int32).toInt := congrArg Int32.toInt e
      rw [nI_toInt this] at e1
      have : (-1 : Int32).toInt = -1 := by decide
      omega
    · intro e; cases e
/-- a SEED drawn on k times -/
def seedN (s : Int32) : Nat → Int32
  | 0 => s
  | k + 1 => seedN s k * 1103515245 + 12345
def drawn (s : Int32) : Int32 := ((s.toUInt32 >>> ((16 : Int32).toUInt32 &&& Int32.toUInt32 31)).toInt32 &&& 32767) - ((s.toUInt32 >>> ((16 : Int32).toUInt32 &&& Int32.toUInt32 31)).toInt32 &&& 32767) / 16 * 16
def frz (s q : Int32) : Nat → Int32 := bitsN (fun b => decide (drawn (seedN s (b + 1)) < q))
theorem ev_sail {d : Nat} {h : am_H} (g : lay h) {q len : Nat} {dp : Nat → Nat} (hq : h.2.2 23 0 = some q) {M : Nat → Nat → Nat → Int32} (w : LW M q len dp) {n : Nat} (hn : M 3 0 0 = nI n) (hn16 : n ≤ 16) {r : Nat → Nat → Int32} {V : Nat} (hV : M 3 0 12 = nI V) (hV4 : V ≤ 4) (hV1 : 1 ≤ V) (cv : CV M q len dp n r) {ms : Int32} {t0 : Nat} (ht : t0 ≤ 240) : ∃ r', CV M q len dp n r' ∧ r' 38 7 = (sailR n V (fun t => letB M ms (openA M q len dp n t)) (240 - t0) t0 0 0 (fun j => if j < 16 then 0 else r 42 j)).1 ∧ r' 38 8 = (sailR n V (fun t => letB M ms (openA M q len dp n t)) (240 - t0) t0 0 0 (fun j => if j < 16 then 0 else r 42 j)).2.1 ∧ (∀ j, r' 42 j = (sailR n V (fun t => letB M ms (openA M q len dp n t)) (240 - t0) t0 0 0 (fun j => if j < 16 then 0 else r 42 j)).2.2 j) ∧ am_Ev (d + 5) mX6_sail [.inr (38, 0), am_I ms, am_I (nI t0)] (am_hM h (ol M r)) (.inl (none, am_hM h (ol M r'))) := by
  have done : ∀ r t p, t ≤ 240 → ¬ r 38 7 = -1 → am_At am_X0 (d + 5) mX6_sail 23 [some (.inr (38, 0)), some (am_I ms), some (am_I (nI t0)), some (am_I (nI p)), some (am_I (nI t)), none] [] (am_hM h (ol M r)) (.inl (none, am_hM h (ol M r))) := by
    intro r t p ht hne
    by_cases c : t < 240
    · refine am_iload dX6_sail_23 rfl ?_
      refine am_sipush 240 (v := 240) dX6_sail_25 (by decide) ?_
      refine am_icmp_geF (89) 117 dX6_sail_28 rfl (nI_ge (b := 240) c (by omega)) ?_
      refine am_aload_n dX6_sail_31 rfl ?_
      refine am_getI 6 7 dX6_sail_32 fg_X6_57 (sh_38 g) (by decide) rfl ?_
      refine am_iconst (-1) (v := (-1)) dX6_sail_35 (by decide) ?_
      refine am_icmp_neT (81) 117 dX6_sail_36 rfl hne ?_
      exact am_vret dX6_sail_117 rfl
    · refine am_iload dX6_sail_23 rfl ?_
      refine am_sipush 240 (v := 240) dX6_sail_25 (by decide) ?_
      refine am_icmp_geT (89) 117 dX6_sail_28 rfl (nI_le (a := 240) (by omega) (by omega)) ?_
      exact am_vret dX6_sail_117 rfl
  have key : ∀ m t p r, t + m = 240 → p ≤ n → CV M q len dp n r → r 38 7 = -1 → ∃ r', CV M q len dp n r' ∧ r' 38 7 = (sailR n V (fun t => letB M ms (openA M q len dp n t)) (m) (t) (p) (r 38 8) (r 42)).1 ∧ r' 38 8 = (sailR n V (fun t => letB M ms (openA M q len dp n t)) (m) (t) (p) (r 38 8) (r 42)).2.1 ∧ (∀ j, r' 42 j = (sailR n V (fun t => letB M ms (openA M q len dp n t)) (m) (t) (p) (r 38 8) (r 42)).2.2 j) ∧ am_At am_X0 (d + 5) mX6_sail 23 [some (.inr (38, 0)), some (am_I ms), some (am_I (nI t0)), some (am_I (nI p)), some (am_I (nI t)), none] [] (am_hM h (ol M r)) (.inl (none, am_hM h (ol M r'))) := by
    intro m
    induction m with
    | zero =>
      intro t p r e1 e2 e3 e4
      refine ⟨r, e3, e4, rfl, fun _ => rfl, ?_⟩
      refine am_iload dX6_sail_23 rfl ?_
      refine am_sipush 240 (v := 240) dX6_sail_25 (by decide) ?_
      refine am_icmp_geT (89) 117 dX6_sail_28 rfl (nI_le (a := 240) (by omega) (by omega)) ?_
      exact am_vret dX6_sail_117 rfl
    | succ m ih =>
      intro t p r e1 e2 e3 e4
      obtain ⟨r1, k1, k2, E⟩ := ev_openIn (d := d) g hq w hn hn16 e3 (t := t) (by omega)
      have a7 : r1 38 7 = -1 := (k1.2 7 (by omega)).trans e4
      have a8 : r1 38 8 = r 38 8 := k1.2 8 (by omega)
      have a42 : r1 42 = r 42 := k1.1 42 (by omega) (by omega) (by omega) (by omega)
      have hon : ponE (letB M ms (openA M q len dp n t)) n V p ≤ n := ponE_le _ e2
      have hge : p ≤ ponE (letB M ms (openA M q len dp n t)) n V p := ponE_ge _
      have hlv : ponE (letB M ms (openA M q len dp n t)) n V p ≤ p + V := ponE_leV _
      unfold sailR
      generalize ho : ponE (letB M ms (openA M q len dp n t)) n V p = o at hon hge hlv ⊢
      by_cases hkn : o < n ∧ o < p + V
      · obtain ⟨r', b1, b2, b3, b4, b5⟩ := ih (t + 1) o (u2 (u2 r1 38 8 (r1 38 8 + 1)) 42 o (r1 42 o + 1)) (by omega) hon (by
          obtain ⟨κ, c1, c2, c3⟩ := k2
          exact ⟨κ, c1, by simpa [u2] using c2, fun j hj => by simpa [u2] using c3 j hj⟩) (by simpa [u2] using a7)
        have q1 : u2 (u2 r1 38 8 (r1 38 8 + 1)) 42 o (r1 42 o + 1) 38 8 = r 38 8 + 1 := by simp [u2, a8]
        have q2 : u2 (u2 r1 38 8 (r1 38 8 + 1)) 42 o (r1 42 o + 1) 42 = upd (r 42) o (r 42 o + 1) := by
          funext j
          by_cases ej : j = o <;> simp [u2, upd, ej, a42]
        rw [q1, q2] at b2 b3 b4
        rw [if_pos hkn]
        refine ⟨r', b1, b2, b3, b4, ?_⟩
        refine am_iload dX6_sail_23 rfl ?_
        refine am_sipush 240 (v := 240) dX6_sail_25 (by decide) ?_
        refine am_icmp_geF (89) 117 dX6_sail_28 rfl (nI_ge (b := 240) (by omega) (by omega)) ?_
        refine am_aload_n dX6_sail_31 rfl ?_
        refine am_getI 6 7 dX6_sail_32 fg_X6_57 (sh_38 g) (by decide) rfl ?_
        refine am_iconst (-1) (v := (-1)) dX6_sail_35 (by decide) ?_
        refine am_icmp_neF (81) 117 dX6_sail_36 rfl e4 ?_
        refine am_aload_n dX6_sail_39 rfl ?_
        refine am_getR 6 1 28 dX6_sail_40 fg_X6_29 (sh_38 g) (by decide) rfl (rf_38_1 g) ?_
        refine am_iload_n dX6_sail_43 rfl ?_
        refine am_iload_n dX6_sail_44 rfl ?_
        refine am_aload_n dX6_sail_45 rfl ?_
        refine am_iload dX6_sail_46 rfl ?_
        refine am_callV [_] dX6_sail_48 ml_X6_69 vm_X6_openIn (sh_38 g) rfl (fun _ => Nat.le_of_ble_eq_true rfl) (by omega) rfl (E) rfl ?_
        change am_At _ _ _ 51 [_, _, _, _, _, _] [_, _, _, _] _ _
        refine am_callV [_, _, _] dX6_sail_51 ml_X6_72 vm_X4_passedOn (sh_28 g) rfl (fun _ => Nat.le_of_ble_eq_true rfl) (by omega) rfl (ev_passedOn (d := d + 2) (h := am_hM h (ol M r1)) (n := n) (V := V) (p := p) (ms := ms) (op := openA M q len dp n t) g hn hn16 hV hV4 e2) rfl ?_
        change am_At _ _ _ 54 [_, _, _, _, _, _] [_] _ _
        change am_At _ _ _ _ _ [am_I (nI (ponE (letB M ms (openA M q len dp n t)) n V p))] _ _
        rw [ho]
        refine am_istore dX6_sail_54 (am_lb rfl) ?_
        change am_At _ _ _ 56 [_, _, _, _, _, _] [] _ _
        refine am_aload_n dX6_sail_56 rfl ?_
        refine am_getR 6 1 28 dX6_sail_57 fg_X6_29 (sh_38 g) (by decide) rfl (rf_38_1 g) ?_
        refine am_iload_n dX6_sail_60 rfl ?_
        refine am_iload dX6_sail_61 rfl ?_
        refine am_callV [_, _] dX6_sail_63 ml_X6_76 vm_X4_hasKnocked (sh_28 g) rfl (fun _ => Nat.le_of_ble_eq_true rfl) (by omega) rfl (ev_X4_hasKnocked (d := d + 4) (h := am_hM h (ol M r1)) (a0 := nI p) (a1 := nI o) g) rfl ?_
        change am_At _ _ _ 66 [_, _, _, _, _, _] [_] _ _
        change am_At _ _ _ _ _ [am_I (if M 3 0 0 ≤ nI o then (0 : Int32) else (if M 3 0 12 ≤ nI o - nI p then (0 : Int32) else (1 : Int32)))] _ _
        have ek : (if M 3 0 0 ≤ nI o then (0 : Int32) else (if M 3 0 12 ≤ nI o - nI p then (0 : Int32) else (1 : Int32))) = if o < n ∧ o < p + V then 1 else 0 := by
          rw [hn, hV, pk_sub hge]
          by_cases c1 : n ≤ o
          · rw [if_pos (nI_le c1 (by omega)), if_neg (by omega)]
          · rw [if_neg (nI_ge (by omega) (by omega))]
            by_cases c2 : V ≤ o - p
            · rw [if_pos (nI_le c2 (by omega)), if_neg (by omega)]
            · rw [if_neg (nI_ge (by omega) (by omega)), if_pos (by omega)]
        rw [ek]
        rw [if_pos hkn]
        refine am_if_eqF (24) 90 dX6_sail_66 rfl (by decide) ?_
        refine am_aload_n dX6_sail_69 rfl ?_
        refine am_dup dX6_sail_70 (fun _ => rfl) ?_
        refine am_getI 6 8 dX6_sail_71 fg_X6_60 (sh_38 g) (by decide) rfl ?_
        refine am_iconst 1 (v := 1) dX6_sail_74 (by decide) ?_
        refine am_iadd dX6_sail_75 ?_
        refine am_putI 6 8 dX6_sail_76 (Or.inl fp_X6_60) (sh_38 g) (by decide) rfl rfl rfl ?_
        refine am_aload_n dX6_sail_79 rfl ?_
        refine am_getR 6 6 42 dX6_sail_80 fg_X6_22 (sh_38 g) (by decide) rfl (rf_38_6 g) ?_
        refine am_iload dX6_sail_83 rfl ?_
        refine am_dup2 dX6_sail_85 (fun _ => rfl) (fun _ => rfl) ?_
        refine am_iald dX6_sail_86 (am_ia.one (sh_42 g)) (vp_in_nI (by omega) (by omega)) ?_
        refine am_iconst 1 (v := 1) dX6_sail_87 (by decide) ?_
        refine am_iadd dX6_sail_88 ?_
        refine am_iast dX6_sail_89 (am_ia.one (sh_42 g)) (vp_in_nI (by omega) (by omega)) ?_
        refine am_iload dX6_sail_90 rfl ?_
        refine am_aload_n dX6_sail_92 rfl ?_
        refine am_getR 6 0 3 dX6_sail_93 fg_X6_25 (sh_38 g) (by decide) rfl (rf_38_0 g) ?_
        refine am_getI 1 0 dX6_sail_96 fg_X6_80 (sh_3 g) (by decide) rfl ?_
        change am_At _ _ _ 99 _ [am_I (M 3 0 0), am_I (nI o)] _ _
        refine am_icmp_neT (9) 108 dX6_sail_99 rfl (by rw [hn]; exact fun z => absurd ((nI_eq (by omega) (by omega)).mp z) (by omega)) ?_
        refine am_iload dX6_sail_108 rfl ?_
        refine am_istore_n dX6_sail_110 (am_lb rfl) ?_
        change am_At _ _ _ 111 [_, _, _, _, _, _] [] _ _
        refine am_iinc dX6_sail_111 rfl (am_i1 t) ?_
        change am_At _ _ _ 114 [_, _, _, _, _, _] [] _ _
        refine am_goto (-91) 23 dX6_sail_114 rfl ?_
        refine am_At.drop 5 ?_
        change am_At _ _ _ 23 [_, _, _, _, _, none] [] _ _
        refine am_At.to ?_ b5
        show am_um (am_um _ _ _ _ _) _ _ _ _ = _
        unfold am_um
        show (h.1, am_u3 (am_u3 (ol M r1) 38 0 8 (r1 38 8 + 1)) 42 0 (nI o).toNatClampNeg (am_u3 (ol M r1) 38 0 8 (r1 38 8 + 1) 42 0 (nI o).toNatClampNeg + 1), h.2.2) = _
        rw [nI_clamp (by omega), ol_u (by decide), ol_u (by decide)]
        rfl
      · rw [if_neg hkn]
        by_cases hth : o = n
        · rw [if_pos hth]
          refine ⟨u2 r1 38 7 (nI t), ?_, by simp [u2], by simp [u2, a8], fun j => by simp [u2, a42], ?_⟩
          · obtain ⟨κ, c1, c2, c3⟩ := k2
            exact ⟨κ, c1, by simpa [u2] using c2, fun j hj => by simpa [u2] using c3 j hj⟩
          · refine am_iload dX6_sail_23 rfl ?_
            refine am_sipush 240 (v := 240) dX6_sail_25 (by decide) ?_
            refine am_icmp_geF (89) 117 dX6_sail_28 rfl (nI_ge (b := 240) (by omega) (by omega)) ?_
            refine am_aload_n dX6_sail_31 rfl ?_
            refine am_getI 6 7 dX6_sail_32 fg_X6_57 (sh_38 g) (by decide) rfl ?_
            refine am_iconst (-1) (v := (-1)) dX6_sail_35 (by decide) ?_
            refine am_icmp_neF (81) 117 dX6_sail_36 rfl e4 ?_
            refine am_aload_n dX6_sail_39 rfl ?_
            refine am_getR 6 1 28 dX6_sail_40 fg_X6_29 (sh_38 g) (by decide) rfl (rf_38_1 g) ?_
            refine am_iload_n dX6_sail_43 rfl ?_
            refine am_iload_n dX6_sail_44 rfl ?_
            refine am_aload_n dX6_sail_45 rfl ?_
            refine am_iload dX6_sail_46 rfl ?_
            refine am_callV [_] dX6_sail_48 ml_X6_69 vm_X6_openIn (sh_38 g) rfl (fun _ => Nat.le_of_ble_eq_true rfl) (by omega) rfl (E) rfl ?_
            change am_At _ _ _ 51 [_, _, _, _, _, _] [_, _, _, _] _ _
            refine am_callV [_, _, _] dX6_sail_51 ml_X6_72 vm_X4_passedOn (sh_28 g) rfl (fun _ => Nat.le_of_ble_eq_true rfl) (by omega) rfl (ev_passedOn (d := d + 2) (h := am_hM h (ol M r1)) (n := n) (V := V) (p := p) (ms := ms) (op := openA M q len dp n t) g hn hn16 hV hV4 e2) rfl ?_
            change am_At _ _ _ 54 [_, _, _, _, _, _] [_] _ _
            change am_At _ _ _ _ _ [am_I (nI (ponE (letB M ms (openA M q len dp n t)) n V p))] _ _
            rw [ho]
            refine am_istore dX6_sail_54 (am_lb rfl) ?_
            change am_At _ _ _ 56 [_, _, _, _, _, _] [] _ _
            refine am_aload_n dX6_sail_56 rfl ?_
            refine am_getR 6 1 28 dX6_sail_57 fg_X6_29 (sh_38 g) (by decide) rfl (rf_38_1 g) ?_
            refine am_iload_n dX6_sail_60 rfl ?_
            refine am_iload dX6_sail_61 rfl ?_
            refine am_callV [_, _] dX6_sail_63 ml_X6_76 vm_X4_hasKnocked (sh_28 g) rfl (fun _ => Nat.le_of_ble_eq_true rfl) (by omega) rfl (ev_X4_hasKnocked (d := d + 4) (h := am_hM h (ol M r1)) (a0 := nI p) (a1 := nI o) g) rfl ?_
            change am_At _ _ _ 66 [_, _, _, _, _, _] [_] _ _
            change am_At _ _ _ _ _ [am_I (if M 3 0 0 ≤ nI o then (0 : Int32) else (if M 3 0 12 ≤ nI o - nI p then (0 : Int32) else (1 : Int32)))] _ _
            have ek : (if M 3 0 0 ≤ nI o then (0 : Int32) else (if M 3 0 12 ≤ nI o - nI p then (0 : Int32) else (1 : Int32))) = if o < n ∧ o < p + V then 1 else 0 := by
              rw [hn, hV, pk_sub hge]
              by_cases c1 : n ≤ o
              · rw [if_pos (nI_le c1 (by omega)), if_neg (by omega)]
              · rw [if_neg (nI_ge (by omega) (by omega))]
                by_cases c2 : V ≤ o - p
                · rw [if_pos (nI_le c2 (by omega)), if_neg (by omega)]
                · rw [if_neg (nI_ge (by omega) (by omega)), if_pos (by omega)]
            rw [ek]
            rw [if_neg hkn]
            refine am_if_eqT (24) 90 dX6_sail_66 rfl rfl ?_
            refine am_iload dX6_sail_90 rfl ?_
            refine am_aload_n dX6_sail_92 rfl ?_
            refine am_getR 6 0 3 dX6_sail_93 fg_X6_25 (sh_38 g) (by decide) rfl (rf_38_0 g) ?_
            refine am_getI 1 0 dX6_sail_96 fg_X6_80 (sh_3 g) (by decide) rfl ?_
            change am_At _ _ _ 99 _ [am_I (M 3 0 0), am_I (nI o)] _ _
            refine am_icmp_neF (9) 108 dX6_sail_99 rfl (by rw [hn, hth]) ?_
            refine am_aload_n dX6_sail_102 rfl ?_
            refine am_iload dX6_sail_103 rfl ?_
            refine am_putI 6 7 dX6_sail_105 (Or.inl fp_X6_57) (sh_38 g) (by decide) rfl rfl rfl ?_
            refine am_iload dX6_sail_108 rfl ?_
            refine am_istore_n dX6_sail_110 (am_lb rfl) ?_
            change am_At _ _ _ 111 [_, _, _, _, _, _] [] _ _
            refine am_iinc dX6_sail_111 rfl (am_i1 t) ?_
            change am_At _ _ _ 114 [_, _, _, _, _, _] [] _ _
            refine am_goto (-91) 23 dX6_sail_114 rfl ?_
            refine am_At.drop 5 ?_
            change am_At _ _ _ 23 [_, _, _, _, _, none] [] _ _
            refine am_At.to ?_ (done (u2 r1 38 7 (nI t)) (t + 1) o (by omega) ?_)
            · show am_um _ _ _ _ _ = _
              unfold am_um
              show (h.1, am_u3 (ol M r1) 38 0 7 (nI t), h.2.2) = _
              rw [ol_u (by decide)]
              rfl
            · intro z
              have z : nI t = -1 := by simpa [u2] using z
              have e9 : (nI t).toInt = (-1 : Int32).toInt := congrArg Int32.toInt z
              rw [nI_toInt (by omega)] at e9
              have : (-1 : Int32).toInt = -1 := by decide
              omega
        · obtain ⟨r', b1, b2, b3, b4, b5⟩ := ih (t + 1) o r1 (by omega) hon k2 a7
          rw [a8, a42] at b2 b3 b4
          rw [if_neg hth]
          refine ⟨r', b1, b2, b3, b4, ?_⟩
          refine am_iload dX6_sail_23 rfl ?_
          refine am_sipush 240 (v := 240) dX6_sail_25 (by decide) ?_
          refine am_icmp_geF (89) 117 dX6_sail_28 rfl (nI_ge (b := 240) (by omega) (by omega)) ?_
          refine am_aload_n dX6_sail_31 rfl ?_
          refine am_getI 6 7 dX6_sail_32 fg_X6_57 (sh_38 g) (by decide) rfl ?_
          refine am_iconst (-1) (v := (-1)) dX6_sail_35 (by decide) ?_
          refine am_icmp_neF (81) 117 dX6_sail_36 rfl e4 ?_
          refine am_aload_n dX6_sail_39 rfl ?_
          refine am_getR 6 1 28 dX6_sail_40 fg_X6_29 (sh_38 g) (by decide) rfl (rf_38_1 g) ?_
          refine am_iload_n dX6_sail_43 rfl ?_
          refine am_iload_n dX6_sail_44 rfl ?_
          refine am_aload_n dX6_sail_45 rfl ?_
          refine am_iload dX6_sail_46 rfl ?_
          refine am_callV [_] dX6_sail_48 ml_X6_69 vm_X6_openIn (sh_38 g) rfl (fun _ => Nat.le_of_ble_eq_true rfl) (by omega) rfl (E) rfl ?_
          change am_At _ _ _ 51 [_, _, _, _, _, _] [_, _, _, _] _ _
          refine am_callV [_, _, _] dX6_sail_51 ml_X6_72 vm_X4_passedOn (sh_28 g) rfl (fun _ => Nat.le_of_ble_eq_true rfl) (by omega) rfl (ev_passedOn (d := d + 2) (h := am_hM h (ol M r1)) (n := n) (V := V) (p := p) (ms := ms) (op := openA M q len dp n t) g hn hn16 hV hV4 e2) rfl ?_
          change am_At _ _ _ 54 [_, _, _, _, _, _] [_] _ _
          change am_At _ _ _ _ _ [am_I (nI (ponE (letB M ms (openA M q len dp n t)) n V p))] _ _
          rw [ho]
          refine am_istore dX6_sail_54 (am_lb rfl) ?_
          change am_At _ _ _ 56 [_, _, _, _, _, _] [] _ _
          refine am_aload_n dX6_sail_56 rfl ?_
          refine am_getR 6 1 28 dX6_sail_57 fg_X6_29 (sh_38 g) (by decide) rfl (rf_38_1 g) ?_
          refine am_iload_n dX6_sail_60 rfl ?_
          refine am_iload dX6_sail_61 rfl ?_
          refine am_callV [_, _] dX6_sail_63 ml_X6_76 vm_X4_hasKnocked (sh_28 g) rfl (fun _ => Nat.le_of_ble_eq_true rfl) (by omega) rfl (ev_X4_hasKnocked (d := d + 4) (h := am_hM h (ol M r1)) (a0 := nI p) (a1 := nI o) g) rfl ?_
          change am_At _ _ _ 66 [_, _, _, _, _, _] [_] _ _
          change am_At _ _ _ _ _ [am_I (if M 3 0 0 ≤ nI o then (0 : Int32) else (if M 3 0 12 ≤ nI o - nI p then (0 : Int32) else (1 : Int32)))] _ _
          have ek : (if M 3 0 0 ≤ nI o then (0 : Int32) else (if M 3 0 12 ≤ nI o - nI p then (0 : Int32) else (1 : Int32))) = if o < n ∧ o < p + V then 1 else 0 := by
            rw [hn, hV, pk_sub hge]
            by_cases c1 : n ≤ o
            · rw [if_pos (nI_le c1 (by omega)), if_neg (by omega)]
            · rw [if_neg (nI_ge (by omega) (by omega))]
              by_cases c2 : V ≤ o - p
              · rw [if_pos (nI_le c2 (by omega)), if_neg (by omega)]
              · rw [if_neg (nI_ge (by omega) (by omega)), if_pos (by omega)]
          rw [ek]
          rw [if_neg hkn]
          refine am_if_eqT (24) 90 dX6_sail_66 rfl rfl ?_
          refine am_iload dX6_sail_90 rfl ?_
          refine am_aload_n dX6_sail_92 rfl ?_
          refine am_getR 6 0 3 dX6_sail_93 fg_X6_25 (sh_38 g) (by decide) rfl (rf_38_0 g) ?_
          refine am_getI 1 0 dX6_sail_96 fg_X6_80 (sh_3 g) (by decide) rfl ?_
          change am_At _ _ _ 99 _ [am_I (M 3 0 0), am_I (nI o)] _ _
          refine am_icmp_neT (9) 108 dX6_sail_99 rfl (by rw [hn]; exact fun z => absurd ((nI_eq (by omega) (by omega)).mp z) hth) ?_
          refine am_iload dX6_sail_108 rfl ?_
          refine am_istore_n dX6_sail_110 (am_lb rfl) ?_
          change am_At _ _ _ 111 [_, _, _, _, _, _] [] _ _
          refine am_iinc dX6_sail_111 rfl (am_i1 t) ?_
          change am_At _ _ _ 114 [_, _, _, _, _, _] [] _ _
          refine am_goto (-91) 23 dX6_sail_114 rfl ?_
          refine am_At.drop 5 ?_
          change am_At _ _ _ 23 [_, _, _, _, _, none] [] _ _
          exact b5
  have ef : fillM (ol M (u2 (u2 r 38 7 (-1)) 38 8 0)) 42 16 0 = ol M (urow (u2 (u2 r 38 7 (-1)) 38 8 0) 42 (fun j => if j < 16 then 0 else r 42 j)) := by
    rw [← ol_row (by decide)]
    funext c ρ j
    simp only [fillM, am_row]
    by_cases h1 : c = 42 ∧ ρ = 0
    · obtain ⟨rfl, rfl⟩ := h1
      by_cases h2 : j < 16
      · rw [if_pos ⟨rfl, rfl, h2⟩, if_pos ⟨rfl, rfl⟩, if_pos h2]
      · rw [if_neg (fun z => h2 z.2.2), if_pos ⟨rfl, rfl⟩, if_neg h2]
        simp [ol, u2]
    · rw [if_neg (fun z => h1 ⟨z.1, z.2.1⟩), if_neg h1]
  obtain ⟨r', b1, b2, b3, b4, b5⟩ := key (240 - t0) t0 0 (urow (u2 (u2 r 38 7 (-1)) 38 8 0) 42 (fun j => if j < 16 then 0 else r 42 j)) (by omega) (by omega) (by
    obtain ⟨κ, c1, c2, c3⟩ := cv
    exact ⟨κ, c1, by simpa [u2, urow] using c2, fun j hj => by simpa [u2, urow] using c3 j hj⟩) (by simp [u2, urow])
  have q1 : urow (u2 (u2 r 38 7 (-1)) 38 8 0) 42 (fun j => if j < 16 then 0 else r 42 j) 38 8 = 0 := by simp [u2, urow]
  have q2 : urow (u2 (u2 r 38 7 (-1)) 38 8 0) 42 (fun j => if j < 16 then 0 else r 42 j) 42 = (fun j => if j < 16 then 0 else r 42 j) := by simp [urow]
  rw [q1, q2] at b2 b3 b4
  refine ⟨r', b1, b2, b3, b4, ?_⟩
  refine am_Ev.mk (by decide +kernel) rfl rfl (Nat.le_refl _) (Nat.le_refl _) ?_
  change am_At _ _ _ 0 [_, _, _, _, _, _] [] _ _
  refine am_aload_n dX6_sail_0 rfl ?_
  refine am_iconst (-1) (v := (-1)) dX6_sail_1 (by decide) ?_
  refine am_putI 6 7 dX6_sail_2 (Or.inl fp_X6_57) (sh_38 g) (by decide) rfl rfl rfl ?_
  refine am_aload_n dX6_sail_5 rfl ?_
  refine am_iconst 0 (v := 0) dX6_sail_6 (by decide) ?_
  refine am_putI 6 8 dX6_sail_7 (Or.inl fp_X6_60) (sh_38 g) (by decide) rfl rfl rfl ?_
  refine am_aload_n dX6_sail_10 rfl ?_
  refine am_getR 6 6 42 dX6_sail_11 fg_X6_22 (sh_38 g) (by decide) rfl (rf_38_6 g) ?_
  refine am_iconst 0 (v := 0) dX6_sail_14 (by decide) ?_
  refine am_At.to (h := am_hM h (ol M (u2 (u2 r 38 7 (-1)) 38 8 0))) (by show am_um (am_um _ _ _ _ _) _ _ _ _ = _; unfold am_um; show (h.1, am_u3 (am_u3 (ol M r) 38 0 7 (-1)) 38 0 8 0, h.2.2) = _; rw [ol_u (by decide), ol_u (by decide)]; rfl) ?_
  refine am_callS (c := 0) (k := 0) (n := 0) (w := 0) [_, _] dX6_sail_15 ml_X6_63 sm_J7_fill_53178 rfl (fun _ => Nat.le_of_ble_eq_true rfl) (by omega) rfl (ev_fill (d := d + 4) (h := am_hM h (ol M (u2 (u2 r 38 7 (-1)) 38 8 0))) (c := 42) (n := 16) (v := 0) (sh_42 g) (by decide)) rfl ?_
  change am_At _ _ _ 18 [_, _, _, _, _, _] [] _ _
  refine am_iconst 0 (v := 0) dX6_sail_18 (by decide) ?_
  refine am_istore_n dX6_sail_19 (am_lb rfl) ?_
  change am_At _ _ _ 20 [_, _, _, _, _, _] [] _ _
  refine am_iload_n dX6_sail_20 rfl ?_
  refine am_istore dX6_sail_21 (am_lb rfl) ?_
  change am_At _ _ _ 23 [_, _, _, _, _, _] [] _ _
  refine am_At.to (h := am_hM h (ol M (urow (u2 (u2 r 38 7 (-1)) 38 8 0) 42 (fun j => if j < 16 then 0 else r 42 j)))) (by rw [← ef]; rfl) ?_
  exact b5
