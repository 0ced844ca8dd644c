theorem upd_s (f : Nat → Int32) (k : Nat) (x : Int32) : upd f k x k = x := if_pos rfl
theorem upd_n {f : Nat → Int32} {k j : Nat} {x : Int32} (h : j ≠ k) : upd f k x j = f j := if_neg h
/-- all have passed no more BOARDS than there are -/
def psd (n : Nat) (R : Nat → Int32) : Prop := ∀ k, k < 4 → ∃ p, p ≤ n ∧ R (39 + k) = nI p
theorem psd.r1 {n : Nat} {R : Nat → Int32} {cm : Int32} {k : Nat} (hk : k < 4) (h : psd n R) : psd n (r1R cm k R) := by
  intro k' hk'
  unfold r1R
  split
  · split
    · rw [upd_n (by omega)]; exact h k' hk'
    · exact h k' hk'
  · exact h k' hk'
theorem psd.on {n V : Nat} {lt : Nat → Bool} {R : Nat → Int32} {k : Nat} (hk : k < 4) (hn : n ≤ 16) (h : psd n R) : onR n V lt k R ≤ n := by
  obtain ⟨p, hp, e⟩ := h k hk
  unfold onR
  rw [e, nI_clamp (by omega)]
  exact ponE_le lt hp
theorem psd.r2 {n V : Nat} {lt : Nat → Bool} {R : Nat → Int32} {k : Nat} (hk : k < 4) (hn : n ≤ 16) (h : psd n R) : psd n (r2R n V lt k R) := by
  have ho := h.on (V := V) (lt := lt) hk hn
  intro k' hk'
  have key : ∃ p, p ≤ n ∧ upd R (39 + k) (nI (onR n V lt k R)) (39 + k') = nI p := by
    by_cases e : k' = k
    · subst e
      exact ⟨_, ho, upd_s _ _ _⟩
    · rw [upd_n (by omega)]; exact h k' hk'
  unfold r2R
  split
  · rw [upd_n (by omega)]; exact key
  · exact key
theorem psd.bar {n V : Nat} {lt : Nat → Bool} {cm : Int32} {R : Nat → Int32} {k : Nat} (hk : k < 4) (hn : n ≤ 16) (h : psd n R) : psd n (barR n V lt cm k R) := by
  unfold barR
  split
  · unfold r3R
    split
    · intro k' hk'
      rw [upd_n (by omega), upd_n (by omega)]
      exact (h.r1 hk).r2 hk hn k' hk'
    · exact (h.r1 hk).r2 hk hn
  · exact h.r1 hk
theorem psd.bars {n V nb : Nat} {lt : Nat → Nat → Bool} {cm : Nat → Int32} {R : Nat → Int32} (hnb : nb ≤ 4) (hn : n ≤ 16) (h : psd n R) : ∀ k, k ≤ nb → psd n (barsR n V lt cm k R)
  | 0, _ => h
  | k + 1, hk => psd.bar (by omega) hn (psd.bars hnb hn h k (by omega))
theorem psd.fine {n : Nat} {R : Nat → Int32} {b : Int32} (h : psd n R) : psd n (fineR R b) := by
  intro k hk
  unfold fineR
  rw [if_neg (by omega)]
  exact h k hk
theorem psd.hour {M : Nat → Nat → Nat → Int32} {n V nb : Nat} {due fz : Int32} {R : Nat → Int32} (hnb : nb ≤ 4) (hn : n ≤ 16) (h : psd n R) : psd n (hourR M n V nb due fz R) := by
  intro k hk
  unfold hourR
  rw [upd_n (by omega)]
  exact psd.bars hnb hn h.fine nb (Nat.le_refl _) k hk
theorem ev_passHour {d : Nat} {h : am_H} (g : lay h) {M : Nat → Nat → Nat → Int32} {R : Nat → Int32} {n V nb : Nat} {due fz : Int32} (hn : M 3 0 0 = nI n) (hn16 : n ≤ 16) (hV : M 3 0 12 = nI V) (hV4 : V ≤ 4) (hb : M 3 0 5 = nI nb) (hnb : nb ≤ 4) (hp : psd n R) : am_Ev (d + 3) mX4_passHour [.inr (28, 0), .inr (29, 0), am_I due, am_I fz] (am_hM h (am_row M 30 R)) (.inl (none, am_hM h (am_row M 30 (hourR M n V nb due fz R)))) := by
  refine am_Ev.mk (by decide +kernel) rfl rfl (Nat.le_refl _) (Nat.le_refl _) ?_
  change am_At _ _ _ 0 [_, _, _, _, _, _, _, _] [] _ _
  refine am_aload_n dX4_passHour_0 rfl ?_
  refine am_aload_n dX4_passHour_1 rfl ?_
  refine am_iload_n dX4_passHour_2 rfl ?_
  refine am_callV [_, _] dX4_passHour_3 ml_X4_65 vm_X4_openBits (sh_28 g) rfl (fun _ => Nat.le_of_ble_eq_true rfl) (by omega) rfl (ev_X4_openBits_28_29 (d := d + 1) (h := (am_hM h (am_row M 30 R))) (a0 := due) g) rfl ?_
  change am_At _ _ _ 6 [_, _, _, _, _, _, _, _] [_] _ _
  change am_At _ _ _ 6 _ [am_I (opR R due)] _ _
  refine am_iload_n dX4_passHour_6 rfl ?_
  refine am_iconst (-1) (v := (-1)) dX4_passHour_7 (by decide) ?_
  refine am_ixor dX4_passHour_8 ?_
  refine am_iand dX4_passHour_9 ?_
  refine am_istore dX4_passHour_10 (am_lb rfl) ?_
  change am_At _ _ _ 12 [_, _, _, _, _, _, _, _] [] _ _
  refine am_aload_n dX4_passHour_12 rfl ?_
  refine am_iload dX4_passHour_13 rfl ?_
  refine am_iload_n dX4_passHour_15 rfl ?_
  refine am_ixor dX4_passHour_16 ?_
  refine am_iload_n dX4_passHour_17 rfl ?_
  refine am_iconst (-1) (v := (-1)) dX4_passHour_18 (by decide) ?_
  refine am_ixor dX4_passHour_19 ?_
  refine am_iand dX4_passHour_20 ?_
  refine am_callV [_] dX4_passHour_21 ml_X4_69 vm_X8_fine (sh_29 g) rfl (fun _ => Nat.le_of_ble_eq_true rfl) (by omega) rfl (evr_fine (d := d + 2) (M := M) (R := R) g) rfl ?_
  change am_At _ _ _ 24 [_, _, _, _, _, _, _, _] [] _ _
  refine am_iconst 0 (v := 0) dX4_passHour_24 (by decide) ?_
  refine am_istore dX4_passHour_25 (am_lb rfl) ?_
  change am_At _ _ _ 27 [_, _, _, _, _, _, _, _] [] _ _
  have key := am_loop (Pr := fun k => am_At am_X0 (d + 3) mX4_passHour 27 [some (.inr (28, 0)), some (.inr (29, 0)), some (am_I due), some (am_I fz), some (am_I (opR R due &&& (fz ^^^ -1))), some (am_I (nI k)), none, none] [] (am_hM h (am_row M 30 (barsR n V (fun k => letB M (M 8 0 k) (opR R due &&& (fz ^^^ -1))) (fun k => M 9 0 k) k (fineR R (((opR R due &&& (fz ^^^ -1)) ^^^ due) &&& (fz ^^^ -1)))))) (.inl (none, am_hM h (am_row M 30 (hourR M n V nb due fz R))))) nb ?_ ?_ 0 (by omega)
  · exact key
  · refine am_iload dX4_passHour_27 rfl ?_
    refine am_aload_n dX4_passHour_29 rfl ?_
    refine am_getR 4 0 3 dX4_passHour_30 fg_X4_9 (sh_28 g) (by decide) rfl (rf_28_0 g) ?_
    refine am_getI 1 5 dX4_passHour_33 fg_X4_73 (sh_3 g) (by decide) rfl ?_
    refine am_icmp_geT (122) 158 dX4_passHour_36 rfl (by show M 3 0 5 ≤ _; rw [hb]; exact Int32.le_refl _) ?_
    refine am_aload_n dX4_passHour_158 rfl ?_
    refine am_callV [] dX4_passHour_159 ml_X4_111 vm_X8_addHour (sh_29 g) rfl (fun _ => Nat.le_of_ble_eq_true rfl) (by omega) rfl (evr_addHour (d := d + 2) (M := M) (R := (barsR n V (fun k => letB M (M 8 0 k) (opR R due &&& (fz ^^^ -1))) (fun k => M 9 0 k) nb (fineR R (((opR R due &&& (fz ^^^ -1)) ^^^ due) &&& (fz ^^^ -1))))) g) rfl ?_
    change am_At _ _ _ 162 [_, _, _, _, _, _, _, _] [] _ _
    exact am_vret dX4_passHour_162 rfl
  · intro k hk ih
    have hk4 : k < 4 := by omega
    have hps : psd n (barsR n V (fun k => letB M (M 8 0 k) (opR R due &&& (fz ^^^ -1))) (fun k => M 9 0 k) k (fineR R (((opR R due &&& (fz ^^^ -1)) ^^^ due) &&& (fz ^^^ -1)))) := psd.bars hnb hn16 hp.fine k (by omega)
    generalize hRk : (barsR n V (fun k => letB M (M 8 0 k) (opR R due &&& (fz ^^^ -1))) (fun k => M 9 0 k) k (fineR R (((opR R due &&& (fz ^^^ -1)) ^^^ due) &&& (fz ^^^ -1)))) = Rk at hps ⊢
    have ih : am_At am_X0 (d + 3) mX4_passHour 27 [some (.inr (28, 0)), some (.inr (29, 0)), some (am_I due), some (am_I fz), some (am_I (opR R due &&& (fz ^^^ -1))), some (am_I (nI (k + 1))), none, none] [] (am_hM h (am_row M 30 (barR n V (letB M (M 8 0 k) (opR R due &&& (fz ^^^ -1))) (M 9 0 k) k Rk))) (.inl (none, am_hM h (am_row M 30 (hourR M n V nb due fz R)))) := by
      have e : (barsR n V (fun k => letB M (M 8 0 k) (opR R due &&& (fz ^^^ -1))) (fun k => M 9 0 k) (k + 1) (fineR R (((opR R due &&& (fz ^^^ -1)) ^^^ due) &&& (fz ^^^ -1)))) = barR n V (letB M (M 8 0 k) (opR R due &&& (fz ^^^ -1))) (M 9 0 k) k Rk := by rw [← hRk]; rfl
      rw [← e]; exact ih
    have hcl : (nI k).toNatClampNeg = k := nI_clamp (by omega)
    have at152 : ∀ X, X = barR n V (letB M (M 8 0 k) (opR R due &&& (fz ^^^ -1))) (M 9 0 k) k Rk → am_At am_X0 (d + 3) mX4_passHour 152 [some (.inr (28, 0)), some (.inr (29, 0)), some (am_I due), some (am_I fz), some (am_I (opR R due &&& (fz ^^^ -1))), some (am_I (nI k)), none, none] [] (am_hM h (am_row M 30 X)) (.inl (none, am_hM h (am_row M 30 (hourR M n V nb due fz R)))) := by
      intro X hX
      rw [hX]
      refine am_iinc dX4_passHour_152 rfl (am_i1 k) ?_
      change am_At _ _ _ 155 [_, _, _, _, _, _, _, _] [] _ _
      refine am_goto (-128) 27 dX4_passHour_155 rfl ?_
      exact ih
    have at71 : am_At am_X0 (d + 3) mX4_passHour 71 [some (.inr (28, 0)), some (.inr (29, 0)), some (am_I due), some (am_I fz), some (am_I (opR R due &&& (fz ^^^ -1))), some (am_I (nI k)), none, none] [] (am_hM h (am_row M 30 (r1R (M 9 0 k) k Rk))) (.inl (none, am_hM h (am_row M 30 (hourR M n V nb due fz R)))) := by
      generalize hR1 : r1R (M 9 0 k) k Rk = R1
      have hp1 : psd n R1 := by rw [← hR1]; exact hps.r1 hk4
      obtain ⟨pp, hpp, epp⟩ := hp1 k hk4
      refine am_aload_n dX4_passHour_71 rfl ?_
      refine am_iload dX4_passHour_72 rfl ?_
      refine am_callV [_] dX4_passHour_74 ml_X4_76 vm_X8_whereIs (sh_29 g) rfl (fun _ => Nat.le_of_ble_eq_true rfl) (by omega) rfl (evr_whereIs (d := d + 2) (M := M) (R := R1) g hk4) rfl ?_
      change am_At _ _ _ 77 [_, _, _, _, _, _, _, _] [_] _ _
      refine am_iconst 1 (v := 1) dX4_passHour_77 (by decide) ?_
      refine am_icmp_ne (74) 152 dX4_passHour_78 rfl ?_ ?_
      · intro hc
        exact at152 R1 (by unfold barR; rw [hR1, if_neg hc])
      · intro hc
        have hbar : barR n V (letB M (M 8 0 k) (opR R due &&& (fz ^^^ -1))) (M 9 0 k) k Rk = r3R n V (letB M (M 8 0 k) (opR R due &&& (fz ^^^ -1))) k R1 := by unfold barR; rw [hR1, if_pos hc]
        have eon : onR n V (letB M (M 8 0 k) (opR R due &&& (fz ^^^ -1))) k R1 = ponE (letB M (M 8 0 k) (opR R due &&& (fz ^^^ -1))) n V pp := by unfold onR; rw [epp, nI_clamp (by omega)]
        have hon : ponE (letB M (M 8 0 k) (opR R due &&& (fz ^^^ -1))) n V pp ≤ n := ponE_le _ hpp
        have hge : pp ≤ ponE (letB M (M 8 0 k) (opR R due &&& (fz ^^^ -1))) n V pp := ponE_ge _
        have hlv : ponE (letB M (M 8 0 k) (opR R due &&& (fz ^^^ -1))) n V pp ≤ pp + V := ponE_leV _
        refine am_aload_n dX4_passHour_81 rfl ?_
        refine am_iload dX4_passHour_82 rfl ?_
        refine am_callV [_] dX4_passHour_84 ml_X4_88 vm_X8_passedBy (sh_29 g) rfl (fun _ => Nat.le_of_ble_eq_true rfl) (by omega) rfl (evr_passedBy (d := d + 2) (M := M) (R := R1) g hk4) rfl ?_
        change am_At _ _ _ 87 [_, _, _, _, _, _, _, _] [_] _ _
        rw [epp]
        refine am_istore dX4_passHour_87 (am_lb rfl) ?_
        change am_At _ _ _ 89 [_, _, _, _, _, _, _, _] [] _ _
        refine am_aload_n dX4_passHour_89 rfl ?_
        refine am_aload_n dX4_passHour_90 rfl ?_
        refine am_getR 4 0 3 dX4_passHour_91 fg_X4_9 (sh_28 g) (by decide) rfl (rf_28_0 g) ?_
        refine am_getR 1 6 8 dX4_passHour_94 fg_X4_91 (sh_3 g) (by decide) rfl (rf_3_6 g) ?_
        refine am_iload dX4_passHour_97 rfl ?_
        refine am_iald dX4_passHour_99 (am_ia.one (sh_8 g)) (vp_in_nI (by omega) (by omega)) ?_
        refine am_iload dX4_passHour_100 rfl ?_
        refine am_iload dX4_passHour_102 rfl ?_
        rw [hcl]
        refine am_callV [_, _, _] dX4_passHour_104 ml_X4_94 vm_X4_passedOn (sh_28 g) rfl (fun _ => Nat.le_of_ble_eq_true rfl) (by omega) rfl (ev_passedOn (d := d) (h := am_hM h (am_row M 30 R1)) (n := n) (V := V) (p := pp) (ms := M 8 0 k) (op := (opR R due &&& (fz ^^^ -1))) g hn hn16 hV hV4 hpp) rfl ?_
        change am_At _ _ _ 107 [_, _, _, _, _, _, _, _] [_] _ _
        change am_At _ _ _ _ _ [am_I (nI (ponE (letB M (M 8 0 k) (opR R due &&& (fz ^^^ -1))) n V pp))] _ _
        generalize ho : ponE (letB M (M 8 0 k) (opR R due &&& (fz ^^^ -1))) n V pp = o at eon hon hge hlv ⊢
        refine am_istore dX4_passHour_107 (am_lb rfl) ?_
        change am_At _ _ _ 109 [_, _, _, _, _, _, _, _] [] _ _
        refine am_aload_n dX4_passHour_109 rfl ?_
        refine am_iload dX4_passHour_110 rfl ?_
        refine am_iload dX4_passHour_112 rfl ?_
        refine am_callV [_, _] dX4_passHour_114 ml_X4_98 vm_X8_pass (sh_29 g) rfl (fun _ => Nat.le_of_ble_eq_true rfl) (by omega) rfl (evr_pass (d := d + 2) (M := M) (R := R1) (v := nI o) g hk4) rfl ?_
        change am_At _ _ _ 117 [_, _, _, _, _, _, _, _] [] _ _
        have at134 : am_At am_X0 (d + 3) mX4_passHour 134 [some (.inr (28, 0)), some (.inr (29, 0)), some (am_I due), some (am_I fz), some (am_I (opR R due &&& (fz ^^^ -1))), some (am_I (nI k)), some (am_I (nI pp)), some (am_I (nI o))] [] (am_hM h (am_row M 30 (r2R n V (letB M (M 8 0 k) (opR R due &&& (fz ^^^ -1))) k R1))) (.inl (none, am_hM h (am_row M 30 (hourR M n V nb due fz R)))) := by
          refine am_iload dX4_passHour_134 rfl ?_
          refine am_aload_n dX4_passHour_136 rfl ?_
          refine am_getR 4 0 3 dX4_passHour_137 fg_X4_9 (sh_28 g) (by decide) rfl (rf_28_0 g) ?_
          refine am_getI 1 0 dX4_passHour_140 fg_X4_25 (sh_3 g) (by decide) rfl ?_
          refine am_icmp_ne (9) 152 dX4_passHour_143 rfl ?_ ?_
          · intro hc
            have hc : ¬ nI o = M 3 0 0 := hc
            refine am_At.drop 6 (am_At.drop 7 ?_)
            change am_At _ _ _ 152 [_, _, _, _, _, _, none, none] [] _ _
            exact at152 _ (by rw [hbar]; unfold r3R; rw [eon, if_neg (fun z => hc (by rw [hn, z]))])
          · intro hc
            have hc : nI o = M 3 0 0 := hc
            refine am_aload_n dX4_passHour_146 rfl ?_
            refine am_iload dX4_passHour_147 rfl ?_
            refine am_callV [_] dX4_passHour_149 ml_X4_108 vm_X8_leave (sh_29 g) rfl (fun _ => Nat.le_of_ble_eq_true rfl) (by omega) rfl (evr_leave (d := d + 1) (M := M) (R := r2R n V (letB M (M 8 0 k) (opR R due &&& (fz ^^^ -1))) k R1) g hk4) rfl ?_
            change am_At _ _ _ 152 [_, _, _, _, _, _, _, _] [] _ _
            refine am_At.drop 6 (am_At.drop 7 ?_)
            change am_At _ _ _ 152 [_, _, _, _, _, _, none, none] [] _ _
            exact at152 _ (by rw [hbar]; unfold r3R; rw [eon, if_pos (by rw [hn] at hc; exact (nI_eq (by omega) (by omega)).mp hc)])
        refine am_aload_n dX4_passHour_117 rfl ?_
        refine am_iload dX4_passHour_118 rfl ?_
        refine am_iload dX4_passHour_120 rfl ?_
        refine am_callV [_, _] dX4_passHour_122 ml_X4_102 vm_X4_hasKnocked (sh_28 g) rfl (fun _ => Nat.le_of_ble_eq_true rfl) (by omega) rfl (ev_X4_hasKnocked (d := d + 2) (h := am_hM h (am_row M 30 (upd R1 (39 + k) (nI o)))) (a0 := nI pp) (a1 := nI o) g) rfl ?_
        change am_At _ _ _ 125 [_, _, _, _, _, _, _, _] [_] _ _
        change am_At _ _ _ _ _ [am_I (if M 3 0 0 ≤ nI o then (0 : Int32) else (if M 3 0 12 ≤ nI o - nI pp then (0 : Int32) else (1 : Int32)))] _ _
        have ek : (if M 3 0 0 ≤ nI o then (0 : Int32) else (if M 3 0 12 ≤ nI o - nI pp then (0 : Int32) else (1 : Int32))) = if o < n ∧ o < pp + V then 1 else 0 := by
          rw [hn, hV, pk_sub hge]
          by_cases c1 : n ≤ o
          · rw [if_pos (nI_le c1 (by omega)), if_neg (by omega)]
          · rw [if_neg (nI_ge (by omega) (by omega))]
            by_cases c2 : V ≤ o - pp
            · rw [if_pos (nI_le c2 (by omega)), if_neg (by omega)]
            · rw [if_neg (nI_ge (by omega) (by omega)), if_pos (by omega)]
        rw [ek]
        refine am_if_eq (9) 134 dX4_passHour_125 rfl ?_ ?_
        · intro hc
          have hk0 : ¬ (o < n ∧ o < pp + V) := fun z => by rw [if_pos z] at hc; exact absurd hc (by decide)
          have e2 : r2R n V (letB M (M 8 0 k) (opR R due &&& (fz ^^^ -1))) k R1 = upd R1 (39 + k) (nI o) := by unfold r2R; rw [eon, epp, nI_clamp (by omega), if_neg hk0]
          rw [e2] at at134
          exact at134
        · intro hc
          have hk0 : o < n ∧ o < pp + V := by
            by_cases z : o < n ∧ o < pp + V
            · exact z
            · rw [if_neg z] at hc; exact absurd rfl hc
          have e2 : r2R n V (letB M (M 8 0 k) (opR R due &&& (fz ^^^ -1))) k R1 = upd (upd R1 (39 + k) (nI o)) (19 + o) (upd R1 (39 + k) (nI o) (19 + o) + 1) := by unfold r2R; rw [eon, epp, nI_clamp (by omega), if_pos hk0]
          refine am_aload_n dX4_passHour_128 rfl ?_
          refine am_iload dX4_passHour_129 rfl ?_
          refine am_callV [_] dX4_passHour_131 ml_X4_105 vm_X8_knock (sh_29 g) rfl (fun _ => Nat.le_of_ble_eq_true rfl) (by omega) rfl (evr_knock (d := d + 2) (M := M) (R := upd R1 (39 + k) (nI o)) (k := o) g (by omega)) rfl ?_
          change am_At _ _ _ 134 [_, _, _, _, _, _, _, _] [] _ _
          rw [e2] at at134
          exact at134
    refine am_iload dX4_passHour_27 rfl ?_
    refine am_aload_n dX4_passHour_29 rfl ?_
    refine am_getR 4 0 3 dX4_passHour_30 fg_X4_9 (sh_28 g) (by decide) rfl (rf_28_0 g) ?_
    refine am_getI 1 5 dX4_passHour_33 fg_X4_73 (sh_3 g) (by decide) rfl ?_
    refine am_icmp_geF (122) 158 dX4_passHour_36 rfl (by show ¬ M 3 0 5 ≤ _; rw [hb]; exact nI_ge hk (by omega)) ?_
    refine am_aload_n dX4_passHour_39 rfl ?_
    refine am_iload dX4_passHour_40 rfl ?_
    refine am_callV [_] dX4_passHour_42 ml_X4_76 vm_X8_whereIs (sh_29 g) rfl (fun _ => Nat.le_of_ble_eq_true rfl) (by omega) rfl (evr_whereIs (d := d + 2) (M := M) (R := Rk) g hk4) rfl ?_
    change am_At _ _ _ 45 [_, _, _, _, _, _, _, _] [_] _ _
    refine am_if_ne (26) 71 dX4_passHour_45 rfl ?_ ?_
    · intro hc
      have e1 : r1R (M 9 0 k) k Rk = Rk := by unfold r1R; rw [if_neg hc]
      rw [e1] at at71
      exact at71
    · intro hc
      refine am_aload_n dX4_passHour_48 rfl ?_
      refine am_getR 4 0 3 dX4_passHour_49 fg_X4_9 (sh_28 g) (by decide) rfl (rf_28_0 g) ?_
      refine am_getR 1 7 9 dX4_passHour_52 fg_X4_79 (sh_3 g) (by decide) rfl (rf_3_7 g) ?_
      refine am_iload dX4_passHour_55 rfl ?_
      refine am_iald dX4_passHour_57 (am_ia.one (sh_9 g)) (vp_in_nI (by omega) (by omega)) ?_
      refine am_aload_n dX4_passHour_58 rfl ?_
      refine am_callV [] dX4_passHour_59 ml_X4_82 vm_X8_hour (sh_29 g) rfl (fun _ => Nat.le_of_ble_eq_true rfl) (by omega) rfl (evr_hour (d := d + 2) (M := M) (R := Rk) g) rfl ?_
      change am_At _ _ _ 62 [_, _, _, _, _, _, _, _] [_, _] _ _
      change am_At _ _ _ _ _ [_, am_I (M 9 0 (nI k).toNatClampNeg)] _ _
      rw [hcl]
      refine am_icmp_ne (9) 71 dX4_passHour_62 rfl ?_ ?_
      · intro hc1
        have e1 : r1R (M 9 0 k) k Rk = Rk := by unfold r1R; rw [if_pos hc, if_neg hc1]
        rw [e1] at at71
        exact at71
      · intro hc1
        refine am_aload_n dX4_passHour_65 rfl ?_
        refine am_iload dX4_passHour_66 rfl ?_
        refine am_callV [_] dX4_passHour_68 ml_X4_85 vm_X8_come (sh_29 g) rfl (fun _ => Nat.le_of_ble_eq_true rfl) (by omega) rfl (evr_come (d := d + 2) (M := M) (R := Rk) g hk4) rfl ?_
        change am_At _ _ _ 71 [_, _, _, _, _, _, _, _] [] _ _
        have e1 : r1R (M 9 0 k) k Rk = upd Rk (35 + k) 1 := by unfold r1R; rw [if_pos hc, if_pos hc1]
        rw [e1] at at71
        exact at71
theorem ev_passHourT {d : Nat} {h : am_H} (g : lay h) {M : Nat → Nat → Nat → Int32} {R : Nat → Int32} {n V nb : Nat} {due fz : Int32} (hn : M 3 0 0 = nI n) (hn16 : n ≤ 16) (hV : M 3 0 12 = nI V) (hV4 : V ≤ 4) (hb : M 3 0 5 = nI nb) (hnb : nb ≤ 4) (hp : psd n R) : am_Ev (d + 3) mX4_passHour [.inr (28, 0), .inr (39, 0), am_I due, am_I fz] (am_hM h (am_row M 40 R)) (.inl (none, am_hM h (am_row M 40 (hourR M n V nb due fz R)))) := by
  refine am_Ev.mk (by decide +kernel) rfl rfl (Nat.le_refl _) (Nat.le_refl _) ?_
  change am_At _ _ _ 0 [_, _, _, _, _, _, _, _] [] _ _
  refine am_aload_n dX4_passHour_0 rfl ?_
  refine am_aload_n dX4_passHour_1 rfl ?_
  refine am_iload_n dX4_passHour_2 rfl ?_
  refine am_callV [_, _] dX4_passHour_3 ml_X4_65 vm_X4_openBits (sh_28 g) rfl (fun _ => Nat.le_of_ble_eq_true rfl) (by omega) rfl (ev_X4_openBits_28_39 (d := d + 1) (h := (am_hM h (am_row M 40 R))) (a0 := due) g) rfl ?_
  change am_At _ _ _ 6 [_, _, _, _, _, _, _, _] [_] _ _
  change am_At _ _ _ 6 _ [am_I (opR R due)] _ _
  refine am_iload_n dX4_passHour_6 rfl ?_
  refine am_iconst (-1) (v := (-1)) dX4_passHour_7 (by decide) ?_
  refine am_ixor dX4_passHour_8 ?_
  refine am_iand dX4_passHour_9 ?_
  refine am_istore dX4_passHour_10 (am_lb rfl) ?_
  change am_At _ _ _ 12 [_, _, _, _, _, _, _, _] [] _ _
  refine am_aload_n dX4_passHour_12 rfl ?_
  refine am_iload dX4_passHour_13 rfl ?_
  refine am_iload_n dX4_passHour_15 rfl ?_
  refine am_ixor dX4_passHour_16 ?_
  refine am_iload_n dX4_passHour_17 rfl ?_
  refine am_iconst (-1) (v := (-1)) dX4_passHour_18 (by decide) ?_
  refine am_ixor dX4_passHour_19 ?_
  refine am_iand dX4_passHour_20 ?_
  refine am_callV [_] dX4_passHour_21 ml_X4_69 vm_X8_fine (sh_39 g) rfl (fun _ => Nat.le_of_ble_eq_true rfl) (by omega) rfl (evr_fineT (d := d + 2) (M := M) (R := R) g) rfl ?_
  change am_At _ _ _ 24 [_, _, _, _, _, _, _, _] [] _ _
  refine am_iconst 0 (v := 0) dX4_passHour_24 (by decide) ?_
  refine am_istore dX4_passHour_25 (am_lb rfl) ?_
  change am_At _ _ _ 27 [_, _, _, _, _, _, _, _] [] _ _
  have key := am_loop (Pr := fun k => am_At am_X0 (d + 3) mX4_passHour 27 [some (.inr (28, 0)), some (.inr (39, 0)), some (am_I due), some (am_I fz), some (am_I (opR R due &&& (fz ^^^ -1))), some (am_I (nI k)), none, none] [] (am_hM h (am_row M 40 (barsR n V (fun k => letB M (M 8 0 k) (opR R due &&& (fz ^^^ -1))) (fun k => M 9 0 k) k (fineR R (((opR R due &&& (fz ^^^ -1)) ^^^ due) &&& (fz ^^^ -1)))))) (.inl (none, am_hM h (am_row M 40 (hourR M n V nb due fz R))))) nb ?_ ?_ 0 (by omega)
  · exact key
  · refine am_iload dX4_passHour_27 rfl ?_
    refine am_aload_n dX4_passHour_29 rfl ?_
    refine am_getR 4 0 3 dX4_passHour_30 fg_X4_9 (sh_28 g) (by decide) rfl (rf_28_0 g) ?_
    refine am_getI 1 5 dX4_passHour_33 fg_X4_73 (sh_3 g) (by decide) rfl ?_
    refine am_icmp_geT (122) 158 dX4_passHour_36 rfl (by show M 3 0 5 ≤ _; rw [hb]; exact Int32.le_refl _) ?_
    refine am_aload_n dX4_passHour_158 rfl ?_
    refine am_callV [] dX4_passHour_159 ml_X4_111 vm_X8_addHour (sh_39 g) rfl (fun _ => Nat.le_of_ble_eq_true rfl) (by omega) rfl (evr_addHourT (d := d + 2) (M := M) (R := (barsR n V (fun k => letB M (M 8 0 k) (opR R due &&& (fz ^^^ -1))) (fun k => M 9 0 k) nb (fineR R (((opR R due &&& (fz ^^^ -1)) ^^^ due) &&& (fz ^^^ -1))))) g) rfl ?_
    change am_At _ _ _ 162 [_, _, _, _, _, _, _, _] [] _ _
    exact am_vret dX4_passHour_162 rfl
  · intro k hk ih
    have hk4 : k < 4 := by omega
    have hps : psd n (barsR n V (fun k => letB M (M 8 0 k) (opR R due &&& (fz ^^^ -1))) (fun k => M 9 0 k) k (fineR R (((opR R due &&& (fz ^^^ -1)) ^^^ due) &&& (fz ^^^ -1)))) := psd.bars hnb hn16 hp.fine k (by omega)
    generalize hRk : (barsR n V (fun k => letB M (M 8 0 k) (opR R due &&& (fz ^^^ -1))) (fun k => M 9 0 k) k (fineR R (((opR R due &&& (fz ^^^ -1)) ^^^ due) &&& (fz ^^^ -1)))) = Rk at hps ⊢
    have ih : am_At am_X0 (d + 3) mX4_passHour 27 [some (.inr (28, 0)), some (.inr (39, 0)), some (am_I due), some (am_I fz), some (am_I (opR R due &&& (fz ^^^ -1))), some (am_I (nI (k + 1))), none, none] [] (am_hM h (am_row M 40 (barR n V (letB M (M 8 0 k) (opR R due &&& (fz ^^^ -1))) (M 9 0 k) k Rk))) (.inl (none, am_hM h (am_row M 40 (hourR M n V nb due fz R)))) := by
      have e : (barsR n V (fun k => letB M (M 8 0 k) (opR R due &&& (fz ^^^ -1))) (fun k => M 9 0 k) (k + 1) (fineR R (((opR R due &&& (fz ^^^ -1)) ^^^ due) &&& (fz ^^^ -1)))) = barR n V (letB M (M 8 0 k) (opR R due &&& (fz ^^^ -1))) (M 9 0 k) k Rk := by rw [← hRk]; rfl
      rw [← e]; exact ih
    have hcl : (nI k).toNatClampNeg = k := nI_clamp (by omega)
    have at152 : ∀ X, X = barR n V (letB M (M 8 0 k) (opR R due &&& (fz ^^^ -1))) (M 9 0 k) k Rk → am_At am_X0 (d + 3) mX4_passHour 152 [some (.inr (28, 0)), some (.inr (39, 0)), some (am_I due), some (am_I fz), some (am_I (opR R due &&& (fz ^^^ -1))), some (am_I (nI k)), none, none] [] (am_hM h (am_row M 40 X)) (.inl (none, am_hM h (am_row M 40 (hourR M n V nb due fz R)))) := by
      intro X hX
      rw [hX]
      refine am_iinc dX4_passHour_152 rfl (am_i1 k) ?_
      change am_At _ _ _ 155 [_, _, _, _, _, _, _, _] [] _ _
      refine am_goto (-128) 27 dX4_passHour_155 rfl ?_
      exact ih
    have at71 : am_At am_X0 (d + 3) mX4_passHour 71 [some (.inr (28, 0)), some (.inr (39, 0)), some (am_I due), some (am_I fz), some (am_I (opR R due &&& (fz ^^^ -1))), some (am_I (nI k)), none, none] [] (am_hM h (am_row M 40 (r1R (M 9 0 k) k Rk))) (.inl (none, am_hM h (am_row M 40 (hourR M n V nb due fz R)))) := by
      generalize hR1 : r1R (M 9 0 k) k Rk = R1
      have hp1 : psd n R1 := by rw [← hR1]; exact hps.r1 hk4
      obtain ⟨pp, hpp, epp⟩ := hp1 k hk4
      refine am_aload_n dX4_passHour_71 rfl ?_
      refine am_iload dX4_passHour_72 rfl ?_
      refine am_callV [_] dX4_passHour_74 ml_X4_76 vm_X8_whereIs (sh_39 g) rfl (fun _ => Nat.le_of_ble_eq_true rfl) (by omega) rfl (evr_whereIsT (d := d + 2) (M := M) (R := R1) g hk4) rfl ?_
      change am_At _ _ _ 77 [_, _, _, _, _, _, _, _] [_] _ _
      refine am_iconst 1 (v := 1) dX4_passHour_77 (by decide) ?_
      refine am_icmp_ne (74) 152 dX4_passHour_78 rfl ?_ ?_
      · intro hc
        exact at152 R1 (by unfold barR; rw [hR1, if_neg hc])
      · intro hc
        have hbar : barR n V (letB M (M 8 0 k) (opR R due &&& (fz ^^^ -1))) (M 9 0 k) k Rk = r3R n V (letB M (M 8 0 k) (opR R due &&& (fz ^^^ -1))) k R1 := by unfold barR; rw [hR1, if_pos hc]
        have eon : onR n V (letB M (M 8 0 k) (opR R due &&& (fz ^^^ -1))) k R1 = ponE (letB M (M 8 0 k) (opR R due &&& (fz ^^^ -1))) n V pp := by unfold onR; rw [epp, nI_clamp (by omega)]
        have hon : ponE (letB M (M 8 0 k) (opR R due &&& (fz ^^^ -1))) n V pp ≤ n := ponE_le _ hpp
        have hge : pp ≤ ponE (letB M (M 8 0 k) (opR R due &&& (fz ^^^ -1))) n V pp := ponE_ge _
        have hlv : ponE (letB M (M 8 0 k) (opR R due &&& (fz ^^^ -1))) n V pp ≤ pp + V := ponE_leV _
        refine am_aload_n dX4_passHour_81 rfl ?_
        refine am_iload dX4_passHour_82 rfl ?_
        refine am_callV [_] dX4_passHour_84 ml_X4_88 vm_X8_passedBy (sh_39 g) rfl (fun _ => Nat.le_of_ble_eq_true rfl) (by omega) rfl (evr_passedByT (d := d + 2) (M := M) (R := R1) g hk4) rfl ?_
        change am_At _ _ _ 87 [_, _, _, _, _, _, _, _] [_] _ _
        rw [epp]
        refine am_istore dX4_passHour_87 (am_lb rfl) ?_
        change am_At _ _ _ 89 [_, _, _, _, _, _, _, _] [] _ _
        refine am_aload_n dX4_passHour_89 rfl ?_
        refine am_aload_n dX4_passHour_90 rfl ?_
        refine am_getR 4 0 3 dX4_passHour_91 fg_X4_9 (sh_28 g) (by decide) rfl (rf_28_0 g) ?_
        refine am_getR 1 6 8 dX4_passHour_94 fg_X4_91 (sh_3 g) (by decide) rfl (rf_3_6 g) ?_
        refine am_iload dX4_passHour_97 rfl ?_
        refine am_iald dX4_passHour_99 (am_ia.one (sh_8 g)) (vp_in_nI (by omega) (by omega)) ?_
        refine am_iload dX4_passHour_100 rfl ?_
        refine am_iload dX4_passHour_102 rfl ?_
        rw [hcl]
        refine am_callV [_, _, _] dX4_passHour_104 ml_X4_94 vm_X4_passedOn (sh_28 g) rfl (fun _ => Nat.le_of_ble_eq_true rfl) (by omega) rfl (ev_passedOn (d := d) (h := am_hM h (am_row M 40 R1)) (n := n) (V := V) (p := pp) (ms := M 8 0 k) (op := (opR R due &&& (fz ^^^ -1))) g hn hn16 hV hV4 hpp) rfl ?_
        change am_At _ _ _ 107 [_, _, _, _, _, _, _, _] [_] _ _
        change am_At _ _ _ _ _ [am_I (nI (ponE (letB M (M 8 0 k) (opR R due &&& (fz ^^^ -1))) n V pp))] _ _
        generalize ho : ponE (letB M (M 8 0 k) (opR R due &&& (fz ^^^ -1))) n V pp = o at eon hon hge hlv ⊢
        refine am_istore dX4_passHour_107 (am_lb rfl) ?_
        change am_At _ _ _ 109 [_, _, _, _, _, _, _, _] [] _ _
        refine am_aload_n dX4_passHour_109 rfl ?_
        refine am_iload dX4_passHour_110 rfl ?_
        refine am_iload dX4_passHour_112 rfl ?_
        refine am_callV [_, _] dX4_passHour_114 ml_X4_98 vm_X8_pass (sh_39 g) rfl (fun _ => Nat.le_of_ble_eq_true rfl) (by omega) rfl (evr_passT (d := d + 2) (M := M) (R := R1) (v := nI o) g hk4) rfl ?_
        change am_At _ _ _ 117 [_, _, _, _, _, _, _, _] [] _ _
        have at134 : am_At am_X0 (d + 3) mX4_passHour 134 [some (.inr (28, 0)), some (.inr (39, 0)), some (am_I due), some (am_I fz), some (am_I (opR R due &&& (fz ^^^ -1))), some (am_I (nI k)), some (am_I (nI pp)), some (am_I (nI o))] [] (am_hM h (am_row M 40 (r2R n V (letB M (M 8 0 k) (opR R due &&& (fz ^^^ -1))) k R1))) (.inl (none, am_hM h (am_row M 40 (hourR M n V nb due fz R)))) := by
          refine am_iload dX4_passHour_134 rfl ?_
          refine am_aload_n dX4_passHour_136 rfl ?_
          refine am_getR 4 0 3 dX4_passHour_137 fg_X4_9 (sh_28 g) (by decide) rfl (rf_28_0 g) ?_
          refine am_getI 1 0 dX4_passHour_140 fg_X4_25 (sh_3 g) (by decide) rfl ?_
          refine am_icmp_ne (9) 152 dX4_passHour_143 rfl ?_ ?_
          · intro hc
            have hc : ¬ nI o = M 3 0 0 := hc
            refine am_At.drop 6 (am_At.drop 7 ?_)
            change am_At _ _ _ 152 [_, _, _, _, _, _, none, none] [] _ _
            exact at152 _ (by rw [hbar]; unfold r3R; rw [eon, if_neg (fun z => hc (by rw [hn, z]))])
          · intro hc
            have hc : nI o = M 3 0 0 := hc
            refine am_aload_n dX4_passHour_146 rfl ?_
            refine am_iload dX4_passHour_147 rfl ?_
            refine am_callV [_] dX4_passHour_149 ml_X4_108 vm_X8_leave (sh_39 g) rfl (fun _ => Nat.le_of_ble_eq_true rfl) (by omega) rfl (evr_leaveT (d := d + 1) (M := M) (R := r2R n V (letB M (M 8 0 k) (opR R due &&& (fz ^^^ -1))) k R1) g hk4) rfl ?_
            change am_At _ _ _ 152 [_, _, _, _, _, _, _, _] [] _ _
            refine am_At.drop 6 (am_At.drop 7 ?_)
            change am_At _ _ _ 152 [_, _, _, _, _, _, none, none] [] _ _
            exact at152 _ (by rw [hbar]; unfold r3R; rw [eon, if_pos (by rw [hn] at hc; exact (nI_eq (by omega) (by omega)).mp hc)])
        refine am_aload_n dX4_passHour_117 rfl ?_
        refine am_iload dX4_passHour_118 rfl ?_
        refine am_iload dX4_passHour_120 rfl ?_
        refine am_callV [_, _] dX4_passHour_122 ml_X4_102 vm_X4_hasKnocked (sh_28 g) rfl (fun _ => Nat.le_of_ble_eq_true rfl) (by omega) rfl (ev_X4_hasKnocked (d := d + 2) (h := am_hM h (am_row M 40 (upd R1 (39 + k) (nI o)))) (a0 := nI pp) (a1 := nI o) g) rfl ?_
        change am_At _ _ _ 125 [_, _, _, _, _, _, _, _] [_] _ _
        change am_At _ _ _ _ _ [am_I (if M 3 0 0 ≤ nI o then (0 : Int32) else (if M 3 0 12 ≤ nI o - nI pp then (0 : Int32) else (1 : Int32)))] _ _
        have ek : (if M 3 0 0 ≤ nI o then (0 : Int32) else (if M 3 0 12 ≤ nI o - nI pp then (0 : Int32) else (1 : Int32))) = if o < n ∧ o < pp + V then 1 else 0 := by
          rw [hn, hV, pk_sub hge]
          by_cases c1 : n ≤ o
          · rw [if_pos (nI_le c1 (by omega)), if_neg (by omega)]
          · rw [if_neg (nI_ge (by omega) (by omega))]
            by_cases c2 : V ≤ o - pp
            · rw [if_pos (nI_le c2 (by omega)), if_neg (by omega)]
            · rw [if_neg (nI_ge (by omega) (by omega)), if_pos (by omega)]
        rw [ek]
        refine am_if_eq (9) 134 dX4_passHour_125 rfl ?_ ?_
        · intro hc
          have hk0 : ¬ (o < n ∧ o < pp + V) := fun z => by rw [if_pos z] at hc; exact absurd hc (by decide)
          have e2 : r2R n V (letB M (M 8 0 k) (opR R due &&& (fz ^^^ -1))) k R1 = upd R1 (39 + k) (nI o) := by unfold r2R; rw [eon, epp, nI_clamp (by omega), if_neg hk0]
          rw [e2] at at134
          exact at134
        · intro hc
          have hk0 : o < n ∧ o < pp + V := by
            by_cases z : o < n ∧ o < pp + V
            · exact z
            · rw [if_neg z] at hc; exact absurd rfl hc
          have e2 : r2R n V (letB M (M 8 0 k) (opR R due &&& (fz ^^^ -1))) k R1 = upd (upd R1 (39 + k) (nI o)) (19 + o) (upd R1 (39 + k) (nI o) (19 + o) + 1) := by unfold r2R; rw [eon, epp, nI_clamp (by omega), if_pos hk0]
          refine am_aload_n dX4_passHour_128 rfl ?_
          refine am_iload dX4_passHour_129 rfl ?_
          refine am_callV [_] dX4_passHour_131 ml_X4_105 vm_X8_knock (sh_39 g) rfl (fun _ => Nat.le_of_ble_eq_true rfl) (by omega) rfl (evr_knockT (d := d + 2) (M := M) (R := upd R1 (39 + k) (nI o)) (k := o) g (by omega)) rfl ?_
          change am_At _ _ _ 134 [_, _, _, _, _, _, _, _] [] _ _
          rw [e2] at at134
          exact at134
    refine am_iload dX4_passHour_27 rfl ?_
    refine am_aload_n dX4_passHour_29 rfl ?_
    refine am_getR 4 0 3 dX4_passHour_30 fg_X4_9 (sh_28 g) (by decide) rfl (rf_28_0 g) ?_
    refine am_getI 1 5 dX4_passHour_33 fg_X4_73 (sh_3 g) (by decide) rfl ?_
    refine am_icmp_geF (122) 158 dX4_passHour_36 rfl (by show ¬ M 3 0 5 ≤ _; rw [hb]; exact nI_ge hk (by omega)) ?_
    refine am_aload_n dX4_passHour_39 rfl ?_
    refine am_iload dX4_passHour_40 rfl ?_
    refine am_callV [_] dX4_passHour_42 ml_X4_76 vm_X8_whereIs (sh_39 g) rfl (fun _ => Nat.le_of_ble_eq_true rfl) (by omega) rfl (evr_whereIsT (d := d + 2) (M := M) (R := Rk) g hk4) rfl ?_
    change am_At _ _ _ 45 [_, _, _, _, _, _, _, _] [_] _ _
    refine am_if_ne (26) 71 dX4_passHour_45 rfl ?_ ?_
    · intro hc
      have e1 : r1R (M 9 0 k) k Rk = Rk := by unfold r1R; rw [if_neg hc]
      rw [e1] at at71
      exact at71
    · intro hc
      refine am_aload_n dX4_passHour_48 rfl ?_
      refine am_getR 4 0 3 dX4_passHour_49 fg_X4_9 (sh_28 g) (by decide) rfl (rf_28_0 g) ?_
      refine am_getR 1 7 9 dX4_passHour_52 fg_X4_79 (sh_3 g) (by decide) rfl (rf_3_7 g) ?_
      refine am_iload dX4_passHour_55 rfl ?_
      refine am_iald dX4_passHour_57 (am_ia.one (sh_9 g)) (vp_in_nI (by omega) (by omega)) ?_
      refine am_aload_n dX4_passHour_58 rfl ?_
      refine am_callV [] dX4_passHour_59 ml_X4_82 vm_X8_hour (sh_39 g) rfl (fun _ => Nat.le_of_ble_eq_true rfl) (by omega) rfl (evr_hourT (d := d + 2) (M := M) (R := Rk) g) rfl ?_
      change am_At _ _ _ 62 [_, _, _, _, _, _, _, _] [_, _] _ _
      change am_At _ _ _ _ _ [_, am_I (M 9 0 (nI k).toNatClampNeg)] _ _
      rw [hcl]
      refine am_icmp_ne (9) 71 dX4_passHour_62 rfl ?_ ?_
      · intro hc1
        have e1 : r1R (M 9 0 k) k Rk = Rk := by unfold r1R; rw [if_pos hc, if_neg hc1]
        rw [e1] at at71
        exact at71
      · intro hc1
        refine am_aload_n dX4_passHour_65 rfl ?_
        refine am_iload dX4_passHour_66 rfl ?_
        refine am_callV [_] dX4_passHour_68 ml_X4_85 vm_X8_come (sh_39 g) rfl (fun _ => Nat.le_of_ble_eq_true rfl) (by omega) rfl (evr_comeT (d := d + 2) (M := M) (R := Rk) g hk4) rfl ?_
        change am_At _ _ _ 71 [_, _, _, _, _, _, _, _] [] _ _
        have e1 : r1R (M 9 0 k) k Rk = upd Rk (35 + k) 1 := by unfold r1R; rw [if_pos hc, if_pos hc1]
        rw [e1] at at71
        exact at71
