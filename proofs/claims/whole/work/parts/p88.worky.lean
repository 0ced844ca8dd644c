/-! work: the call -/
def aWn (K : List Rc) (M : Mem) : Mem := fun c r j => if c = 71 then (if j = 0 then nI (K.getD (r - 1) (0, 0, 0)).1 else if j = 1 then nI (K.getD (r - 1) (0, 0, 0)).2.1 else nI (r - 1 + (K.getD (r - 1) (0, 0, 0)).2.2)) else (am_u3 (am_u3 (am_u3 M 54 0 40 0) 54 0 41 0) 54 0 36 0) c r j
theorem aWn_c {K : List Rc} {M : Mem} {c : Nat} (h1 : c ≠ 71) (h2 : c ≠ 54) : aWn K M c = M c := by
  funext r j
  unfold aWn
  rw [if_neg h1, u3_c h2, u3_c h2, u3_c h2]
theorem aWn_j {K : List Rc} {M : Mem} {j : Nat} (h1 : j ≠ 36) (h2 : j ≠ 40) (h3 : j ≠ 41) : aWn K M 54 0 j = M 54 0 j := by
  unfold aWn
  rw [if_neg (by decide), u3_j (fun z => h1 z.2), u3_j (fun z => h3 z.2), u3_j (fun z => h2 z.2)]
/-- the class alone -/
theorem c_runs {qc qd : Nat} {K : List Rc} {M : Mem} (hb : base qc M) (h39 : M 54 0 39 = 0) (hs : SRk (nB M) (nG M) (M 30 0) (M 72 0)) (hK : Blk (nB M) 6 K) (hl : K.length ≤ 70) (hA : AP 0 K M) : ∃ M7, f_X9_runRow qc qd 0 (nI K.length) (am_u3 (am_u3 (am_u3 M 34 0 4 0) 34 0 5 0) 34 0 6 0) = some M7 ∧ cfr M M7 := by
  have c6 : ∀ c, c ≠ 34 → (am_u3 (am_u3 (am_u3 M 34 0 4 0) 34 0 5 0) 34 0 6 0) c = M c := fun c hc => by rw [u3_c hc, u3_c hc, u3_c hc]
  have f6 : cfr M (am_u3 (am_u3 (am_u3 M 34 0 4 0) 34 0 5 0) 34 0 6 0) := fr_u3 (fr_u3 (fr_u3 fr_rfl (by decide)) (by decide)) (by decide)
  have z4 : (am_u3 (am_u3 (am_u3 M 34 0 4 0) 34 0 5 0) 34 0 6 0) 34 0 4 = nI 0 := by rw [u3_j (by omega), u3_j (by omega), u3_e]; rfl
  have z5 : (am_u3 (am_u3 (am_u3 M 34 0 4 0) 34 0 5 0) 34 0 6 0) 34 0 5 = 0 := by rw [u3_j (by omega), u3_e]
  have z6 : (am_u3 (am_u3 (am_u3 M 34 0 4 0) 34 0 5 0) 34 0 6 0) 34 0 6 = 0 := by rw [u3_e]
  generalize am_u3 (am_u3 (am_u3 M 34 0 4 0) 34 0 5 0) 34 0 6 0 = M6 at c6 f6 z4 z5 z6
  have e3 : M6 3 = M 3 := c6 3 (by decide)
  have nb71 : ∀ c, c ∈ bCells → c ≠ 71 ∧ c ≠ 54 ∧ c ≠ 34 := by decide
  have W : WR qc M6 (aWn K M) := by
    refine ⟨⟨base_c hb (fun c hc => c6 c (nb71 c hc).2.2) (by rw [c6 54 (by decide)]), fun c hc => ?_, ?_, ?_, ?_⟩, ⟨0, by decide, z4, ?_⟩, ?_, ?_⟩
    · rw [aWn_c (nb71 c hc).1 (nb71 c hc).2.1, c6 c (nb71 c hc).2.2]
    · rw [aWn_j (by decide) (by decide) (by decide), c6 54 (by decide)]
    · rw [aWn_j (by decide) (by decide) (by decide)]; exact h39
    · rw [nB_fr e3, nG_fr e3, c6 30 (by decide), aWn_c (by decide) (by decide)]; exact hs
    · unfold aWn
      rw [if_neg (by decide), u3_j (by omega), u3_j (by omega), u3_e]; rfl
    · unfold aWn
      rw [z5, if_neg (by decide), u3_j (by omega), u3_e]
    · unfold aWn
      rw [z6, if_neg (by decide), u3_e]
  have L : LA 0 K M6 (aWn K M) := by
    intro i hi
    refine ⟨?_, ?_, fun _ => ?_, ?_⟩
    · rw [c6 35 (by decide), c6 36 (by decide), c6 37 (by decide)]; exact hA.2 i hi
    · unfold aWn
      rw [if_pos rfl, if_pos rfl, Nat.zero_add, Nat.add_sub_cancel]
    · unfold aWn
      rw [if_pos rfl, if_neg (by decide), if_pos rfl, Nat.zero_add, Nat.add_sub_cancel]
    · unfold aWn
      rw [if_pos rfl, if_neg (by decide), if_neg (by decide), Nat.zero_add, Nat.add_sub_cancel]
  obtain ⟨M7, N7, r1, -, -, r4, -⟩ := runAll (qd := qd) hK hl (nB_fr e3) W L
  exact ⟨M7, r1, fr_tr f6 r4⟩
def cW : List Nat := [0, 1, 26, 27, 30, 31, 32, 34, 35, 36, 37, 38]
theorem t_work {qc qs qd : Nat} {x : Int32} {M : Mem} (h : Rel qc qs M) (h39 : M 54 0 39 = 0) : ok (f_X11_work qc qd x M) (fun r => ok (f_X12_work x r.2) (fun r' => ans1 r.1 r'.1 (r'.2 54 0 0) ∧ Rel qc qs r'.2 ∧ r'.2 54 0 39 = 0)) := by
  obtain ⟨t, t1, t2, t3, t4⟩ := R_tx h
  by_cases hx : x < 0 ∨ nI (min t 150) < x
  · unfold f_X11_work
    refine ok_bindE (tkF (m := 150) t2 t1 (by decide) hx) (ok_some ?_)
    show ok (f_X12_work x (am_u3 M 0 0 14 (M 0 0 14 + 1))) _
    have e54 : (am_u3 M 0 0 14 (M 0 0 14 + 1)) 54 0 1 = nI t := t3
    have r39 : RM 14 1 M 54 0 39 = 0 := by
      unfold RM
      rw [u3_c (by decide), u3_j (by omega), u3_j (by omega), u3_c (by decide)]; exact h39
    have fin : ans1 (Sum.inr IAE) 0 (RM 14 1 M 54 0 0) ∧ Rel qc qs (RM 14 1 M) ∧ RM 14 1 M 54 0 39 = 0 := ⟨⟨rfl, RM_t 14 1 M⟩, Rel_RM (k := 14) (Or.inr rfl) h, r39⟩
    unfold f_X12_work
    by_cases h1 : x < 0 ∨ nI t < x
    · exact ok_ifp ((in_t e54).mpr h1) (ok_bindE (bad14 M (by decide)) (ok_ifn (by decide) (ok_some fin)))
    · obtain ⟨a, rfl, ha⟩ := args (n := t) rfl (by omega) h1
      have ha2 : 150 < a := by
        rcases hx with z | z
        · exact absurd z (nI_pos (by omega))
        · rw [nI_ltI (by omega) (by omega)] at z; omega
      exact ok_ifn (fun z => h1 ((in_t e54).mp z)) (ok_ifn (show ¬ nI a ≤ 150 from nI_ge (a := 150) ha2 (by omega)) (ok_bindE (bad14 M (by decide)) (ok_ifn (by decide) (ok_some fin))))
  · obtain ⟨n, rfl, hnt⟩ := args (n := min t 150) rfl (by omega) hx
    have s0 := c_take h t1 t2 (show n ≤ t by omega)
    have f0 := tkM_f (nI n) M
    obtain ⟨w, m, w1, m1, e31, e35, e313, e37, pw, pm⟩ := h.2.2.2.2.2.2.1
    unfold f_X11_work
    refine ok_bindE (tkT (m := 150) t2 t1 (by decide) hnt) ?_
    have hB := R_n16 h
    by_cases hw : w < 16
    · have full : f_X7_isFull (tkM (nI n) M) = 0 := by
        unfold f_X7_isFull
        rw [f0 31 (by decide), e31, if_pos (show nI w < 16 from nI_lt (b := 16) hw (by decide))]
      refine ok_ifp full ?_
      have e3 : (tkM (nI n) M) 3 0 0 = nI (nB M) := by rw [f0 3 (by decide)]; exact R_eB h
      dsimp only
      rw [e3]
      refine ok_bind (c_workR (by omega) hB s0) ?_
      rintro M3 ⟨f3, t03, l3⟩
      have F3 : fr [1, 34, 35, 36, 37] M M3 := fr_tr (fr_mono f0 (by decide)) f3
      generalize hX : wkP (txT M) n (nB M) = X at l3
      rcases X with ⟨e, K⟩ | f
      · obtain ⟨s3, a3⟩ := l3
        obtain ⟨kl, kb⟩ := wk_ok hX
        refine ok_ifp (fty0 s3) ?_
        -- the PAST is kept
        have keep : f_X7_keep M3 = some (am_u3 (am_cp M3 30 0 0 32 0 (47 * w) 47) 31 0 1 (nI (w + 1))) := by
          have e31' : M3 31 0 1 = nI w := by rw [F3 31 (by decide)]; exact e31
          have mul : nI w * 47 = nI (47 * w) := by
            have : ∀ w, w < 16 → nI w * 47 = nI (47 * w) := by decide +kernel
            exact this w hw
          unfold f_X7_keep f_X7_isFull f_X8_writeTo_p
          rw [e31', if_pos (show nI w < 16 from nI_lt (b := 16) hw (by decide)), if_pos rfl, mul, if_pos (nI_pos (by omega)), nI_clamp (show 47 * w < 2 ^ 31 by omega), if_pos (show 47 * w + (47 : Int32).toNatClampNeg ≤ 752 by have : (47 : Int32).toNatClampNeg = 47 := rfl; omega)]
          show some (am_u3 (am_cp M3 30 0 0 32 0 (47 * w) 47) 31 0 1 ((am_cp M3 30 0 0 32 0 (47 * w) 47) 31 0 1 + 1)) = _
          rw [cp_c (by decide), e31', nI_1]
        refine ok_bindE keep ?_
        have F5 : fr [1, 31, 32, 34, 35, 36, 37] M (am_u3 (am_cp M3 30 0 0 32 0 (47 * w) 47) 31 0 1 (nI (w + 1))) := fr_u3 (fr_cp (fr_mono F3 (by decide)) (by decide)) (by decide)
        have G5 : ∀ c, c ≠ 31 → c ≠ 32 → (am_u3 (am_cp M3 30 0 0 32 0 (47 * w) 47) 31 0 1 (nI (w + 1))) c = M3 c := fun c a b => by rw [u3_c a, cp_c b]
        have x31 : (am_u3 (am_cp M3 30 0 0 32 0 (47 * w) 47) 31 0 1 (nI (w + 1))) 31 0 1 = nI (w + 1) := u3_e _ _ _ _ _
        have x313 : (am_u3 (am_cp M3 30 0 0 32 0 (47 * w) 47) 31 0 1 (nI (w + 1))) 31 0 3 = nI m := by rw [u3_j (by omega), cp_c (by decide), F3 31 (by decide)]; exact e313
        have x32 : ∀ j, (am_u3 (am_cp M3 30 0 0 32 0 (47 * w) 47) 31 0 1 (nI (w + 1))) 32 0 j = if 47 * w ≤ j ∧ j < 47 * w + 47 then M 30 0 (j - 47 * w) else M 32 0 j := fun j => by
          rw [u3_c (by decide), cp_j, F3 30 (by decide), F3 32 (by decide), Nat.zero_add]
        generalize am_u3 (am_cp M3 30 0 0 32 0 (47 * w) 47) 31 0 1 (nI (w + 1)) = M5 at F5 G5 x31 x313 x32
        have sb5 : ∀ c, c ∈ bCells → c ∉ [1, 31, 32, 34, 35, 36, 37] := by decide
        have hb5 : base qc M5 := base_c h.1 (fun c hc => F5 c (sb5 c hc)) (by rw [F5 54 (by decide)])
        have e35' : M5 3 = M 3 := F5 3 (by decide)
        have hs5 : SRk (nB M5) (nG M5) (M5 30 0) (M5 72 0) := by rw [nB_fr e35', nG_fr e35', F5 30 (by decide), F5 72 (by decide)]; exact h.2.2.2.2.2.1
        have a5 : AP 0 K M5 := by
          unfold AP at *
          rw [G5 34 (by decide) (by decide), G5 35 (by decide) (by decide), G5 36 (by decide) (by decide), G5 37 (by decide) (by decide)]; exact a3
        have h395 : M5 54 0 39 = 0 := by rw [F5 54 (by decide)]; exact h39
        have kb5 : Blk (nB M5) 6 K := by rw [nB_fr e35']; exact kb
        have kl70 : K.length ≤ 70 := by omega
        obtain ⟨M7, r7, f7⟩ := c_runs (qd := qd) hb5 h395 hs5 kb5 kl70 a5
        unfold f_X9_run
        have e34 : M5 34 0 3 = nI K.length := a5.1.trans (by rw [Nat.zero_add])
        rw [e34, r7]
        refine ok_some ?_
        show ok (f_X12_work (nI n) (am_u3 (am_u3 M7 0 0 12 (M7 34 0 6)) 38 0 5 0)) (fun r' => ans1 (Sum.inl (M7 34 0 5)) r'.1 (r'.2 54 0 0) ∧ Rel qc qs r'.2 ∧ r'.2 54 0 39 = 0)
        have F7 : fr cW M M7 := fr_tr (fr_mono F5 (by decide)) (fr_mono f7 (by decide))
        have Fc : fr cW M (am_u3 (am_u3 M7 0 0 12 (M7 34 0 6)) 38 0 5 0) := fr_u3 (fr_u3 F7 (by decide)) (by decide)
        have y0 : (am_u3 (am_u3 M7 0 0 12 (M7 34 0 6)) 38 0 5 0) 0 0 12 = M7 34 0 6 := by rw [u3_c (by decide), u3_e]
        have y0j : ∀ j, j ≠ 12 → (am_u3 (am_u3 M7 0 0 12 (M7 34 0 6)) 38 0 5 0) 0 0 j = M 0 0 j := fun j hj => by
          rw [u3_c (by decide), u3_j (fun z => hj z.2), f7 0 (by decide), F5 0 (by decide)]
        have y38 : (am_u3 (am_u3 M7 0 0 12 (M7 34 0 6)) 38 0 5 0) 38 0 5 = 0 := u3_e _ _ _ _ _
        have yc : ∀ c, c ≠ 0 → c ≠ 38 → (am_u3 (am_u3 M7 0 0 12 (M7 34 0 6)) 38 0 5 0) c = M7 c := fun c a b => by rw [u3_c b, u3_c a]
        generalize am_u3 (am_u3 M7 0 0 12 (M7 34 0 6)) 38 0 5 0 = Mc at Fc y0 y0j y38 yc
        refine m_workP (T := txT M) (t := t) (nb := nB M) (w := w) t1 (by rw [Fc 54 (by decide)]; exact t3) hnt (fun j hj => ?_) (by rw [Fc 54 (by decide)]; exact e35) hw (by rw [Fc 58 (by decide)]; exact R_mB h) hB ?_ ?_
        · rw [Fc 55 (by decide)]
          have := t4 j (by omega)
          exact ⟨this.1, this.2.1⟩
        · intro e' K' N1 hX' fN kN n0 n1 n3 n35 n36 n40 n41 n75 n75' aq
          rw [hX] at hX'
          injection hX' with hX'
          obtain ⟨-, rfl⟩ := Prod.mk.inj hX'
          have FN : ∀ c, c ∉ cW → c ∉ [54, 71, 75] → N1 c = M c := fun c a b => by rw [fN c b, Fc c a]
          have sbN : ∀ c, c ∈ bCells → c ∉ cW ∧ c ∉ [54, 71, 75] ∧ c ∉ [1, 31, 32, 34, 35, 36, 37] ∧ c ≠ 34 := by decide
          have c6 : ∀ c, c ≠ 34 → (am_u3 (am_u3 (am_u3 M5 34 0 4 0) 34 0 5 0) 34 0 6 0) c = M5 c := fun c hc => by rw [u3_c hc, u3_c hc, u3_c hc]
          have f6 : cfr M5 (am_u3 (am_u3 (am_u3 M5 34 0 4 0) 34 0 5 0) 34 0 6 0) := fr_u3 (fr_u3 (fr_u3 fr_rfl (by decide)) (by decide)) (by decide)
          have z4 : (am_u3 (am_u3 (am_u3 M5 34 0 4 0) 34 0 5 0) 34 0 6 0) 34 0 4 = nI 0 := by rw [u3_j (by omega), u3_j (by omega), u3_e]; rfl
          have z5 : (am_u3 (am_u3 (am_u3 M5 34 0 4 0) 34 0 5 0) 34 0 6 0) 34 0 5 = 0 := by rw [u3_j (by omega), u3_e]
          have z6 : (am_u3 (am_u3 (am_u3 M5 34 0 4 0) 34 0 5 0) 34 0 6 0) 34 0 6 = 0 := by rw [u3_e]
          generalize am_u3 (am_u3 (am_u3 M5 34 0 4 0) 34 0 5 0) 34 0 6 0 = M6 at c6 f6 z4 z5 z6 r7
          have e36 : M6 3 = M5 3 := c6 3 (by decide)
          have k19 : N1 54 0 19 = M 54 0 19 := by rw [kN 19 (by decide), Fc 54 (by decide)]
          have k39 : N1 54 0 39 = 0 := by rw [kN 39 (by decide), Fc 54 (by decide)]; exact h39
          have W : WR qc M6 N1 := by
            refine ⟨⟨base_c hb5 (fun c hc => c6 c (sbN c hc).2.2.2) (by rw [c6 54 (by decide)]), fun c hc => ?_, ?_, k39, ?_⟩, ⟨0, by decide, z4, n40⟩, by rw [z5, n41], by rw [z6, n36]⟩
            · rw [FN c (sbN c hc).1 (sbN c hc).2.1, c6 c (sbN c hc).2.2.2, F5 c (sbN c hc).2.2.1]
            · rw [k19, c6 54 (by decide), F5 54 (by decide)]
            · rw [nB_fr e36, nG_fr e36, c6 30 (by decide), FN 72 (by decide) (by decide), ← F5 72 (by decide)]; exact hs5
          have L : LA 0 K M6 N1 := by
            intro i hi
            refine ⟨?_, aq.2 i hi⟩
            rw [c6 35 (by decide), c6 36 (by decide), c6 37 (by decide)]; exact a5.2 i hi
          obtain ⟨M7', N7, r1, r2, W7, -, b7⟩ := runAll (qd := qd) kb5 kl70 (nB_fr e36) W L
          rw [r7] at r1
          injection r1 with r1
          subst r1
          refine ok_bindE r2 (ok_some ⟨⟨?_, ?_⟩, ?_, ?_⟩)
          · show N7 54 0 0 = 0
            rw [b7.2 0 (by decide)]; exact n0
          · show M7 34 0 5 = N7 54 0 41
            exact W7.2.2.1
          · show Rel qc qs N7
            have EN : ∀ c, c ∉ [54, 69, 70, 72, 74] → N7 c = N1 c := b7.1
            have EM : ∀ c, c ∉ cW → c ∉ [54, 71, 75] → c ∉ [54, 69, 70, 72, 74] → N7 c = M c := fun c a b d => by rw [EN c d, FN c a b]
            have E7 : ∀ c, c ≠ 0 → c ≠ 38 → c ∉ [54, 71, 75] → c ∉ [54, 69, 70, 72, 74] → N7 c = M7 c := fun c a b d e => by rw [EN c e, fN c d, yc c a b]
            have sg : ∀ c, c ∈ gCells → c ∉ cW ∧ c ∉ [54, 71, 75] ∧ c ∉ [54, 69, 70, 72, 74] := by decide
            have e54 : ∀ j, j ∉ kW → N7 54 0 j = M 54 0 j := fun j hj => by
              rw [b7.2 j (fun z => hj ((by decide : ∀ j, j ∈ [36, 40, 41] → j ∈ kW) j z)), kN j hj, Fc 54 (by decide)]
            have q3 : M7 3 = M 3 := F7 3 (by decide)
            refine Rel_gen h (fun c hc => EM c (sg c hc).1 (sg c hc).2.1 (sg c hc).2.2) (e54 19 (by decide)) (e54 34 (by decide)) (by rw [EM 45 (by decide) (by decide) (by decide)]) ?_ ?_ ?_ ?_ (cch_0 ?_)
            · refine rT_0 ?_ ?_ ?_
              · rw [E7 1 (by decide) (by decide) (by decide) (by decide), f7 1 (by decide), G5 1 (by decide) (by decide)]; exact t03
              · rw [b7.2 1 (by decide)]; exact n1
              · rw [E7 1 (by decide) (by decide) (by decide) (by decide), f7 1 (by decide), G5 1 (by decide) (by decide), b7.2 3 (by decide), n3]; exact s3.2.2.2.2
            · have hcn := h.2.2.2.2.1
              refine ⟨?_, ?_, ?_⟩
              · rw [EN 0 (by decide), fN 0 (by decide), y0]; exact W7.2.2.2
              · rw [EN 0 (by decide), fN 0 (by decide), y0j 13 (by decide), EM 56 (by decide) (by decide) (by decide)]; exact hcn.2.1
              · rw [EN 0 (by decide), fN 0 (by decide), y0j 14 (by decide), EM 56 (by decide) (by decide) (by decide)]; exact hcn.2.2
            · have := W7.1.2.2.2.2
              rw [nB_fr q3, nG_fr q3] at this
              rw [E7 30 (by decide) (by decide) (by decide) (by decide)]; exact this
            · have N3 : N7 3 = M 3 := EM 3 (by decide) (by decide) (by decide)
              unfold rPast
              rw [nB_fr N3, nG_fr N3, E7 31 (by decide) (by decide) (by decide) (by decide), E7 32 (by decide) (by decide) (by decide) (by decide), f7 31 (by decide), f7 32 (by decide), EM 33 (by decide) (by decide) (by decide), EN 75 (by decide), EM 76 (by decide) (by decide) (by decide)]
              refine ⟨w + 1, m, by omega, m1, x31, ?_, x313, ?_, fun i hi => ?_, pm⟩
              · rw [b7.2 35 (by decide)]; exact n35
              · rw [e54 37 (by decide)]; exact e37
              · have hg4 := h.1.2.2.2.1.2.1.2
                by_cases e : i = w
                · subst e
                  refine SRk_cong hB hg4 h.2.2.2.2.2.1 (fun j hj => ?_) (fun j hj => ?_)
                  · rw [x32, if_pos (by omega), show 47 * i + j - 47 * i = j by omega]
                  · rw [n75 j hj, Fc 72 (by decide)]
                · refine SRk_cong hB hg4 (pw i (by omega)) (fun j hj => ?_) (fun j hj => ?_)
                  · rw [x32, if_neg (by omega)]
                  · rw [n75' (i + 1) (by omega), Fc 75 (by decide)]
            · rw [EN 38 (by decide), fN 38 (by decide)]; exact y38
          · show N7 54 0 39 = 0
            rw [b7.2 39 (by decide)]; exact k39
        · intro f N1 hX' _ _ _ _ _
          rw [hX] at hX'; cases hX'
      · have l3' : CF (txT M) n f.1 f.2 M3 := l3
        refine ok_ifn (fty1 l3') (ok_some ?_)
        show ok (f_X12_work (nI n) M3) (fun r' => ans1 (Sum.inl (M3 1 0 5 - 10)) r'.1 (r'.2 54 0 0) ∧ Rel qc qs r'.2 ∧ r'.2 54 0 39 = 0)
        refine m_workP (T := txT M) (t := t) (nb := nB M) (w := w) t1 (by rw [F3 54 (by decide)]; exact t3) hnt (fun j hj => ?_) (by rw [F3 54 (by decide)]; exact e35) hw (by rw [F3 58 (by decide)]; exact R_mB h) hB ?_ ?_
        · rw [F3 55 (by decide)]
          have := t4 j (by omega)
          exact ⟨this.1, this.2.1⟩
        · intro e' K' N1 hX' _ _ _ _ _ _ _ _ _ _ _ _
          rw [hX] at hX'; cases hX'
        · intro f' N1 hX' fN kN n0 n1 n3
          rw [hX] at hX'
          injection hX' with hX'
          subst hX'
          have EM : ∀ c, c ∉ [1, 34, 35, 36, 37] → c ∉ [54, 71] → N1 c = M c := fun c a b => by rw [fN c b, F3 c a]
          refine ⟨⟨n0, ?_⟩, ?_, ?_⟩
          · show M3 1 0 5 - 10 = _
            rw [l3'.2.2.1]
          · show Rel qc qs N1
            have st : ∀ c, c ∈ tC → c ∉ [1, 34, 35, 36, 37] ∧ c ∉ [54, 71] := by decide
            refine Rel_txt h (fun c hc => EM c (st c hc).1 (st c hc).2) ?_ ?_ ?_ ?_ (fun j hj => ?_) ?_ (rT_0 ?_ n1 ?_)
            · rcases h.1.1 with rfl | rfl <;> exact EM _ (by decide) (by decide)
            · rcases h.2.1 with rfl | rfl <;> exact EM _ (by decide) (by decide)
            · rw [EM 23 (by decide) (by decide)]
            · rw [EM 23 (by decide) (by decide)]
            · rw [kN j ((by decide : ∀ j, j ∈ t54 → j ∉ [0, 1, 2, 3, 4, 5, 6, 7, 8, 28]) j hj), F3 54 (by decide)]
            · rw [EM 45 (by decide) (by decide)]
            · rw [fN 1 (by decide)]; exact t03
            · rw [fN 1 (by decide), n3]; exact l3'.2.2.2.2
          · show N1 54 0 39 = 0
            rw [kN 39 (by decide), F3 54 (by decide)]; exact h39
    · have w16 : w = 16 := by omega
      subst w16
      have full : ¬ f_X7_isFull (tkM (nI n) M) = 0 := by
        unfold f_X7_isFull
        rw [f0 31 (by decide), e31, if_neg (by decide)]; decide
      refine ok_ifn full (ok_some ?_)
      show ok (f_X12_work (nI n) (tkM (nI n) M)) (fun r' => ans1 (Sum.inl (-20)) r'.1 (r'.2 54 0 0) ∧ Rel qc qs r'.2 ∧ r'.2 54 0 39 = 0)
      have e54 : (tkM (nI n) M) 54 = M 54 := f0 54 (by decide)
      unfold f_X12_work
      have i1 : ¬ f_X12_in (nI n) 0 ((tkM (nI n) M) 54 0 1) = 0 := by
        rw [e54, in_t t3]
        rintro (z | z)
        · exact nI_pos (by omega) z
        · rw [nI_ltI (by omega) (by omega)] at z; omega
      have is16 : (M0 (tkM (nI n) M)) 54 0 35 = 16 := by rw [M0_j (by decide), e54]; exact e35
      refine ok_ifn i1 (ok_ifp (show nI n ≤ 150 from nI_le (b := 150) (by omega) (by decide)) (ok_bindE (badM0 _ _ _) (ok_ifp rfl (ok_ifp is16 (ok_some ?_)))))
      have cc : ∀ c, c ≠ 54 → (am_u3 (am_u3 (M0 (tkM (nI n) M)) 54 0 1 0) 54 0 3 (-1)) c = (tkM (nI n) M) c := fun c hc => by rw [u3_c hc, u3_c hc, M0_cc hc]
      have cj : ∀ j, j ≠ 0 → j ≠ 1 → j ≠ 3 → (am_u3 (am_u3 (M0 (tkM (nI n) M)) 54 0 1 0) 54 0 3 (-1)) 54 0 j = M 54 0 j := fun j a b d => by rw [u3_j (fun z => d z.2), u3_j (fun z => b z.2), M0_j a, e54]
      have EM : ∀ c, c ≠ 1 → c ≠ 54 → (am_u3 (am_u3 (M0 (tkM (nI n) M)) 54 0 1 0) 54 0 3 (-1)) c = M c := fun c a b => by rw [cc c b, f0 c (by simpa using a)]
      refine ⟨⟨?_, rfl⟩, ?_, cj 39 (by decide) (by decide) (by decide) |>.trans h39⟩
      · show (am_u3 (am_u3 (M0 (tkM (nI n) M)) 54 0 1 0) 54 0 3 (-1)) 54 0 0 = 0
        rw [u3_j (by omega), u3_j (by omega)]; exact M0_t _
      · show Rel qc qs (am_u3 (am_u3 (M0 (tkM (nI n) M)) 54 0 1 0) 54 0 3 (-1))
        have st : ∀ c, c ∈ tC → c ≠ 1 ∧ c ≠ 54 := by decide
        have sj : ∀ j, j ∈ t54 → j ≠ 0 ∧ j ≠ 1 ∧ j ≠ 3 := by decide
        refine Rel_txt h (fun c hc => EM c (st c hc).1 (st c hc).2) ?_ ?_ ?_ ?_ (fun j hj => cj j (sj j hj).1 (sj j hj).2.1 (sj j hj).2.2) ?_ (rT_0 ?_ ?_ ?_)
        · rcases h.1.1 with rfl | rfl <;> exact EM _ (by decide) (by decide)
        · rcases h.2.1 with rfl | rfl <;> exact EM _ (by decide) (by decide)
        · rw [EM 23 (by decide) (by decide)]
        · rw [EM 23 (by decide) (by decide)]
        · rw [EM 45 (by decide) (by decide)]
        · rw [cc 1 (by decide)]; exact s0.1.2.2.1
        · rw [u3_j (by omega), u3_e]
        · rw [cc 1 (by decide), u3_e]; exact s0.2.2.2.2
