/-! law: the call -/
theorem u33 {M : Mem} {v : Int32} {j : Nat} (h : j ≠ 3) : am_u3 M 54 0 3 v 54 0 j = M 54 0 j := u3_j (fun z => h z.2)
def lawP (T : Nat → Nat) (n : Nat) : List Nat ⊕ (Nat × Nat) := bd (sD T n 6 0) (fun x => if sk T n x.1 < n then Sum.inr (1, sk T n x.1) else Sum.inl x.2)
theorem lawP_ok {T : Nat → Nat} {n : Nat} {L : List Nat} (h : lawP T n = Sum.inl L) : cOK L ∧ L.length ≤ n := by
  obtain ⟨x, x1, x2⟩ := bd_i h
  have g := sD_ok 6 0 x.1 x.2 (Nat.zero_le _) x1
  by_cases hc : sk T n x.1 < n
  · rw [if_pos hc] at x2; cases x2
  · rw [if_neg hc] at x2
    injection x2 with x2
    subst x2
    exact ⟨g.2.2, by omega⟩
def CL (T : Nat → Nat) (n qd : Nat) (M : Mem) (x : List Nat ⊕ (Nat × Nat)) (b : Bool) (M' : Mem) : Prop := match x with
  | Sum.inl L => b = true ∧ M' 1 0 5 = 0 ∧ M' 1 0 6 = -1 ∧ M' 23 0 1 = nI L.length ∧ M' 23 0 4 = (if ∃ k, k < L.length ∧ M' qd 0 k = 7 then 1 else 0) ∧ ∀ i, i < L.length → M' qd 0 i = nI (L.getD i 0)
  | Sum.inr f => b = false ∧ CF T n f.1 f.2 M' ∧ M' 23 0 1 = M 23 0 1 ∧ M' 23 0 4 = M 23 0 4
theorem c_law {T : Nat → Nat} {n qc qd : Nat} {M : Mem} (hq : qd = 24 ∨ qd = 25) (hn : n ≤ 150) (h : CS T n 0 M) : ok (f_X3_read qc qd M) (fun r => fr [1, 23, qd] M r.2 ∧ r.2 1 0 1 = 0 ∧ CL T n qd M (lawP T n) r.1 r.2) := by
  have s0 : CS T n 0 (am_u3 M 23 0 3 0) := CS_o h (u3_c (by decide)) (u3_c (by decide))
  have v0 : lmv qd M (am_u3 M 23 0 3 0) := ⟨fr_u3 fr_rfl (by simp), by rw [u3_c (by decide)], fun j hj => u3_j (fun z => hj z.2)⟩
  have d0 : DRc qd [] (am_u3 M 23 0 3 0) := ⟨u3_e _ _ _ _ _, fun i hi => by cases hi⟩
  have h01 := h.1.2.2.1
  unfold f_X3_read f_X3_readSum
  generalize am_u3 M 23 0 3 0 = M0' at s0 v0 d0
  refine ok_bind (c_sumD (qc := qc) hq hn 6 30 (by decide) (by decide) 0 M0' [] s0 d0 (Nat.zero_le _)) ?_
  rintro M1 ⟨m1, l1⟩
  have V1 := lmv_tr v0 m1
  unfold lawP
  generalize hX : sD T n 6 0 = X at l1
  rcases X with y | f
  · obtain ⟨s1, d1⟩ := l1
    rw [List.nil_append] at d1
    have g := sD_ok 6 0 y.1 y.2 (Nat.zero_le _) hX
    obtain ⟨-, s2, mv2⟩ := CS_n s1
    rw [bd_in]
    unfold f_X10_expectEnd
    rw [c_end s1]
    have d2 := DRc_m hq d1 mv2
    by_cases hc : sk T n y.1 < n
    · rw [if_pos hc, if_pos hc]
      show ok (Option.bind (some (f_X10_blame 1 ((am_u3 M1 1 0 3 (nI (sk T n y.1))) 1 0 3) (am_u3 M1 1 0 3 (nI (sk T n y.1))))) _) _
      rw [u3_e]
      have b := CS_b (k := 1) (q := sk T n y.1) s2 (by decide)
      have V3 : lmv qd M (f_X10_blame 1 (nI (sk T n y.1)) (am_u3 M1 1 0 3 (nI (sk T n y.1)))) := lmv_tr V1 (lmv_c (cmv_tr mv2 b.2.1))
      refine ok_bindE rfl (ok_ifn (fty1 b.1) (ok_some ⟨V3.1, V3.2.1.trans h01, rfl, b.1, V3.2.2 1 (by decide), V3.2.2 4 (by decide)⟩))
    · rw [if_neg hc, if_neg hc]
      have V3 : lmv qd M (am_u3 M1 1 0 3 (nI (sk T n y.1))) := lmv_tr V1 (lmv_c mv2)
      show ok (Option.bind (some (am_u3 M1 1 0 3 (nI (sk T n y.1)))) _) _
      generalize am_u3 M1 1 0 3 (nI (sk T n y.1)) = M2 at s2 mv2 d2 V3
      refine ok_bindE rfl (ok_ifp (fty0 s2) (ok_bind (c_adopt hq d2.1 (by omega)) ?_))
      rintro M4 ⟨f4, l4, k4⟩
      have eq4 : M4 qd = M2 qd := f4 qd (by rcases hq with rfl | rfl <;> decide)
      refine ok_some ⟨fr_tr V3.1 (fr_mono f4 (fun c hc => by rw [List.mem_singleton.mp hc]; simp)), ?_, rfl, ?_, ?_, l4, ?_, fun i hi => ?_⟩
      · show M4 1 0 1 = 0
        rw [f4 1 (by decide)]; exact V3.2.1.trans h01
      · show M4 1 0 5 = 0
        rw [f4 1 (by decide)]; exact s2.2.2.2.1
      · show M4 1 0 6 = -1
        rw [f4 1 (by decide)]; exact s2.2.2.2.2
      · show M4 23 0 4 = _
        rw [k4]; simp only [eq4]
      · dsimp only; rw [eq4]; exact d2.2 i hi
  · obtain ⟨s1, c1⟩ := l1
    rw [bd_r rfl]
    unfold f_X10_expectEnd f_X10_isAtEnd
    refine ok_bind (P := fun M' => CF T n f.1 f.2 M' ∧ cmv M1 M') ?_ ?_
    · refine ok_bind (P := fun r => CF T n f.1 f.2 r.2 ∧ cmv M1 r.2) ?_ ?_
      · refine ok_bind (CF_n s1) ?_
        rintro ⟨v, M2⟩ ⟨h2, m2, -⟩
        exact ok_if (fun _ => ok_some ⟨h2, m2⟩) (fun _ => ok_some ⟨h2, m2⟩)
      · rintro ⟨v, M2⟩ ⟨h2, m2⟩
        simp only at h2 m2
        exact ok_if (fun _ => ok_some ⟨by rw [CF_b h2]; exact h2, by rw [CF_b h2]; exact m2⟩) (fun _ => ok_some ⟨h2, m2⟩)
    · rintro M2 ⟨h2, m2⟩
      have V3 := lmv_tr V1 (lmv_c m2)
      exact ok_ifn (fty1 h2) (ok_some ⟨V3.1, V3.2.1.trans h01, rfl, h2, V3.2.2 1 (by decide), V3.2.2 4 (by decide)⟩)
theorem m_layL {M : Mem} {l : Nat} (hl : l ≤ 160) : ok (f_X12_lays_l (nI l) M) (fun M' => fr [65] M M' ∧ ∀ i, i < l → ∀ j, j < 2 → M' 65 (i + 1) j = M 66 (i + 1) j) := by
  unfold f_X12_lays_l
  refine ok_bind (P := fun M' => fr [65] M M' ∧ ∀ i, i < l → ∀ j, j < 2 → M' 65 (i + 1) j = M 66 (i + 1) j) ?_ (fun _ h => ok_some h)
  refine ok_wh (fun k s => s.1 = nI k ∧ fr [65] M s.2 ∧ ∀ i, i < k → ∀ j, j < 2 → s.2 65 (i + 1) j = M 66 (i + 1) j) l ⟨rfl, fr_rfl, fun i hi => by cases hi⟩ (by omega) ?_ ?_
  · rintro k ⟨y, M1⟩ hk ⟨e1, f1, v1⟩
    simp only at e1 f1 v1
    subst e1
    unfold L_X12_lays_l_2
    refine ok_ifn (nI_ge hk (by omega)) (ok_bind (P := fun M' => fr [65] M1 M' ∧ (∀ r, r ≠ k + 1 → M' 65 r = M1 65 r) ∧ ∀ j, j < 2 → M' 65 (k + 1) j = M 66 (k + 1) j) ?_ ?_)
    · refine ok_wh (fun i s => s.1 = nI i ∧ fr [65] M1 s.2 ∧ (∀ r, r ≠ k + 1 → s.2 65 r = M1 65 r) ∧ ∀ j, j < i → s.2 65 (k + 1) j = M 66 (k + 1) j) 2 ⟨rfl, fr_rfl, fun _ _ => rfl, fun v hv => by cases hv⟩ (by decide) ?_ ?_
      · rintro i ⟨y, M2⟩ hi ⟨e2, f2, o2, v2⟩
        simp only at e2 f2 o2 v2
        subst e2
        unfold L_X12_lays_l_10
        simp only [nI_clamp (show k < 2 ^ 31 by omega), nI_clamp (show i < 2 ^ 31 by omega)]
        refine ok_ifp (inb_n (by omega) (by decide)) (ok_ifn (nI_ge (b := 2) hi (by decide)) (ok_ifp (inb_n hi (by decide)) (ok_some ⟨nI_1 i, fr_u3 f2 (by decide), fun r hr => ?_, fun v hv => ?_⟩)))
        · show am_u3 M2 65 (k + 1) i _ 65 r = _
          rw [u3_rr hr]; exact o2 r hr
        · show am_u3 M2 65 (k + 1) i (M2 66 (k + 1) i) 65 (k + 1) v = _
          by_cases e : v = i
          · rw [e, u3_e, f2 66 (by decide), f1 66 (by decide)]
          · rw [u3_j (fun z => e z.2)]; exact v2 v (by omega)
      · rintro ⟨y, M2⟩ ⟨e2, f2, o2, v2⟩
        simp only at e2 f2 o2 v2
        subst e2
        unfold L_X12_lays_l_10
        simp only [nI_clamp (show k < 2 ^ 31 by omega)]
        exact ok_ifp (inb_n (by omega) (by decide)) (ok_ifp (by decide) (ok_some ⟨f2, o2, v2⟩))
    · rintro M2 ⟨f2, o2, v2⟩
      refine ok_some ⟨nI_1 k, fr_tr f1 f2, fun i hi j hj => ?_⟩
      show M2 65 (i + 1) j = _
      by_cases e : i = k
      · rw [e]; exact v2 j hj
      · rw [o2 _ (by omega)]; exact v1 i (by omega) j hj
  · rintro ⟨y, M1⟩ ⟨e1, f1, v1⟩
    simp only at e1 f1 v1
    subst e1
    unfold L_X12_lays_l_2
    exact ok_ifp (nI_le (Nat.le_refl _) (by omega)) (ok_some ⟨f1, v1⟩)
def tL : List Nat := [0, 3, 4, 5, 6, 7, 8, 9, 10, 11, 12, 30, 31, 32, 33, 56, 58, 60, 62, 64, 67, 72, 75, 76]
/-- a LAW was told -/
theorem Rel_lw {qc qd qs : Nat} {M M' : Mem} {L : List Nat} (h : Rel qc qs M) (hq : qd = 24 ∨ qd = 25) (e : ∀ c, c ∈ tL → M' c = M c) (es : M' qs = M qs) (e54 : ∀ j, j ∈ [34, 35, 36, 37] → M' 54 0 j = M 54 0 j) (e45 : M' 45 0 3 = M 45 0 3) (ht : rTape M') (hL : cOK L) (hl : L.length ≤ 150) (l1 : M' 23 0 1 = nI L.length) (l4 : M' 23 0 4 = (if ∃ k, k < L.length ∧ M' qd 0 k = 7 then 1 else 0)) (lc : ∀ i, i < L.length → M' qd 0 i = nI (L.getD i 0)) (m19 : M' 54 0 19 = nI L.length) (m65 : ∀ i, i < L.length → mrel (nI (L.getD i 0)) (M' 65 (i + 1) 0) (M' 65 (i + 1) 1)) (h38 : M' 38 0 5 = 0) : Rel qd qs M' := by
  obtain ⟨h1, h2, h3, h4, h5, h6, h7, h8, h9⟩ := h
  obtain ⟨-, -, -, b3, b4⟩ := h1
  have e3 : M' 3 = M 3 := e 3 (by decide)
  have el : ln M' = L.length := by unfold ln; rw [l1, nI_clamp (by omega)]
  refine ⟨⟨hq, ?_, ?_, cBed_fr e3 b3, ?_⟩, h2, ?_, ht, ?_, ?_, ?_, ?_, cch_0 h38⟩
  · obtain ⟨w1, w2⟩ := hL.1 0 (M' qd 0) 0 (fun i hi => by rw [Nat.zero_add]; exact lc i hi) rfl
    rw [Nat.zero_add] at w2
    refine ⟨by rw [el]; exact l1, by rw [el]; exact hl, by rw [el]; exact hL.2.1, ⟨fun k hk => ?_, by rw [el]; exact w2⟩, by rw [el]; exact l4⟩
    rw [el] at hk
    have := w1 k hk
    rw [Nat.zero_add] at this
    exact this
  · refine Or.inl ⟨by rw [el]; exact m19, fun k hk => ?_⟩
    rw [el] at hk
    rw [lc k hk]; exact m65 k hk
  · unfold mBed mBoard at *
    rw [nB_fr e3, nG_fr e3, nS_fr e3, e 58 (by decide), e3, e 60 (by decide), e 62 (by decide), e 64 (by decide), e 4 (by decide), e 5 (by decide), e 6 (by decide), e 7 (by decide), e 8 (by decide), e 9 (by decide), e 10 (by decide), e 11 (by decide), e 12 (by decide)]
    exact b4
  · unfold bRng at *
    rw [nB_fr e3, nG_fr e3, nS_fr e3, e 4 (by decide), e 5 (by decide), e 6 (by decide), e 7 (by decide), e 8 (by decide), e 9 (by decide), e 10 (by decide), e 11 (by decide), e 12 (by decide)]
    exact h3
  · unfold rCnt at *
    rw [e 0 (by decide), e 56 (by decide), e54 36 (by decide)]; exact h5
  · rw [nB_fr e3, nG_fr e3, e 30 (by decide), e 72 (by decide)]; exact h6
  · unfold rPast at *
    rw [nB_fr e3, nG_fr e3, e 31 (by decide), e 32 (by decide), e 33 (by decide), e 75 (by decide), e 76 (by decide), e54 35 (by decide), e54 37 (by decide)]
    exact h7
  · unfold rBook at *
    rw [nB_fr e3, e45, e54 34 (by decide), e 67 (by decide), es]
    exact h8
def lC : List Nat := [54, 65, 66]
theorem t_law {qc qd qs : Nat} {x : Int32} {M : Mem} (h : Rel qc qs M) (hd : (qc = 24 ∧ qd = 25) ∨ (qc = 25 ∧ qd = 24)) : ok (f_X11_law qc qd x M) (fun r => ok (f_X12_law x r.2.2) (fun r' => ans1 r.1 r'.1 (r'.2 54 0 0) ∧ Rel (if r.2.1 = true then qd else qc) qs r'.2)) := by
  obtain ⟨t, t1, t2, t3, t4⟩ := R_tx h
  have hqd : qd = 24 ∨ qd = 25 := by rcases hd with ⟨-, rfl⟩ | ⟨-, rfl⟩ <;> decide
  by_cases hx : x < 0 ∨ nI (min t 150) < x
  · unfold f_X11_law
    refine ok_bindE (tkF (m := 150) t2 t1 (by decide) hx) (ok_some ?_)
    show ok (f_X12_law x (am_u3 M 0 0 14 (M 0 0 14 + 1))) _
    have e54 : (am_u3 M 0 0 14 (M 0 0 14 + 1)) 54 0 1 = nI t := t3
    have fin : ans1 (Sum.inr IAE) 0 (RM 14 1 M 54 0 0) ∧ Rel qc qs (RM 14 1 M) := ⟨⟨rfl, RM_t 14 1 M⟩, Rel_RM (k := 14) (Or.inr rfl) h⟩
    unfold f_X12_law
    by_cases h1 : x < 0 ∨ nI t < x
    · exact ok_ifp ((in_t e54).mpr h1) (ok_bindE (bad14 M (by decide)) (ok_ifn (by decide) (ok_some fin)))
    · obtain ⟨a, rfl, ha⟩ := args (n := t) rfl (by omega) h1
      have ha2 : 150 < a := by
        rcases hx with z | z
        · exact absurd z (nI_pos (by omega))
        · rw [nI_ltI (by omega) (by omega)] at z; omega
      exact ok_ifn (fun z => h1 ((in_t e54).mp z)) (ok_ifn (show ¬ nI a ≤ 150 from nI_ge (a := 150) ha2 (by omega)) (ok_bindE (bad14 M (by decide)) (ok_ifn (by decide) (ok_some fin))))
  · obtain ⟨n, rfl, hnt⟩ := args (n := min t 150) rfl (by omega) hx
    have s0 := c_take h t1 t2 (show n ≤ t by omega)
    have f0 := tkM_f (nI n) M
    unfold f_X11_law
    refine ok_bindE (tkT (m := 150) t2 t1 (by decide) hnt) ?_
    refine ok_bind (c_law (qc := qc) hqd (by omega) s0) ?_
    rintro ⟨b, M2⟩ ⟨f2, t02, bc⟩
    simp only at f2 t02 bc
    have F2 : fr [1, 23, qd] M M2 := fr_tr (fr_mono f0 (fun c hc => by rw [List.mem_singleton.mp hc]; exact List.mem_cons_self ..)) f2
    have nin : ∀ c, c ≠ 1 → c ≠ 23 → c ≠ 24 → c ≠ 25 → c ∉ [1, 23, qd] := by
      intro c a1 a2 a3 a4 z
      rcases List.mem_cons.mp z with z | z
      · exact a1 z
      · rcases List.mem_cons.mp z with z | z
        · exact a2 z
        · rw [List.mem_singleton] at z
          rcases hqd with y | y
          · exact a3 (z.trans y)
          · exact a4 (z.trans y)
    -- the model
    have mod : ∀ M5, fr [1, 23, 24, 25, 38] M M5 → ok (f_X12_law (nI n) M5) (fun r' => r'.2 54 0 0 = 0 ∧ fr lC M5 r'.2 ∧ (∀ j, j ∈ [34, 35, 36, 37] → r'.2 54 0 j = M 54 0 j) ∧ r'.2 54 0 1 = 0 ∧ ((∃ L, lawP (txT M) n = Sum.inl L ∧ r'.1 = 1 ∧ r'.2 54 0 3 = -1 ∧ r'.2 54 0 19 = nI L.length ∧ ∀ i, i < L.length → mrel (nI (L.getD i 0)) (r'.2 65 (i + 1) 0) (r'.2 65 (i + 1) 1)) ∨ (∃ f, lawP (txT M) n = Sum.inr f ∧ r'.1 = nI f.1 - 10 ∧ r'.2 54 0 3 = nI f.2 ∧ r'.2 54 0 19 = M 54 0 19 ∧ r'.2 65 = M 65))) := by
      intro M5 F5
      have e54 : M5 54 = M 54 := F5 54 (by decide)
      have e55 : M5 55 = M 55 := F5 55 (by decide)
      unfold f_X12_law
      have i1 : ¬ f_X12_in (nI n) 0 (M5 54 0 1) = 0 := by
        rw [e54, in_t t3]
        rintro (z | z)
        · exact nI_pos (by omega) z
        · rw [nI_ltI (by omega) (by omega)] at z; omega
      refine ok_ifn i1 (ok_ifp (show nI n ≤ 150 from nI_le (b := 150) (by omega) (by decide)) (ok_bindE (badM0 _ _ _) (ok_ifp rfl ?_)))
      refine ok_bind (m_starts (T := txT M) (n := n) (by omega) (fun j hj => ?_)) ?_
      · show (M0 M5) 55 0 j = _ ∧ _
        unfold M0
        rw [u3_c (by decide), e55]
        have := t4 j (by omega)
        exact ⟨this.1, this.2.1⟩
      · rintro M15 ⟨s15, f15, g15, -, g8⟩
        have k15 : ∀ j, j ∉ s54 → j ≠ 0 → M15 54 0 j = M 54 0 j := by
          intro j hj h0
          rw [g15 j hj, M0_j h0, e54]
        have s16 : MS (txT M) n (sk (txT M) n 0) (am_u3 M15 54 0 20 0) := by
          obtain ⟨⟨h1, h2, h3, h4⟩, h5, h6, h7⟩ := s15
          exact ⟨⟨(u3_j (by omega)).trans h1, h2, (u3_j (by omega)).trans h3, h4⟩, h5, (u3_j (by omega)).trans h6, (u3_j (by omega)).trans h7⟩
        have d16 : MD 0 [] (am_u3 M15 54 0 20 0) := ⟨(u3_j (by omega)).trans g8, u3_e _ _ _ _ _, fun i hi => by cases hi⟩
        have v16 : mlv M15 (am_u3 M15 54 0 20 0) := mlv_u mlv_rfl (by decide)
        generalize am_u3 M15 54 0 20 0 = M16 at s16 d16 v16
        unfold f_X12_sum
        refine ok_bind (m_sumD (T := txT M) (n := n) (by omega) 6 30 (by decide) (by decide) (sk (txT M) n 0) M16 [] s16 d16 (Nat.zero_le _)) ?_
        rintro M17 ⟨v17, l17⟩
        rw [sD_sk (Nat.zero_le _)] at l17
        have V17 : mlv M15 M17 := mlv_tr v16 v17
        have fin : ∀ {M18 : Mem}, mlv M15 M18 → M18 54 0 0 = 0 ∧ fr lC M5 M18 ∧ (∀ j, j ∈ [34, 35, 36, 37] → M18 54 0 j = M 54 0 j) ∧ M18 54 0 1 = 0 ∧ M18 54 0 19 = M 54 0 19 ∧ M18 65 = M 65 := by
          intro M18 v
          refine ⟨?_, fr_tr (fr_tr (fr_mono (M0_f M5) (by decide)) (fr_mono f15 (by decide))) (fr_mono v.1 (by decide)), fun j hj => ?_, (v.2 1 (by decide)).trans s15.1.2.2.1, ?_, ?_⟩
          · rw [v.2 0 (by decide), g15 0 (by decide)]; exact M0_t M5
          · have a1 : j ∉ k8 := (by decide : ∀ j, j ∈ [34, 35, 36, 37] → j ∉ k8) j hj
            have a2 : j ∉ s54 := (by decide : ∀ j, j ∈ [34, 35, 36, 37] → j ∉ s54) j hj
            rw [v.2 j a1, k15 j a2 (by rintro rfl; revert hj; decide)]
          · rw [v.2 19 (by decide), k15 19 (by decide) (by decide)]
          · rw [v.1 65 (by decide), f15 65 (by decide), M0_cc (by decide)]; exact F5 65 (by decide)
        unfold lawP
        generalize hX : sD (txT M) n 6 0 = X at l17
        rcases X with y | f
        · obtain ⟨s17, d17⟩ := l17
          rw [List.nil_append] at d17
          have g := sD_ok 6 0 y.1 y.2 (Nat.zero_le _) hX
          obtain ⟨s18, m18, -⟩ := m_again s17
          refine ok_bindE (m_blanks s17.1 s17.2.1 s17.2.2.1) ?_
          have d18 := MD_m d17 m18
          have V18 := mlv_tr V17 (mlv_m m18)
          rw [bd_in]
          generalize am_u3 M17 54 0 4 (nI (sk (txT M) n y.1)) = M18 at s18 m18 d18 V18
          obtain ⟨e0, eF, e3, e1, e19, e65⟩ := fin V18
          refine ok_ifp s18.2.2.2 ?_
          rw [s18.1.1, s18.2.2.1]
          have hs := s18.2.1
          by_cases hc : sk (txT M) n y.1 < n
          · refine ok_ifn (nI_ge hc (by omega)) ?_
            rw [if_pos hc]
            have bb := MS_b (k := 1) (q := sk (txT M) n y.1) s18 (by decide)
            have V19 := mlv_tr V18 (mlv_m bb.2.1)
            show ok (if (f_X12_wrong (nI 1) (nI (sk (txT M) n y.1)) M18) 54 0 5 = 0 then _ else some ((f_X12_wrong (nI 1) (nI (sk (txT M) n y.1)) M18) 54 0 5 - (10 : Int32), (am_u3 (f_X12_wrong (nI 1) (nI (sk (txT M) n y.1)) M18) 54 0 3 ((f_X12_wrong (nI 1) (nI (sk (txT M) n y.1)) M18) 54 0 6)))) _
            have bb1 := bb.1
            generalize f_X12_wrong (nI 1) (nI (sk (txT M) n y.1)) M18 = M19 at bb1 V19
            obtain ⟨e0, eF, e3, e1, e19, e65⟩ := fin V19
            refine ok_ifn (MF_ne bb1) (ok_some ⟨(u33 (M := M19) (v := M19 54 0 6) (j := 0) (by decide)).trans e0, fr_u3 eF (by decide), fun j hj => ?_, (u33 (M := M19) (v := M19 54 0 6) (j := 1) (by decide)).trans e1, Or.inr ⟨_, rfl, ?_, ?_, (u33 (M := M19) (v := M19 54 0 6) (j := 19) (by decide)).trans e19, ?_⟩⟩)
            · exact (u33 (M := M19) (v := M19 54 0 6) (by rintro rfl; revert hj; decide)).trans (e3 j hj)
            · show M19 54 0 5 - 10 = _
              rw [bb1.2.1]
            · show am_u3 M19 54 0 3 (M19 54 0 6) 54 0 3 = _
              rw [u3_e]; exact bb1.2.2.2.1
            · show am_u3 M19 54 0 3 (M19 54 0 6) 65 = _
              rw [u3_c (by decide)]; exact e65
          · refine ok_ifp (nI_le (by omega) (by omega)) ?_
            rw [if_neg hc, d18.2.1]
            refine ok_bind (m_layL (by omega)) ?_
            rintro M20 ⟨f20, v20⟩
            refine ok_some ⟨?_, fr_tr (fr_u3 (fr_u3 eF (by decide)) (by decide)) (fr_mono f20 (by decide)), fun j hj => ?_, ?_, Or.inl ⟨_, rfl, rfl, ?_, ?_, fun i hi => ?_⟩⟩
            · show M20 54 0 0 = 0
              rw [f20 54 (by decide), u3_j (by omega), u3_j (by omega)]; exact e0
            · show M20 54 0 j = _
              have h3 : j ≠ 3 := by rintro rfl; revert hj; decide
              have h19 : j ≠ 19 := by rintro rfl; revert hj; decide
              rw [f20 54 (by decide), u3_j (by omega), u3_j (by omega)]; exact e3 j hj
            · show M20 54 0 1 = 0
              rw [f20 54 (by decide), u3_j (by omega), u3_j (by omega)]; exact e1
            · show M20 54 0 3 = -1
              rw [f20 54 (by decide), u3_j (by omega), u3_e]
            · show M20 54 0 19 = _
              rw [f20 54 (by decide), u3_e]
            · show mrel _ (M20 65 (i + 1) 0) (M20 65 (i + 1) 1)
              rw [v20 i hi 0 (by decide), v20 i hi 1 (by decide), u3_c (by decide), u3_c (by decide)]
              exact d18.2.2 i hi
        · have l17' : MF (txT M) n f.1 f.2 M17 := l17
          obtain ⟨a1, a2, a3, a4, p, hp, a5⟩ := l17'
          refine ok_bindE (m_blanks a1 hp a5) ?_
          have m18 : mmv M17 (am_u3 M17 54 0 4 (nI (sk (txT M) n p))) := mmv_u mmv_rfl (by decide)
          have s18 : MF (txT M) n f.1 f.2 (am_u3 M17 54 0 4 (nI (sk (txT M) n p))) := ⟨MT_m a1 m18, (u3_j (by omega)).trans a2, a3, (u3_j (by omega)).trans a4, _, sk_le hp, u3_e _ _ _ _ _⟩
          have V18 := mlv_tr V17 (mlv_m m18)
          rw [bd_r rfl]
          generalize am_u3 M17 54 0 4 (nI (sk (txT M) n p)) = M18 at s18 m18 V18
          obtain ⟨e0, eF, e3, e1, e19, e65⟩ := fin V18
          refine ok_ifn (MF_ne s18) (ok_some ⟨(u33 (M := M18) (v := M18 54 0 6) (j := 0) (by decide)).trans e0, fr_u3 eF (by decide), fun j hj => ?_, (u33 (M := M18) (v := M18 54 0 6) (j := 1) (by decide)).trans e1, Or.inr ⟨_, rfl, ?_, ?_, (u33 (M := M18) (v := M18 54 0 6) (j := 19) (by decide)).trans e19, ?_⟩⟩)
          · exact (u33 (M := M18) (v := M18 54 0 6) (by rintro rfl; revert hj; decide)).trans (e3 j hj)
          · show M18 54 0 5 - 10 = _
            rw [s18.2.1]
          · show am_u3 M18 54 0 3 (M18 54 0 6) 54 0 3 = _
            rw [u3_e]; exact s18.2.2.2.1
          · show am_u3 M18 54 0 3 (M18 54 0 6) 65 = _
            rw [u3_c (by decide)]; exact e65
    have okL : ∀ L, lawP (txT M) n = Sum.inl L → cOK L ∧ L.length ≤ n := fun L hL => lawP_ok hL
    generalize lawP (txT M) n = X at bc mod okL
    have q45 : [1, 23, qd] ⊆ [1, 23, 24, 25, 38] := by rcases hqd with rfl | rfl <;> decide
    rcases X with L | f
    · obtain ⟨rfl, c5, c6, l1, l4, lc⟩ := bc
      obtain ⟨okc, okl⟩ := okL L rfl
      refine ok_ifp (show f_X10_isFaulty M2 = 0 by unfold f_X10_isFaulty; rw [if_pos c5]) (ok_some ?_)
      show ok (f_X12_law (nI n) (am_u3 M2 38 0 5 0)) (fun r' => ans1 (Sum.inl 1) r'.1 (r'.2 54 0 0) ∧ Rel qd qs r'.2)
      have F5 : fr [1, 23, 24, 25, 38] M (am_u3 M2 38 0 5 0) := fr_u3 (fr_mono F2 q45) (by decide)
      refine ok_mono (mod _ F5) ?_
      rintro ⟨v, M3⟩ ⟨d0, d1, d2, d3, (⟨L', ex, q1, q3, q19, q65⟩ | ⟨f, ex, -⟩)⟩
      · simp only at d0 d1 d2 d3 q1 q3 q19 q65
        injection ex with ex
        subst ex
        have ein : ∀ c, c ∉ lC → M3 c = (am_u3 M2 38 0 5 0) c := d1
        have e23 : M3 23 = M2 23 := by rw [ein 23 (by decide), u3_c (by decide)]
        have eqd : M3 qd = M2 qd := by rw [ein qd (by rcases hqd with rfl | rfl <;> decide), u3_c (by rcases hqd with rfl | rfl <;> decide)]
        have e1 : M3 1 = M2 1 := by rw [ein 1 (by decide), u3_c (by decide)]
        have eM : ∀ c, c ∉ lC → c ∉ [1, 23, 24, 25, 38] → M3 c = M c := fun c h1 h2 => by rw [ein c h1, F5 c h2]
        refine ⟨⟨d0, q1.symm⟩, ?_⟩
        show Rel qd qs M3
        refine Rel_lw h hqd (fun c hc => eM c (by revert c; decide) (by revert c; decide)) ?_ d2 (by rw [eM 45 (by decide) (by decide)]) (rT_0 (by rw [e1]; exact t02) d3 (by rw [e1, q3]; exact c6)) okc (by omega) (by rw [e23]; exact l1) (by rw [e23, l4]; simp only [eqd]) (fun i hi => by rw [eqd]; exact lc i hi) q19 q65 ?_
        · rcases h.2.1 with rfl | rfl <;> exact eM _ (by decide) (by decide)
        · rw [ein 38 (by decide), u3_e]
      · cases ex
    · obtain ⟨rfl, cf, k1, k4⟩ := bc
      refine ok_ifn (fty1 cf) (ok_some ?_)
      show ok (f_X12_law (nI n) M2) (fun r' => ans1 (Sum.inl (M2 1 0 5 - 10)) r'.1 (r'.2 54 0 0) ∧ Rel qc qs r'.2)
      refine ok_mono (mod M2 (fr_mono F2 q45)) ?_
      rintro ⟨v, M3⟩ ⟨d0, d1, d2, d3, (⟨L', ex, -⟩ | ⟨f', ex, q1, q3, q19, q65⟩)⟩
      · cases ex
      · simp only at d0 d1 d2 d3 q1 q3 q19 q65
        injection ex with ex
        subst ex
        have ein : ∀ c, c ∉ lC → M3 c = M2 c := d1
        have e0 : ∀ c, c ≠ 1 → c ≠ 23 → c ≠ 24 → c ≠ 25 → c ∉ lC → M3 c = M c := fun c a b d e f => by rw [ein c f, F2 c (nin c a b d e)]
        refine ⟨⟨d0, ?_⟩, ?_⟩
        · show M2 1 0 5 - 10 = v
          rw [cf.2.2.1, q1]
        · show Rel qc qs M3
          refine Rel_txt h (fun c hc => ?_) ?_ ?_ ?_ ?_ (fun j hj => ?_) (by rw [e0 45 (by decide) (by decide) (by decide) (by decide) (by decide)]) (rT_0 (by rw [ein 1 (by decide)]; exact t02) d3 (by rw [ein 1 (by decide), cf.2.2.2.2, q3]))
          · by_cases h65 : c = 65
            · rw [h65]; exact q65
            · exact e0 c (by rintro rfl; revert hc; decide) (by rintro rfl; revert hc; decide) (by rintro rfl; revert hc; decide) (by rintro rfl; revert hc; decide) (fun z => h65 ((by decide : ∀ c, c ∈ tC → c ∈ lC → c = 65) c hc z))
          · have : qc ∉ [1, 23, qd] := by rcases hd with ⟨rfl, rfl⟩ | ⟨rfl, rfl⟩ <;> decide
            rw [ein qc (by rcases hd with ⟨rfl, -⟩ | ⟨rfl, -⟩ <;> decide), F2 qc this]
          · rcases h.2.1 with rfl | rfl <;> exact e0 _ (by decide) (by decide) (by decide) (by decide) (by decide)
          · rw [ein 23 (by decide), k1, f0 23 (by decide)]
          · rw [ein 23 (by decide), k4, f0 23 (by decide)]
          · by_cases hj9 : j = 19
            · rw [hj9]; exact q19
            · exact d2 j ((by decide : ∀ j, j ∈ t54 → j ≠ 19 → j ∈ [34, 35, 36, 37]) j hj hj9)
