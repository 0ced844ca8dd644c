/-! book: the call -/
theorem M0_cc {M : Mem} {c : Nat} (h : c ≠ 54) : M0 M c = M c := u3_c h
theorem M0_j {M : Mem} {j : Nat} (h : j ≠ 0) : M0 M 54 0 j = M 54 0 j := u3_j (fun z => h z.2)
theorem M0_f (M : Mem) : fr [54] M (M0 M) := fr_u3 fr_rfl (by decide)
theorem k456s : ∀ j, j ∈ k456 → j ∈ s54 := by decide
theorem m_book {T : Nat → Nat} {n nb : Nat} {M : Mem} (h : MS T n (sk T n 0) M) (e3 : M 58 0 0 = nI nb) (hnb : nb ≤ 16) : ok (wh L_X12_book_48 FU ((0 : Int32), (0 : Int32), M)) (fun r => bmv M r.2 ∧ ((∃ l Lb Lv p, bk T n nb 13 0 zN zN 0 = Sum.inl (l, Lb, Lv) ∧ r.1 = nI l ∧ MS T n p r.2 ∧ BL nb l Lb Lv ∧ BM l Lb Lv r.2) ∨ (∃ f, bk T n nb 13 0 zN zN 0 = Sum.inr f ∧ MF T n f.1 f.2 r.2))) := by
  generalize hX : bk T n nb 13 0 zN zN 0 = X
  have h600 := h.1.2.1
  have st0 : bmv M M ∧ ((∃ Lb Lv p, (0 : Int32) = nI 0 ∧ MS T n p M ∧ sk T n p = p ∧ BL nb 0 Lb Lv ∧ BM 0 Lb Lv M ∧ bnB 0 Lb 0 ∧ bk T n nb (13 - 0) 0 Lb Lv p = X) ∨ (∃ f, X = Sum.inr f ∧ MF T n f.1 f.2 M)) := by
    refine ⟨⟨fr_rfl, fun _ _ => rfl⟩, Or.inl ⟨zN, zN, sk T n 0, rfl, h, sk_sk (Nat.zero_le _), ⟨by decide, fun i hi => (by cases hi)⟩, fun i hi => (by cases hi), fun b hb => ⟨fun z => ?_, fun ⟨i, hi, _⟩ => (by cases hi)⟩, ?_⟩⟩
    · rw [b_0] at z; cases z
    · rw [bk_sk (Nat.zero_le _)]; exact hX
  refine ok_wh (fun k s => bmv M s.2.2 ∧ ((∃ Lb Lv p, s.1 = nI k ∧ MS T n p s.2.2 ∧ sk T n p = p ∧ BL nb k Lb Lv ∧ BM k Lb Lv s.2.2 ∧ bnB k Lb s.2.1 ∧ bk T n nb (13 - k) k Lb Lv p = X) ∨ (∃ f, X = Sum.inr f ∧ MF T n f.1 f.2 s.2.2))) 13 st0 (by decide) ?_ ?_
  · rintro k ⟨x2, x3, M1⟩ hk ⟨m1, g⟩
    simp only at m1 g
    rcases g with ⟨Lb, Lv, p, rfl, s1, hp, bl, bm, bn, ex⟩ | ⟨f, ex, s1⟩
    · rw [show 13 - k = (12 - k) + 1 by omega] at ex
      have hp2 := s1.2.1
      by_cases hpn : p < n
      · refine ok_mono (m_line (nb := nb) (l := k) (Lb := Lb) (Lv := Lv) s1 hp hpn (by rw [m1.1 58 (by decide)]; exact e3) hnb bl bm bn) ?_
        rintro e ⟨s, rfl, m2, ln⟩
        refine ⟨bmv_tr m1 m2, ?_⟩
        have hend : sk T n p < n := by rw [hp]; exact hpn
        generalize hb : bkS T n nb k Lb Lv p = B at ln
        rcases B with y | f
        · obtain ⟨l1, l2, l3, l4, l5, l6⟩ := ln
          refine Or.inl ⟨y.2.1, y.2.2, sk T n y.1, l1, l3, sk_sk l2, l4, l5, l6, ?_⟩
          rw [show 13 - (k + 1) = 12 - k by omega, bk_sk l2, ← ex, bk_2 hend hb]
        · exact Or.inr ⟨f, by rw [← ex, bk_1 hend hb], ln⟩
      · unfold L_X12_book_48
        simp only []
        rw [s1.1.1, s1.2.2.1]
        refine ok_ifp s1.2.2.2 (ok_ifp (nI_le (by omega) (by omega)) (ok_some ⟨m1, Or.inl ⟨k, Lb, Lv, p, ?_, rfl, s1, bl, bm⟩⟩))
        rw [← ex, bk_3 (by rw [hp]; exact hpn)]
    · unfold L_X12_book_48
      exact ok_ifn (MF_ne s1) (ok_some ⟨m1, Or.inr ⟨f, ex, s1⟩⟩)
  · rintro ⟨x2, x3, M1⟩ ⟨m1, g⟩
    simp only at m1 g
    rcases g with ⟨Lb, Lv, p, rfl, s1, hp, bl, -⟩ | ⟨f, ex, s1⟩
    · have := bl.1; omega
    · unfold L_X12_book_48
      exact ok_ifn (MF_ne s1) (ok_some ⟨m1, Or.inr ⟨f, ex, s1⟩⟩)
theorem m_layK {M : Mem} {l : Nat} (hl : l ≤ 12) : ok (f_X12_lays_k (nI l) M) (fun M' => fr [67] M M' ∧ ∀ i, i < l → ∀ j, j < 2 → M' 67 (i + 1) j = M 68 (i + 1) j) := by
  unfold f_X12_lays_k
  refine ok_bind (P := fun M' => fr [67] M M' ∧ ∀ i, i < l → ∀ j, j < 2 → M' 67 (i + 1) j = M 68 (i + 1) j) ?_ (fun _ h => ok_some h)
  refine ok_wh (fun k s => s.1 = nI k ∧ fr [67] M s.2 ∧ ∀ i, i < k → ∀ j, j < 2 → s.2 67 (i + 1) j = M 68 (i + 1) j) l ⟨rfl, fr_rfl, fun i hi => by cases hi⟩ (by omega) ?_ ?_
  · rintro k ⟨y, M1⟩ hk ⟨e1, f1, v1⟩
    simp only at e1 f1 v1
    subst e1
    unfold L_X12_lays_k_2
    refine ok_ifn (nI_ge hk (by omega)) (ok_bind (P := fun M' => fr [67] M1 M' ∧ (∀ r, r ≠ k + 1 → M' 67 r = M1 67 r) ∧ ∀ j, j < 2 → M' 67 (k + 1) j = M 68 (k + 1) j) ?_ ?_)
    · refine ok_wh (fun i s => s.1 = nI i ∧ fr [67] M1 s.2 ∧ (∀ r, r ≠ k + 1 → s.2 67 r = M1 67 r) ∧ ∀ j, j < i → s.2 67 (k + 1) j = M 68 (k + 1) j) 2 ⟨rfl, fr_rfl, fun _ _ => rfl, fun v hv => by cases hv⟩ (by decide) ?_ ?_
      · rintro i ⟨y, M2⟩ hi ⟨e2, f2, o2, v2⟩
        simp only at e2 f2 o2 v2
        subst e2
        unfold L_X12_lays_k_10
        simp only [nI_clamp (show k < 2 ^ 31 by omega), nI_clamp (show i < 2 ^ 31 by omega)]
        refine ok_ifp (inb_n (by omega) (by decide)) (ok_ifn (nI_ge (b := 2) hi (by decide)) (ok_ifp (inb_n hi (by decide)) (ok_some ⟨nI_1 i, fr_u3 f2 (by decide), fun r hr => ?_, fun v hv => ?_⟩)))
        · show am_u3 M2 67 (k + 1) i _ 67 r = _
          rw [u3_rr hr]; exact o2 r hr
        · show am_u3 M2 67 (k + 1) i (M2 68 (k + 1) i) 67 (k + 1) v = _
          by_cases e : v = i
          · rw [e, u3_e, f2 68 (by decide), f1 68 (by decide)]
          · rw [u3_j (fun z => e z.2)]; exact v2 v (by omega)
      · rintro ⟨y, M2⟩ ⟨e2, f2, o2, v2⟩
        simp only at e2 f2 o2 v2
        subst e2
        unfold L_X12_lays_k_10
        simp only [nI_clamp (show k < 2 ^ 31 by omega)]
        exact ok_ifp (inb_n (by omega) (by decide)) (ok_ifp (by decide) (ok_some ⟨f2, o2, v2⟩))
    · rintro M2 ⟨f2, o2, v2⟩
      refine ok_some ⟨nI_1 k, fr_tr f1 f2, fun i hi j hj => ?_⟩
      show M2 67 (i + 1) j = _
      by_cases e : i = k
      · rw [e]; exact v2 j hj
      · rw [o2 _ (by omega)]; exact v1 i (by omega) j hj
  · rintro ⟨y, M1⟩ ⟨e1, f1, v1⟩
    simp only at e1 f1 v1
    subst e1
    unfold L_X12_lays_k_2
    exact ok_ifp (nI_le (Nat.le_refl _) (by omega)) (ok_some ⟨f1, v1⟩)
/-- texts that are refused by both -/
theorem in_t {t : Nat} {x hi : Int32} (e : hi = nI t) : f_X12_in x 0 hi = 0 ↔ (x < 0 ∨ nI t < x) := by rw [in_eq, e]
def tB : List Nat := [0, 3, 4, 5, 6, 7, 8, 9, 10, 11, 12, 23, 24, 25, 30, 31, 32, 33, 38, 41, 56, 58, 60, 62, 64, 65, 72, 75, 76]
def t54b : List Nat := [19, 35, 36, 37]
theorem t54s : ∀ j, j ∈ t54b → j ∉ s54 := by decide
theorem Rel_bk {qc qs qs' : Nat} {M M' : Mem} (h : Rel qc qs M) (e : ∀ c, c ∈ tB → M' c = M c) (e54 : ∀ j, j ∈ t54b → M' 54 0 j = M 54 0 j) (ht : rTape M') (hq : qs' = 46 ∨ qs' = 47) (hb : rBook qs' M') : Rel qc qs' M' := by
  obtain ⟨h1, h2, h3, h4, h5, h6, h7, h8, h9⟩ := h
  have e3 : M' 3 = M 3 := e 3 (by decide)
  have eb : ∀ c, c ∈ bCells → M' c = M c := fun c hc => e c (by revert c; decide)
  refine ⟨base_c h1 eb (e54 19 (by decide)), hq, ?_, ht, ?_, ?_, ?_, hb, ?_⟩
  · unfold bRng at *
    rw [nB_fr e3, nG_fr e3, nS_fr e3, e 4 (by decide), e 5 (by decide), e 6 (by decide), e 7 (by decide), e 8 (by decide), e 9 (by decide), e 10 (by decide), e 11 (by decide), e 12 (by decide)]
    exact h3
  · unfold rCnt at *
    rw [e 0 (by decide), e 56 (by decide), e54 36 (by decide)]; exact h5
  · rw [nB_fr e3, nG_fr e3, e 30 (by decide), e 72 (by decide)]; exact h6
  · unfold rPast at *
    rw [nB_fr e3, nG_fr e3, e 31 (by decide), e 32 (by decide), e 33 (by decide), e 75 (by decide), e 76 (by decide), e54 35 (by decide), e54 37 (by decide)]
    exact h7
  · obtain ⟨kn, c1, c2, c3⟩ := h9
    refine ⟨kn, by rw [e 38 (by decide)]; exact c1, c2, fun k hk => ?_⟩
    rw [e 41 (by decide), e 30 (by decide), c3 k hk, dueA_c h1.1 eb]
theorem le_n {a m : Nat} (ha : a < 2 ^ 31) (hm : m < 2 ^ 31) : nI a ≤ nI m ↔ a ≤ m := nI_leI ha hm
theorem t_book {qc qs qn : Nat} {x : Int32} {M : Mem} (h : Rel qc qs M) (hn : (qs = 46 ∧ qn = 47) ∨ (qs = 47 ∧ qn = 46)) : ok (f_X11_book qs qn x M) (fun r => ok (f_X12_book x r.2.2) (fun r' => ans1 r.1 r'.1 (r'.2 54 0 0) ∧ Rel qc (if r.2.1 = true then qn else qs) r'.2)) := by
  obtain ⟨t, t1, t2, t3, t4⟩ := R_tx h
  have hqn : qn = 46 ∨ qn = 47 := by rcases hn with ⟨-, rfl⟩ | ⟨-, rfl⟩ <;> decide
  have hne : qs ≠ qn := by rcases hn with ⟨rfl, rfl⟩ | ⟨rfl, rfl⟩ <;> decide
  by_cases hx : x < 0 ∨ nI (min t 100) < x
  · unfold f_X11_book
    refine ok_bindE (tkF (m := 100) t2 t1 (by decide) hx) (ok_some ?_)
    show ok (f_X12_book x (am_u3 M 0 0 14 (M 0 0 14 + 1))) _
    have e54 : (am_u3 M 0 0 14 (M 0 0 14 + 1)) 54 0 1 = nI t := t3
    have fin : ans1 (Sum.inr IAE) 0 (RM 14 1 M 54 0 0) ∧ Rel qc qs (RM 14 1 M) := ⟨⟨rfl, RM_t 14 1 M⟩, Rel_RM (k := 14) (Or.inr rfl) h⟩
    unfold f_X12_book
    by_cases h1 : x < 0 ∨ nI t < x
    · exact ok_ifp ((in_t e54).mpr h1) (ok_bindE (bad14 M (by decide)) (ok_ifn (by decide) (ok_some fin)))
    · obtain ⟨a, rfl, ha⟩ := args (n := t) rfl (by omega) h1
      have ha2 : 100 < a := by
        rcases hx with z | z
        · exact absurd z (nI_pos (by omega))
        · rw [nI_ltI (by omega) (by omega)] at z; omega
      exact ok_ifn (fun z => h1 ((in_t e54).mp z)) (ok_ifn (show ¬ nI a ≤ 100 from nI_ge (a := 100) ha2 (by omega)) (ok_bindE (bad14 M (by decide)) (ok_ifn (by decide) (ok_some fin))))
  · obtain ⟨n, rfl, hnt⟩ := args (n := min t 100) rfl (by omega) hx
    have s0 := c_take h t1 t2 (show n ≤ t by omega)
    have f0 := tkM_f (nI n) M
    unfold f_X11_book
    refine ok_bindE (tkT (m := 100) t2 t1 (by decide) hnt) ?_
    have hB := R_n16 h
    refine ok_bind (c_book (qs := qs) (nb := nB M) hqn s0 (by rw [f0 3 (by decide)]; exact R_eB h) hB) ?_
    rintro ⟨b, M2⟩ ⟨f2, g45, g45f, t02, bc⟩
    simp only at f2 g45 g45f t02 bc
    have F2 : fr [1, qn, 45] M M2 := fr_tr (fr_mono f0 (fun c hc => by rw [List.mem_singleton.mp hc]; exact List.mem_cons_self ..)) f2
    have nin : ∀ c, c ≠ 1 → c ≠ 45 → c ≠ 46 → c ≠ 47 → c ∉ [1, qn, 45] := by
      intro c a1 a2 a3 a4 z
      rcases List.mem_cons.mp z with z | z
      · exact a1 z
      · rcases List.mem_cons.mp z with z | z
        · rcases hqn with y | y
          · exact a3 (z.trans y)
          · exact a4 (z.trans y)
        · exact a2 (List.mem_singleton.mp z)
    have e54 : M2 54 = M 54 := F2 54 (nin 54 (by decide) (by decide) (by decide) (by decide))
    have e55 : M2 55 = M 55 := F2 55 (nin 55 (by decide) (by decide) (by decide) (by decide))
    have e58 : M2 58 = M 58 := F2 58 (nin 58 (by decide) (by decide) (by decide) (by decide))
    -- the model
    have mod : ok (f_X12_book (nI n) M2) (fun r' => r'.2 54 0 0 = 0 ∧ fr [54, 67, 68] M2 r'.2 ∧ (∀ j, j ∈ t54b → r'.2 54 0 j = M 54 0 j) ∧ r'.2 54 0 1 = 0 ∧ ((∃ l Lb Lv, bk (txT M) n (nB M) 13 0 zN zN 0 = Sum.inl (l, Lb, Lv) ∧ r'.1 = nI l ∧ r'.2 54 0 34 = nI l ∧ r'.2 54 0 3 = -1 ∧ BL (nB M) l Lb Lv ∧ ∀ i, i < l → r'.2 67 (i + 1) 0 = nI (Lb i) ∧ r'.2 67 (i + 1) 1 = nI (Lv i)) ∨ (∃ f, bk (txT M) n (nB M) 13 0 zN zN 0 = Sum.inr f ∧ r'.1 = nI f.1 - 10 ∧ r'.2 54 0 3 = nI f.2 ∧ r'.2 54 0 34 = M 54 0 34 ∧ r'.2 67 = M 67))) := by
      unfold f_X12_book
      have i1 : ¬ f_X12_in (nI n) 0 (M2 54 0 1) = 0 := by
        rw [e54, in_t t3]
        rintro (z | z)
        · exact nI_pos (by omega) z
        · rw [nI_ltI (by omega) (by omega)] at z; omega
      refine ok_ifn i1 (ok_ifp (show nI n ≤ 100 from nI_le (b := 100) (by omega) (by decide)) (ok_bindE (badM0 _ _ _) (ok_ifp rfl ?_)))
      refine ok_bind (m_starts (T := txT M) (by omega) (fun j hj => ?_)) ?_
      · show (M0 M2) 55 0 j = _ ∧ _
        unfold M0
        rw [u3_c (by decide), e55]
        have := t4 j (by omega)
        exact ⟨this.1, this.2.1⟩
      · rintro M55 ⟨s55, f55, g55, -, -⟩
        refine ok_bind (m_book (nb := nB M) s55 (by rw [f55 58 (by decide), M0_cc (by decide), e58]; exact R_mB h) hB) ?_
        rintro ⟨x2, M56⟩ ⟨m56, g⟩
        simp only at m56 g
        have k54 : ∀ j, j ∉ s54 → j ≠ 0 → M56 54 0 j = M 54 0 j := by
          intro j hj h0
          have hj2 : j ∉ k456 := fun z => hj (k456s j z)
          rw [m56.2 j hj2, g55 j hj, M0_j h0, e54]
        have e1 : M56 54 0 1 = 0 := (m56.2 1 (by decide)).trans s55.1.2.2.1
        have e0 : M56 54 0 0 = 0 := by rw [m56.2 0 (by decide), g55 0 (by decide)]; exact M0_t M2
        have F56 : fr [54, 67, 68] M2 M56 := fr_tr (fr_tr (fr_mono (M0_f M2) (by decide)) (fr_mono f55 (by decide))) (fr_mono m56.1 (by decide))
        rcases g with ⟨l, Lb, Lv, p, ex, rfl, s56, bl, bm⟩ | ⟨f, ex, s56⟩
        · refine ok_ifp s56.2.2.2 (ok_bind (m_layK bl.1) ?_)
          rintro M58 ⟨f58, v58⟩
          refine ok_some ⟨?_, fr_tr (fr_u3 (fr_u3 F56 (by decide)) (by decide)) (fr_mono f58 (by decide)), fun j hj => ?_, ?_, Or.inl ⟨l, Lb, Lv, ex, rfl, ?_, ?_, bl, fun i hi => ?_⟩⟩
          · show M58 54 0 0 = 0
            rw [f58 54 (by decide), u3_j (by omega), u3_j (by omega)]; exact e0
          · have h3 : j ≠ 3 := by rintro rfl; revert hj; decide
            have h34 : j ≠ 34 := by rintro rfl; revert hj; decide
            have h0 : j ≠ 0 := by rintro rfl; revert hj; decide
            have hs : j ∉ s54 := t54s j hj
            show M58 54 0 j = _
            rw [f58 54 (by decide), u3_j (by omega), u3_j (by omega)]; exact k54 j hs h0
          · show M58 54 0 1 = 0
            rw [f58 54 (by decide), u3_j (by omega), u3_j (by omega)]; exact e1
          · show M58 54 0 34 = _
            rw [f58 54 (by decide), u3_e]
          · show M58 54 0 3 = _
            rw [f58 54 (by decide), u3_j (by omega), u3_e]
          · show M58 67 (i + 1) 0 = _ ∧ M58 67 (i + 1) 1 = _
            rw [v58 i hi 0 (by decide), v58 i hi 1 (by decide), u3_c (by decide), u3_c (by decide)]
            exact bm i hi
        · refine ok_ifn (MF_ne s56) (ok_some ⟨?_, fr_u3 F56 (by decide), fun j hj => ?_, ?_, Or.inr ⟨f, ex, ?_, ?_, ?_, ?_⟩⟩)
          · show am_u3 M56 54 0 3 (M56 54 0 6) 54 0 0 = 0
            rw [u3_j (by omega)]; exact e0
          · have h3 : j ≠ 3 := by rintro rfl; revert hj; decide
            have h0 : j ≠ 0 := by rintro rfl; revert hj; decide
            have hs : j ∉ s54 := t54s j hj
            show am_u3 M56 54 0 3 (M56 54 0 6) 54 0 j = _
            rw [u3_j (by omega)]; exact k54 j hs h0
          · show am_u3 M56 54 0 3 (M56 54 0 6) 54 0 1 = 0
            rw [u3_j (by omega)]; exact e1
          · show M56 54 0 5 - 10 = _
            rw [s56.2.1]
          · show am_u3 M56 54 0 3 (M56 54 0 6) 54 0 3 = _
            rw [u3_e]; exact s56.2.2.2.1
          · show am_u3 M56 54 0 3 (M56 54 0 6) 54 0 34 = _
            rw [u3_j (by omega)]; exact k54 34 (by decide) (by decide)
          · show am_u3 M56 54 0 3 (M56 54 0 6) 67 = _
            rw [u3_c (by decide), m56.1 67 (by decide), f55 67 (by decide), M0_cc (by decide)]
            exact F2 67 (nin 67 (by decide) (by decide) (by decide) (by decide))
    generalize hX : bk (txT M) n (nB M) 13 0 zN zN 0 = X at bc mod
    have eT : ∀ {M' : Mem}, fr [54, 67, 68] M2 M' → ∀ c, c ∈ tB → M' c = M c := by
      intro M' f c hc
      rw [f c (by revert c; decide), F2 c (nin c (by rintro rfl; revert hc; decide) (by rintro rfl; revert hc; decide) (by rintro rfl; revert hc; decide) (by rintro rfl; revert hc; decide))]
    rcases X with ⟨l, Lb, Lv⟩ | f
    · obtain ⟨rfl, c5, c6, c45, bl, bcc⟩ := bc
      simp only at c45 bl bcc
      refine ok_ifp (show f_X10_isFaulty M2 = 0 by unfold f_X10_isFaulty; rw [if_pos c5]) (ok_some ?_)
      show ok (f_X12_book (nI n) M2) _
      refine ok_mono mod ?_
      rintro ⟨v, M3⟩ ⟨d0, d1, d2, d3, (⟨l', Lb', Lv', ex, q1, q2, q3, -, q5⟩ | ⟨f, ex, -⟩)⟩
      · simp only at d0 d1 d2 d3 q1 q2 q3 q5
        injection ex with ex
        obtain ⟨ea, ex⟩ := Prod.mk.inj ex
        obtain ⟨eb, ec⟩ := Prod.mk.inj ex
        subst ea eb ec
        have ein : ∀ c, c ∉ [54, 67, 68] → M3 c = M2 c := d1
        refine ⟨⟨d0, ?_⟩, ?_⟩
        · show M2 45 0 3 = v
          rw [c45, q1]
        · show Rel qc qn M3
          have e3 : M3 3 = M 3 := eT d1 3 (by decide)
          refine Rel_bk h (eT d1) d2 (rT_0 (by rw [ein 1 (by decide)]; exact t02) d3 (by rw [ein 1 (by decide), c6, q3])) hqn ⟨l, bl.1, by rw [ein 45 (by decide)]; exact c45, q2, fun i hi => ?_, fun b hb hno => ?_⟩
          · refine ⟨Lb i, Lv i, by rw [nB_fr e3]; exact (bl.2 i hi).1, (bl.2 i hi).2, (q5 i hi).1, (q5 i hi).2, ?_⟩
            rw [ein qn (by rcases hqn with rfl | rfl <;> decide)]
            exact bcc.1 i hi
          · rw [ein qn (by rcases hqn with rfl | rfl <;> decide)]
            rw [nB_fr e3] at hb
            refine bcc.2 b hb (fun i hi z => hno i hi ?_)
            rw [(q5 i hi).1, z]
      · cases ex
    · obtain ⟨rfl, cf⟩ := bc
      refine ok_ifn (fty1 cf) (ok_some ?_)
      show ok (f_X12_book (nI n) M2) _
      refine ok_mono mod ?_
      rintro ⟨v, M3⟩ ⟨d0, d1, d2, d3, (⟨l', Lb', Lv', ex, -⟩ | ⟨f', ex, q1, q2, q3, q4⟩)⟩
      · cases ex
      · simp only at d0 d1 d2 d3 q1 q2 q3 q4
        injection ex with ex
        subst ex
        have ein : ∀ c, c ∉ [54, 67, 68] → M3 c = M2 c := d1
        refine ⟨⟨d0, ?_⟩, ?_⟩
        · show M2 1 0 5 - 10 = v
          rw [cf.2.2.1, q1]
        · show Rel qc qs M3
          refine Rel_bk h (eT d1) d2 (rT_0 (by rw [ein 1 (by decide)]; exact t02) d3 (by rw [ein 1 (by decide), cf.2.2.2.2, q2])) h.2.1 ?_
          have := h.2.2.2.2.2.2.2.1
          unfold rBook at *
          have hqs : qs ∉ [1, qn, 45] := by
            rcases hn with ⟨rfl, rfl⟩ | ⟨rfl, rfl⟩ <;> decide
          rw [nB_fr (eT d1 3 (by decide)), ein 45 (by decide), g45f rfl, f0 45 (by decide), q3, q4, ein qs (by rcases h.2.1 with rfl | rfl <;> decide), F2 qs hqs]
          exact this
