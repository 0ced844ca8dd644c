/-! image, restore: both sides -/
theorem rTape_s {M M' : Mem} (h : rTape M) (e1 : M' 1 = M 1) (e2 : M' 2 = M 2) (e55 : M' 55 = M 55) (q1 : M' 54 0 1 = M 54 0 1) (q3 : M' 54 0 3 = M 54 0 3) : rTape M' := by
  unfold rTape at *
  rw [e1, e2, e55, q1, q3]
  exact h
theorem k_image {M : Mem} {m : Nat} (p3 : M 31 0 3 = nI m) (hm : m < 3) : f_X11_image M = some (nI (m + 1), am_u3 (am_u3 (am_cp (am_cp M 32 0 0 33 (m + 1) 0 752) 30 0 0 33 (m + 1) 752 47) 33 (m + 1) 799 (M 31 0 1)) 31 0 3 (nI (m + 1))) := by
  unfold f_X11_image f_X7_keepImage f_X8_writeTo_i
  rw [p3, if_pos (show nI m < 3 from nI_lt (b := 3) hm (by decide)), if_pos (inb_n hm (by decide)), nI_clamp (show m < 2 ^ 31 by omega), if_pos (show ¬ (752 : Int32) < 0 by decide), if_pos (show (752 : Int32).toNatClampNeg + (47 : Int32).toNatClampNeg ≤ 800 by decide)]
  have e1 : am_cp (am_cp M 32 0 0 33 (m + 1) 0 752) 30 0 0 33 (m + 1) (752 : Int32).toNatClampNeg 47 = am_cp (am_cp M 32 0 0 33 (m + 1) 0 752) 30 0 0 33 (m + 1) 752 47 := rfl
  rw [e1]
  have e2 : am_cp (am_cp M 32 0 0 33 (m + 1) 0 752) 30 0 0 33 (m + 1) 752 47 31 = M 31 := by rw [cp_c (by decide), cp_c (by decide)]
  simp only [Option.bind]
  rw [if_neg (show ¬ (1 : Int32) = 0 by decide), u3_e, e2, p3, nI_1]
theorem t_image {qc qs : Nat} {M : Mem} (h : Rel qc qs M) : ok (f_X11_image M) (fun r => ok (f_X12_image r.2) (fun r' => r.1 = r'.1 ∧ Rel qc qs r'.2)) := by
  have hn := R_n16 h
  have hg := R_g4 h
  obtain ⟨w, m, hw, hm, p1, p2, p3, p4, p5, p6⟩ := h.2.2.2.2.2.2.1
  by_cases h3 : m = 3
  · subst h3
    unfold f_X11_image f_X7_keepImage
    rw [p3]
    refine ok_bindE (if_neg (by decide)) (ok_ifp rfl (ok_some ?_))
    unfold f_X12_image
    exact ok_ifp p4 (ok_some ⟨rfl, Rel_M0 h⟩)
  · refine ok_of (k_image p3 (by omega)) ?_
    show ok (f_X12_image (am_u3 (am_u3 (am_cp (am_cp M 32 0 0 33 (m + 1) 0 752) 30 0 0 33 (m + 1) 752 47) 33 (m + 1) 799 (M 31 0 1)) 31 0 3 (nI (m + 1)))) (fun r' => nI (m + 1) = r'.1 ∧ Rel qc qs r'.2)
    have f1 : fr [31, 33] M (am_u3 (am_u3 (am_cp (am_cp M 32 0 0 33 (m + 1) 0 752) 30 0 0 33 (m + 1) 752 47) 33 (m + 1) 799 (M 31 0 1)) 31 0 3 (nI (m + 1))) := fr_u3 (fr_u3 (fr_cp (fr_cp fr_rfl (by decide)) (by decide)) (by decide)) (by decide)
    have e31 : ∀ j, (am_u3 (am_u3 (am_cp (am_cp M 32 0 0 33 (m + 1) 0 752) 30 0 0 33 (m + 1) 752 47) 33 (m + 1) 799 (M 31 0 1)) 31 0 3 (nI (m + 1))) 31 0 j = if j = 3 then nI (m + 1) else M 31 0 j := by
      intro j
      rw [u3_r, u3_c (by decide), cp_c (by decide), cp_c (by decide)]
      rfl
    have e33r : ∀ r, r ≠ m + 1 → (am_u3 (am_u3 (am_cp (am_cp M 32 0 0 33 (m + 1) 0 752) 30 0 0 33 (m + 1) 752 47) 33 (m + 1) 799 (M 31 0 1)) 31 0 3 (nI (m + 1))) 33 r = M 33 r := by
      intro r hr
      rw [u3_c (by decide), u3_rr hr, cp_r hr, cp_r hr]
    have e33a : (am_u3 (am_u3 (am_cp (am_cp M 32 0 0 33 (m + 1) 0 752) 30 0 0 33 (m + 1) 752 47) 33 (m + 1) 799 (M 31 0 1)) 31 0 3 (nI (m + 1))) 33 (m + 1) 799 = nI w := by
      rw [u3_c (by decide), u3_e, p1]
    have e33b : ∀ j, j < 47 → (am_u3 (am_u3 (am_cp (am_cp M 32 0 0 33 (m + 1) 0 752) 30 0 0 33 (m + 1) 752 47) 33 (m + 1) 799 (M 31 0 1)) 31 0 3 (nI (m + 1))) 33 (m + 1) (752 + j) = M 30 0 j := by
      intro j hj
      rw [u3_c (by decide), u3_j (by omega), cp_j, if_pos (by omega), cp_c (by decide), show 0 + (752 + j - 752) = j by omega]
    have e33c : ∀ j, j < 752 → (am_u3 (am_u3 (am_cp (am_cp M 32 0 0 33 (m + 1) 0 752) 30 0 0 33 (m + 1) 752 47) 33 (m + 1) 799 (M 31 0 1)) 31 0 3 (nI (m + 1))) 33 (m + 1) j = M 32 0 j := by
      intro j hj
      rw [u3_c (by decide), u3_j (by omega), cp_j, if_neg (by omega), cp_j, if_pos (by omega), show 0 + (j - 0) = j by omega]
    generalize (am_u3 (am_u3 (am_cp (am_cp M 32 0 0 33 (m + 1) 0 752) 30 0 0 33 (m + 1) 752 47) 33 (m + 1) 799 (M 31 0 1)) 31 0 3 (nI (m + 1))) = M1 at f1 e31 e33r e33a e33b e33c
    have g54 : M1 54 = M 54 := f1 54 (by decide)
    unfold f_X12_image
    rw [g54, p4, nI_clamp (show m < 2 ^ 31 by omega)]
    refine ok_ifn (fun z => h3 ((nI_eq (b := 3) (by omega) (by decide)).mp z)) (ok_ifp (inb_n (by omega) (by decide)) (ok_bind m_puts0 ?_))
    rintro M2 ⟨q1, q2, q3, q4, -⟩
    have k54 : ∀ j, j ≠ 38 → j ≠ 0 → M2 54 0 j = M 54 0 j := fun j h1 h2 => by rw [q4 j h1, u3_j (by omega), g54]
    have c72 : am_u3 M1 54 0 0 0 72 = M 72 := by rw [u3_c (by decide), f1 72 (by decide)]
    have c75 : am_u3 M1 54 0 0 0 75 = M 75 := by rw [u3_c (by decide), f1 75 (by decide)]
    have c76 : am_u3 M1 54 0 0 0 76 = M 76 := by rw [u3_c (by decide), f1 76 (by decide)]
    have hc0 : cont (am_u3 M1 54 0 0 0) 0 = nI w := by
      show am_u3 M1 54 0 0 0 54 0 35 = _
      rw [u3_j (by omega), g54, p2]
    have hc1 : ∀ k, k < 66 → cont (am_u3 M1 54 0 0 0) (1 + k) = M 72 0 k := by
      intro k hk
      unfold cont
      rw [if_neg (by omega), if_pos (by omega), c72, show 1 + k - 1 = k by omega]
    have hc2 : ∀ i k, k < 66 → cont (am_u3 M1 54 0 0 0) (67 + 66 * i + k) = M 75 (i + 1) k := by
      intro i k hk
      unfold cont
      rw [if_neg (by omega), if_neg (by omega), c75, show (67 + 66 * i + k - 67) / 66 = i by omega, show (67 + 66 * i + k - 67) % 66 = k by omega]
    have f2 : fr [31, 33, 54, 76] M M2 := fr_tr (fr_u3 (fr_mono f1 (by decide)) (by decide)) (fr_mono q1 (by decide))
    have s31 : M2 31 = M1 31 := by rw [q1 31 (by decide), u3_c (by decide)]
    have s33 : M2 33 = M1 33 := by rw [q1 33 (by decide), u3_c (by decide)]
    refine ok_some ⟨?_, ?_⟩
    · show nI (m + 1) = M2 54 0 37 + 1
      rw [k54 37 (by decide) (by decide), p4, nI_1]
    · show Rel qc qs (am_u3 M2 54 0 37 (M2 54 0 37 + 1))
      have f3 : fr [31, 33, 54, 76] M (am_u3 M2 54 0 37 (M2 54 0 37 + 1)) := fr_u3 f2 (by decide)
      have u54 : ∀ j, j ≠ 38 → j ≠ 0 → am_u3 M2 54 0 37 (M2 54 0 37 + 1) 54 0 j = if j = 37 then nI (m + 1) else M 54 0 j := by
        intro j h1 h2
        by_cases hj : j = 37
        · rw [hj, u3_e, if_pos rfl, k54 37 (by decide) (by decide), p4, nI_1]
        · rw [u3_j (by omega), if_neg hj]; exact k54 j h1 h2
      have v31 : am_u3 M2 54 0 37 (M2 54 0 37 + 1) 31 = M1 31 := by rw [u3_c (by decide), s31]
      have v33 : am_u3 M2 54 0 37 (M2 54 0 37 + 1) 33 = M1 33 := by rw [u3_c (by decide), s33]
      have v76 : am_u3 M2 54 0 37 (M2 54 0 37 + 1) 76 = M2 76 := u3_c (by decide)
      generalize am_u3 M2 54 0 37 (M2 54 0 37 + 1) = M3 at f3 u54 v31 v33 v76
      have e3 : M3 3 = M 3 := f3 3 (by decide)
      have ge : ∀ c, c ∈ gCells → M3 c = M c := fun c hc => f3 c (by revert c; decide)
      refine Rel_gen h ge (by rw [u54 19 (by decide) (by decide)]; rfl) (by rw [u54 34 (by decide) (by decide)]; rfl) (by rw [f3 45 (by decide)]) (rTape_s h.2.2.2.1 (f3 1 (by decide)) (f3 2 (by decide)) (f3 55 (by decide)) (by rw [u54 1 (by decide) (by decide)]; rfl) (by rw [u54 3 (by decide) (by decide)]; rfl)) ?_ ?_ ?_ (cch_s h.1.1 ge (by rw [f3 38 (by decide)]) (f3 41 (by decide)) (by rw [f3 30 (by decide)]) (R_cch h))
      · unfold rCnt
        rw [f3 0 (by decide), f3 56 (by decide), u54 36 (by decide) (by decide)]
        exact h.2.2.2.2.1
      · rw [f3 30 (by decide), f3 72 (by decide)]
        exact h.2.2.2.2.2.1
      · refine ⟨w, m + 1, hw, by omega, ?_, ?_, ?_, ?_, ?_, fun q hq => ?_⟩
        · rw [v31, e31]; exact p1
        · rw [u54 35 (by decide) (by decide)]; exact p2
        · rw [v31, e31]; rfl
        · rw [u54 37 (by decide) (by decide)]; rfl
        · rw [nB_fr e3, nG_fr e3, f3 32 (by decide), f3 75 (by decide)]; exact p5
        · rw [nB_fr e3, nG_fr e3, v33, v76]
          by_cases hqm : q = m
          · subst hqm
            refine ⟨w, hw, e33a, ?_, ?_, fun i hi => ?_⟩
            · rw [q3 0 (by decide)]; exact hc0
            · exact SRk_cong hn hg h.2.2.2.2.2.1 (fun j hj => e33b j hj) (fun j hj => by rw [q3 _ (by omega)]; exact hc1 j hj)
            · exact SRk_cong hn hg (p5 i hi) (fun j hj => e33c _ (by omega)) (fun j hj => by rw [q3 _ (by omega)]; exact hc2 i j hj)
          · rw [e33r (q + 1) (by omega), q2 (q + 1) (by omega), c76]
            exact p6 q (by omega)
theorem k_restore {M : Mem} {m : Nat} (p3 : M 31 0 3 = nI m) (h0 : 0 < m) (hm : m ≤ 3) : f_X11_restore M = some (nI (m - 1), am_u3 (am_u3 (am_u3 (am_cp (am_cp (am_u3 M 31 0 3 (nI (m - 1))) 33 m 0 32 0 0 752) 33 m 752 30 0 0 47) 31 0 1 (M 33 m 799)) 0 0 12 0) 38 0 5 0) := by
  unfold f_X11_restore f_X7_bringBackImage f_X8_readFrom_i
  rw [p3, if_pos (show 0 < nI m from nI_lt (a := 0) h0 (by omega)), nI_sub1 (by omega), if_pos (inb_n (show m - 1 < 3 by omega) (by decide)), nI_clamp (show m - 1 < 2 ^ 31 by omega), show m - 1 + 1 = m by omega, if_pos (show ¬ (752 : Int32) < 0 by decide), if_pos (show (752 : Int32).toNatClampNeg + (47 : Int32).toNatClampNeg ≤ 800 by decide)]
  have e1 : am_cp (am_cp (am_u3 M 31 0 3 (nI (m - 1))) 33 m 0 32 0 0 752) 33 m (752 : Int32).toNatClampNeg 30 0 0 47 = am_cp (am_cp (am_u3 M 31 0 3 (nI (m - 1))) 33 m 0 32 0 0 752) 33 m 752 30 0 0 47 := rfl
  rw [e1]
  have e2 : am_cp (am_cp (am_u3 M 31 0 3 (nI (m - 1))) 33 m 0 32 0 0 752) 33 m 752 30 0 0 47 33 = M 33 := by rw [cp_c (by decide), cp_c (by decide), u3_c (by decide)]
  have e3 : am_cp (am_cp (am_u3 M 31 0 3 (nI (m - 1))) 33 m 0 32 0 0 752) 33 m 752 30 0 0 47 31 0 3 = nI (m - 1) := by rw [cp_c (by decide), cp_c (by decide), u3_e]
  simp only [Option.bind]
  rw [if_neg (show ¬ (1 : Int32) = 0 by decide), u3_j (by omega), e3, e2]
theorem t_restore {qc qs : Nat} {M : Mem} (h : Rel qc qs M) : ok (f_X11_restore M) (fun r => ok (f_X12_restore r.2) (fun r' => r.1 = r'.1 ∧ Rel qc qs r'.2)) := by
  have hn := R_n16 h
  have hg := R_g4 h
  obtain ⟨w, m, hw, hm, p1, p2, p3, p4, p5, p6⟩ := h.2.2.2.2.2.2.1
  by_cases h0 : m = 0
  · subst h0
    unfold f_X11_restore f_X7_bringBackImage
    rw [p3]
    refine ok_bindE (if_neg (by decide)) (ok_ifp rfl (ok_some ?_))
    unfold f_X12_restore
    exact ok_ifp p4 (ok_some ⟨rfl, Rel_M0 h⟩)
  · obtain ⟨w', hw', i1, i2, i3, i4⟩ := p6 (m - 1) (by omega)
    rw [show m - 1 + 1 = m by omega] at i1 i2 i3 i4
    refine ok_of (k_restore p3 (by omega) hm) ?_
    show ok (f_X12_restore (am_u3 (am_u3 (am_u3 (am_cp (am_cp (am_u3 M 31 0 3 (nI (m - 1))) 33 m 0 32 0 0 752) 33 m 752 30 0 0 47) 31 0 1 (M 33 m 799)) 0 0 12 0) 38 0 5 0)) (fun r' => nI (m - 1) = r'.1 ∧ Rel qc qs r'.2)
    have f1 : fr [0, 30, 31, 32, 38] M (am_u3 (am_u3 (am_u3 (am_cp (am_cp (am_u3 M 31 0 3 (nI (m - 1))) 33 m 0 32 0 0 752) 33 m 752 30 0 0 47) 31 0 1 (M 33 m 799)) 0 0 12 0) 38 0 5 0) := fr_u3 (fr_u3 (fr_u3 (fr_cp (fr_cp (fr_u3 fr_rfl (by decide)) (by decide)) (by decide)) (by decide)) (by decide)) (by decide)
    have e31 : ∀ j, (am_u3 (am_u3 (am_u3 (am_cp (am_cp (am_u3 M 31 0 3 (nI (m - 1))) 33 m 0 32 0 0 752) 33 m 752 30 0 0 47) 31 0 1 (M 33 m 799)) 0 0 12 0) 38 0 5 0) 31 0 j = if j = 1 then nI w' else if j = 3 then nI (m - 1) else M 31 0 j := by
      intro j
      rw [u3_c (by decide), u3_c (by decide), u3_r, cp_c (by decide), cp_c (by decide), u3_r, i1]
      rfl
    have e30 : ∀ j, j < 47 → (am_u3 (am_u3 (am_u3 (am_cp (am_cp (am_u3 M 31 0 3 (nI (m - 1))) 33 m 0 32 0 0 752) 33 m 752 30 0 0 47) 31 0 1 (M 33 m 799)) 0 0 12 0) 38 0 5 0) 30 0 j = M 33 m (752 + j) := by
      intro j hj
      rw [u3_c (by decide), u3_c (by decide), u3_c (by decide), cp_j, if_pos (by omega), cp_c (by decide), u3_c (by decide), show 752 + (j - 0) = 752 + j by omega]
    have e32 : ∀ j, j < 752 → (am_u3 (am_u3 (am_u3 (am_cp (am_cp (am_u3 M 31 0 3 (nI (m - 1))) 33 m 0 32 0 0 752) 33 m 752 30 0 0 47) 31 0 1 (M 33 m 799)) 0 0 12 0) 38 0 5 0) 32 0 j = M 33 m j := by
      intro j hj
      rw [u3_c (by decide), u3_c (by decide), u3_c (by decide), cp_c (by decide), cp_j, if_pos (by omega), u3_c (by decide), show 0 + (j - 0) = j by omega]
    have e0 : ∀ j, (am_u3 (am_u3 (am_u3 (am_cp (am_cp (am_u3 M 31 0 3 (nI (m - 1))) 33 m 0 32 0 0 752) 33 m 752 30 0 0 47) 31 0 1 (M 33 m 799)) 0 0 12 0) 38 0 5 0) 0 0 j = if j = 12 then 0 else M 0 0 j := by
      intro j
      rw [u3_c (by decide), u3_r, u3_c (by decide), cp_c (by decide), cp_c (by decide), u3_c (by decide)]
      rfl
    have e38 : (am_u3 (am_u3 (am_u3 (am_cp (am_cp (am_u3 M 31 0 3 (nI (m - 1))) 33 m 0 32 0 0 752) 33 m 752 30 0 0 47) 31 0 1 (M 33 m 799)) 0 0 12 0) 38 0 5 0) 38 0 5 = 0 := u3_e _ _ _ _ _
    generalize (am_u3 (am_u3 (am_u3 (am_cp (am_cp (am_u3 M 31 0 3 (nI (m - 1))) 33 m 0 32 0 0 752) 33 m 752 30 0 0 47) 31 0 1 (M 33 m 799)) 0 0 12 0) 38 0 5 0) = M1 at f1 e31 e30 e32 e0 e38
    have g54 : M1 54 = M 54 := f1 54 (by decide)
    unfold f_X12_restore
    rw [g54, p4, nI_sub1 (by omega), nI_clamp (show m - 1 < 2 ^ 31 by omega), show m - 1 + 1 = m by omega]
    refine ok_ifn (nI_ne0 (by omega) (by omega)) (ok_ifp (inb_n (by omega) (by decide)) (ok_bind m_puts1 ?_))
    rintro M2 ⟨q1, -, q3, q4, q5, q6⟩
    have c76 : am_u3 (am_u3 M1 54 0 0 0) 54 0 37 (nI (m - 1)) 76 = M 76 := by rw [u3_c (by decide), u3_c (by decide), f1 76 (by decide)]
    rw [c76] at q4 q5 q6
    have k54 : ∀ j, j ≠ 38 → j ≠ 35 → M2 54 0 j = if j = 37 then nI (m - 1) else if j = 0 then 0 else M 54 0 j := fun j h1 h2 => by rw [q3 j h1 h2, u3_r, u3_r, g54]; rfl
    refine ok_some ⟨?_, ?_⟩
    · show nI (m - 1) = M2 54 0 37
      rw [k54 37 (by decide) (by decide)]; rfl
    · show Rel qc qs (am_u3 M2 54 0 36 0)
      have f3 : fr [0, 30, 31, 32, 38, 54, 72, 75] M (am_u3 M2 54 0 36 0) := fr_u3 (fr_tr (fr_u3 (fr_u3 (fr_mono f1 (by decide)) (by decide)) (by decide)) (fr_mono q1 (by decide))) (by decide)
      have u54 : ∀ j, j ≠ 38 → j ≠ 35 → am_u3 M2 54 0 36 0 54 0 j = if j = 36 then 0 else if j = 37 then nI (m - 1) else if j = 0 then 0 else M 54 0 j := by
        intro j h1 h2
        rw [u3_r]
        unfold upd1
        rw [k54 j h1 h2]
      have u35 : am_u3 M2 54 0 36 0 54 0 35 = nI w' := by rw [u3_j (by omega), q4 (by decide), i2]
      have s1 : ∀ c, c ∉ [54, 72, 75] → am_u3 M2 54 0 36 0 c = M1 c := fun c hc => by rw [u3_c (by simp at hc; omega), q1 c hc, u3_c (by simp at hc; omega), u3_c (by simp at hc; omega)]
      have v72 : ∀ j, j < 66 → am_u3 M2 54 0 36 0 72 0 j = M 76 m (1 + j) := fun j hj => by rw [u3_c (by decide)]; exact q5 j hj (by omega)
      have v75 : ∀ i j, i < 16 → j < 66 → am_u3 M2 54 0 36 0 75 (i + 1) j = M 76 m (67 + 66 * i + j) := fun i j hi hj => by rw [u3_c (by decide)]; exact q6 i j hj (by omega)
      generalize am_u3 M2 54 0 36 0 = M3 at f3 u54 u35 s1 v72 v75
      have e3 : M3 3 = M 3 := f3 3 (by decide)
      have ge : ∀ c, c ∈ gCells → M3 c = M c := fun c hc => f3 c (by revert c; decide)
      refine Rel_gen h ge (by rw [u54 19 (by decide) (by decide)]; rfl) (by rw [u54 34 (by decide) (by decide)]; rfl) (by rw [f3 45 (by decide)]) (rTape_s h.2.2.2.1 (f3 1 (by decide)) (f3 2 (by decide)) (f3 55 (by decide)) (by rw [u54 1 (by decide) (by decide)]; rfl) (by rw [u54 3 (by decide) (by decide)]; rfl)) ?_ ?_ ?_ (cch_0 (by rw [s1 38 (by decide)]; exact e38))
      · obtain ⟨-, c2, c3⟩ := h.2.2.2.2.1
        unfold rCnt
        rw [s1 0 (by decide), e0, e0, e0, f3 56 (by decide), u54 36 (by decide) (by decide)]
        exact ⟨rfl, c2, c3⟩
      · exact SRk_cong hn hg i3 (fun j hj => by rw [s1 30 (by decide)]; exact e30 j hj) v72
      · refine ⟨w', m - 1, hw', by omega, ?_, u35, ?_, ?_, fun i hi => ?_, fun q hq => ?_⟩
        · rw [s1 31 (by decide), e31]; rfl
        · rw [s1 31 (by decide), e31]; rfl
        · rw [u54 37 (by decide) (by decide)]; rfl
        · rw [nB_fr e3, nG_fr e3]
          exact SRk_cong hn hg (i4 i hi) (fun j hj => by rw [s1 32 (by decide)]; exact e32 _ (by omega)) (fun j hj => v75 i j (by omega) hj)
        · rw [nB_fr e3, nG_fr e3, f3 33 (by decide), f3 76 (by decide)]
          exact p6 q (by omega)
