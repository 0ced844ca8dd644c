/-! RIVERS: the model's CLAUSES -/
theorem m_k0 {T : Nat → Nat} {n c e q b : Nat} {B : Bd} {M0 M : Mem} {A : Int32 × Mem → Option Mem} (h : MS T n e M) (hB : MB B M) (hW : WB B) (h7 : M 54 0 7 = nI c) (hf : ¬ B 0 0 = 16) (hb : b = B 0 0) (m : pmv M0 M) : ok (Option.bind (f_X12_number (0 : Int32) (9 : Int32) M) (fun x => Option.bind (f_X12_number (0 : Int32) (20 : Int32) (am_u3 x.2 59 (b + 1) 0 x.1)) (fun y => Option.bind (f_X12_number (0 : Int32) (9 : Int32) (am_u3 y.2 59 (b + 1) 1 y.1)) (fun z => (if (3 : Int32) ≤ 0 then A z else (if inb 0 5 = true then (if (z.2 54 0 5) = 0 then (Option.bind (f_X12_sign (59 : Int32) (am_u3 (am_u3 (am_u3 z.2 59 (b + 1) 2 z.1) 59 (b + 1) 3 (0 : Int32)) 57 0 (0 : Int32).toNatClampNeg ((z.2 57 0 (0 : Int32).toNatClampNeg) + (1 : Int32)))) (fun (M' : Mem) => some M')) else (Option.bind (f_X12_sign (59 : Int32) (am_u3 (am_u3 (am_u3 z.2 59 (b + 1) 2 z.1) 59 (b + 1) 3 (0 : Int32)) 57 0 (0 : Int32).toNatClampNeg ((z.2 57 0 (0 : Int32).toNatClampNeg) + (0 : Int32)))) (fun (M' : Mem) => some M'))) else none)))))) (fun M' => pmv M0 M' ∧ QM T n c (bd (bdy T n B 0 e q) (exB T n)) M') := by
  have h16 := hW.1
  subst hb
  have deadE : ∀ {k z : Nat} {v : Int32} {M3 : Mem}, MF T n k z M3 → pmv M0 M3 → ok (if (3 : Int32) ≤ 0 then A (v, M3) else (if inb 0 5 = true then (if (M3 54 0 5) = 0 then (Option.bind (f_X12_sign (59 : Int32) (am_u3 (am_u3 (am_u3 M3 59 (B 0 0 + 1) 2 v) 59 (B 0 0 + 1) 3 (0 : Int32)) 57 0 (0 : Int32).toNatClampNeg ((M3 57 0 (0 : Int32).toNatClampNeg) + (1 : Int32)))) (fun (M' : Mem) => some M')) else (Option.bind (f_X12_sign (59 : Int32) (am_u3 (am_u3 (am_u3 M3 59 (B 0 0 + 1) 2 v) 59 (B 0 0 + 1) 3 (0 : Int32)) 57 0 (0 : Int32).toNatClampNeg ((M3 57 0 (0 : Int32).toNatClampNeg) + (0 : Int32)))) (fun (M' : Mem) => some M'))) else none)) (fun M' => pmv M0 M' ∧ MF T n k z M') := by
    intro k z v M3 s3 m3
    refine ok_ifn (by decide) (ok_ifp (by decide) (ok_ifn (MF_ne s3) ?_))
    exact m_semiF (MF_o s3 (by rw [u3_c (by decide), u3_c (by decide), u3_c (by decide)]) (by rw [u3_c (by decide), u3_c (by decide), u3_c (by decide)])) (pmv_u (pmv_u (pmv_u m3 (by decide) (by decide)) (by decide) (by decide)) (by decide) (by decide))
  refine ok_bind (m_num (a := 0) (b := 10) h (by decide) (by decide)) ?_
  rintro ⟨v1, M1⟩ ⟨h1, m1⟩
  simp only at h1 m1
  have p1 := pmv_tr m (pmv_m m1)
  generalize hn1 : num T n 0 10 e = N1 at h1
  rcases N1 with ⟨e1, x1⟩ | f
  · obtain ⟨rfl, s1⟩ := MN_l h1
    have g1 := num_f h.2.1 hn1
    have s1' : MS T n e1 (am_u3 M1 59 (B 0 0 + 1) 0 (nI x1)) := MS_o s1 (u3_c (by decide)) (u3_c (by decide))
    refine ok_bind (m_num (a := 0) (b := 21) s1' (by decide) (by decide)) ?_
    rintro ⟨v2, M2⟩ ⟨h2, m2⟩
    simp only at h2 m2
    have p2 := pmv_tr (pmv_u (c := 59) p1 (by decide) (by decide)) (pmv_m m2)
    generalize hn2 : num T n 0 21 e1 = N2 at h2
    rcases N2 with ⟨e2, x2⟩ | f
    · obtain ⟨rfl, s2⟩ := MN_l h2
      have g2 := num_f g1.2.2.2 hn2
      have s2' : MS T n e2 (am_u3 M2 59 (B 0 0 + 1) 1 (nI x2)) := MS_o s2 (u3_c (by decide)) (u3_c (by decide))
      refine ok_bind (m_num (a := 0) (b := 10) s2' (by decide) (by decide)) ?_
      rintro ⟨v3, M3⟩ ⟨h3, m3⟩
      simp only at h3 m3
      have p3 := pmv_tr (pmv_u (c := 59) p2 (by decide) (by decide)) (pmv_m m3)
      generalize hn3 : num T n 0 10 e2 = N3 at h3
      rcases N3 with ⟨e3, x3⟩ | f
      · obtain ⟨rfl, s3⟩ := MN_l h3
        have g3 := num_f g2.2.2.2 hn3
        have eb : bdy T n B 0 e q = Sum.inl (e3, bB B x1 x2 x3) := by unfold bdy; rw [if_pos rfl, if_neg hf, bd_l hn1, bd_l hn2, bd_l hn3]
        rw [bd_l eb]
        dsimp only
        refine ok_ifn (by decide) (ok_ifp (by decide) (ok_ifp s3.2.2.2 ?_))
        refine m_semi (c := c) (p := e3) (B := bB B x1 x2 x3) (MS_o s3 (by rw [u3_c (by decide), u3_c (by decide), u3_c (by decide)]) (by rw [u3_c (by decide), u3_c (by decide), u3_c (by decide)])) (MB_B hB _ ?_ ?_ ?_ ?_ ?_ ?_ ?_ ?_) (WB_B hW hf g1.2.1 g2.2.1 g3.2.1) ?_ (pmv_u (pmv_u (pmv_u p3 (by decide) (by decide)) (by decide) (by decide)) (by decide) (by decide))
        · rw [u3_c (by decide), u3_c (by decide), u3_c (by decide), m3.1 61 (by decide), u3_c (by decide), m2.1 61 (by decide), u3_c (by decide), m1.1 61 (by decide)]
        · rw [u3_c (by decide), u3_c (by decide), u3_c (by decide), m3.1 63 (by decide), u3_c (by decide), m2.1 63 (by decide), u3_c (by decide), m1.1 63 (by decide)]
        · intro j
          have e57 : M3 57 = M 57 := by rw [m3.1 57 (by decide), u3_c (by decide), m2.1 57 (by decide), u3_c (by decide), m1.1 57 (by decide)]
          by_cases ej : j = 0
          · subst ej
            rw [if_pos rfl]
            show am_u3 _ 57 0 0 (M3 57 0 0 + 1) 57 0 0 = _
            rw [u3_e, e57, hB.1 0 (by decide), nI_1]
          · rw [if_neg ej]
            show am_u3 _ 57 0 0 _ 57 0 j = _
            rw [u3_j (by omega), u3_c (by decide), u3_c (by decide), e57]
        · intro r hr
          rw [u3_c (by decide), u3_rr hr, u3_rr hr, m3.1 59 (by decide), u3_rr hr, m2.1 59 (by decide), u3_rr hr, m1.1 59 (by decide)]
        · rw [u3_c (by decide), u3_j (by omega), u3_j (by omega), m3.1 59 (by decide), u3_j (by omega), m2.1 59 (by decide), u3_e]
        · rw [u3_c (by decide), u3_j (by omega), u3_j (by omega), m3.1 59 (by decide), u3_e]
        · rw [u3_c (by decide), u3_j (by omega), u3_e]
        · rw [u3_c (by decide), u3_e]
        · rw [u3_c (by decide), u3_c (by decide), u3_c (by decide), m3.2 7 (by decide), u3_c (by decide), m2.2 7 (by decide), u3_c (by decide), m1.2 7 (by decide)]; exact h7
      · obtain ⟨-, s3⟩ := h3
        rw [bd_r (show bdy T n B 0 e q = Sum.inr f by unfold bdy; rw [if_pos rfl, if_neg hf, bd_l hn1, bd_l hn2, bd_r hn3])]
        exact deadE s3 p3
    · obtain ⟨rfl, s2⟩ := h2
      rw [bd_r (show bdy T n B 0 e q = Sum.inr f by unfold bdy; rw [if_pos rfl, if_neg hf, bd_l hn1, bd_r hn2])]
      have s2' : MF T n f.1 f.2 (am_u3 M2 59 (B 0 0 + 1) 1 0) := MF_o s2 (u3_c (by decide)) (u3_c (by decide))
      exact ok_bindE (m_numF s2') (deadE s2' (pmv_u p2 (by decide) (by decide)))
  · obtain ⟨rfl, s1⟩ := h1
    rw [bd_r (show bdy T n B 0 e q = Sum.inr f by unfold bdy; rw [if_pos rfl, if_neg hf, bd_r hn1])]
    have s1' : MF T n f.1 f.2 (am_u3 M1 59 (B 0 0 + 1) 0 0) := MF_o s1 (u3_c (by decide)) (u3_c (by decide))
    have s2' : MF T n f.1 f.2 (am_u3 (am_u3 M1 59 (B 0 0 + 1) 0 0) 59 (B 0 0 + 1) 1 0) := MF_o s1' (u3_c (by decide)) (u3_c (by decide))
    exact ok_bindE (m_numF s1') (ok_bindE (m_numF s2') (deadE s2' (pmv_u (pmv_u p1 (by decide) (by decide)) (by decide) (by decide))))
theorem m_k1 {T : Nat → Nat} {n c e q b : Nat} {B : Bd} {M0 M : Mem} {A : Int32 × Mem → Option Mem} (h : MS T n e M) (hB : MB B M) (hW : WB B) (h7 : M 54 0 7 = nI c) (hf : ¬ B 0 1 = 4) (hb : b = B 0 1) (m : pmv M0 M) : ok (Option.bind (f_X12_number (0 : Int32) (9 : Int32) M) (fun x => Option.bind (f_X12_number (0 : Int32) (95 : Int32) (am_u3 x.2 61 (b + 1) 0 x.1)) (fun z => (if (3 : Int32) ≤ 1 then A z else (if inb 1 5 = true then (if (z.2 54 0 5) = 0 then (Option.bind (f_X12_sign (59 : Int32) (am_u3 (am_u3 z.2 61 (b + 1) 1 z.1) 57 0 (1 : Int32).toNatClampNeg ((z.2 57 0 (1 : Int32).toNatClampNeg) + (1 : Int32)))) (fun (M' : Mem) => some M')) else (Option.bind (f_X12_sign (59 : Int32) (am_u3 (am_u3 z.2 61 (b + 1) 1 z.1) 57 0 (1 : Int32).toNatClampNeg ((z.2 57 0 (1 : Int32).toNatClampNeg) + (0 : Int32)))) (fun (M' : Mem) => some M'))) else none))))) (fun M' => pmv M0 M' ∧ QM T n c (bd (bdy T n B 1 e q) (exB T n)) M') := by
  have h4 := hW.2.1
  subst hb
  have deadE : ∀ {k z : Nat} {v : Int32} {M3 : Mem}, MF T n k z M3 → pmv M0 M3 → ok (if (3 : Int32) ≤ 1 then A (v, M3) else (if inb 1 5 = true then (if (M3 54 0 5) = 0 then (Option.bind (f_X12_sign (59 : Int32) (am_u3 (am_u3 M3 61 (B 0 1 + 1) 1 v) 57 0 (1 : Int32).toNatClampNeg ((M3 57 0 (1 : Int32).toNatClampNeg) + (1 : Int32)))) (fun (M' : Mem) => some M')) else (Option.bind (f_X12_sign (59 : Int32) (am_u3 (am_u3 M3 61 (B 0 1 + 1) 1 v) 57 0 (1 : Int32).toNatClampNeg ((M3 57 0 (1 : Int32).toNatClampNeg) + (0 : Int32)))) (fun (M' : Mem) => some M'))) else none)) (fun M' => pmv M0 M' ∧ MF T n k z M') := by
    intro k z v M3 s3 m3
    refine ok_ifn (by decide) (ok_ifp (by decide) (ok_ifn (MF_ne s3) ?_))
    exact m_semiF (MF_o s3 (by rw [u3_c (by decide), u3_c (by decide)]) (by rw [u3_c (by decide), u3_c (by decide)])) (pmv_u (pmv_u m3 (by decide) (by decide)) (by decide) (by decide))
  refine ok_bind (m_num (a := 0) (b := 10) h (by decide) (by decide)) ?_
  rintro ⟨v1, M1⟩ ⟨h1, m1⟩
  simp only at h1 m1
  have p1 := pmv_tr m (pmv_m m1)
  generalize hn1 : num T n 0 10 e = N1 at h1
  rcases N1 with ⟨e1, x1⟩ | f
  · obtain ⟨rfl, s1⟩ := MN_l h1
    have g1 := num_f h.2.1 hn1
    have s1' : MS T n e1 (am_u3 M1 61 (B 0 1 + 1) 0 (nI x1)) := MS_o s1 (u3_c (by decide)) (u3_c (by decide))
    refine ok_bind (m_num (a := 0) (b := 96) s1' (by decide) (by decide)) ?_
    rintro ⟨v2, M2⟩ ⟨h2, m2⟩
    simp only at h2 m2
    have p2 := pmv_tr (pmv_u (c := 61) p1 (by decide) (by decide)) (pmv_m m2)
    generalize hn2 : num T n 0 96 e1 = N2 at h2
    rcases N2 with ⟨e2, x2⟩ | f
    · obtain ⟨rfl, s2⟩ := MN_l h2
      have g2 := num_f g1.2.2.2 hn2
      have eb : bdy T n B 1 e q = Sum.inl (e2, bG B x1 x2) := by unfold bdy; rw [if_neg (by decide), if_pos rfl, if_neg hf, bd_l hn1, bd_l hn2]
      rw [bd_l eb]
      dsimp only
      refine ok_ifn (by decide) (ok_ifp (by decide) (ok_ifp s2.2.2.2 ?_))
      refine m_semi (c := c) (p := e2) (B := bG B x1 x2) (MS_o s2 (by rw [u3_c (by decide), u3_c (by decide)]) (by rw [u3_c (by decide), u3_c (by decide)])) (MB_G hB _ ?_ ?_ ?_ ?_ ?_ ?_) (WB_G hW hf g1.2.1 g2.2.1) ?_ (pmv_u (pmv_u p2 (by decide) (by decide)) (by decide) (by decide))
      · rw [u3_c (by decide), u3_c (by decide), m2.1 59 (by decide), u3_c (by decide), m1.1 59 (by decide)]
      · rw [u3_c (by decide), u3_c (by decide), m2.1 63 (by decide), u3_c (by decide), m1.1 63 (by decide)]
      · intro j
        have e57 : M2 57 = M 57 := by rw [m2.1 57 (by decide), u3_c (by decide), m1.1 57 (by decide)]
        by_cases ej : j = 1
        · subst ej
          rw [if_pos rfl]
          show am_u3 _ 57 0 1 (M2 57 0 1 + 1) 57 0 1 = _
          rw [u3_e, e57, hB.1 1 (by decide), nI_1]
        · rw [if_neg ej]
          show am_u3 _ 57 0 1 _ 57 0 j = _
          rw [u3_j (by omega), u3_c (by decide), e57]
      · intro r hr
        rw [u3_c (by decide), u3_rr hr, m2.1 61 (by decide), u3_rr hr, m1.1 61 (by decide)]
      · rw [u3_c (by decide), u3_j (by omega), m2.1 61 (by decide), u3_e]
      · rw [u3_c (by decide), u3_e]
      · rw [u3_c (by decide), u3_c (by decide), m2.2 7 (by decide), u3_c (by decide), m1.2 7 (by decide)]; exact h7
    · obtain ⟨-, s2⟩ := h2
      rw [bd_r (show bdy T n B 1 e q = Sum.inr f by unfold bdy; rw [if_neg (by decide), if_pos rfl, if_neg hf, bd_l hn1, bd_r hn2])]
      exact deadE s2 p2
  · obtain ⟨rfl, s1⟩ := h1
    rw [bd_r (show bdy T n B 1 e q = Sum.inr f by unfold bdy; rw [if_neg (by decide), if_pos rfl, if_neg hf, bd_r hn1])]
    have s1' : MF T n f.1 f.2 (am_u3 M1 61 (B 0 1 + 1) 0 0) := MF_o s1 (u3_c (by decide)) (u3_c (by decide))
    exact ok_bindE (m_numF s1') (deadE s1' (pmv_u p1 (by decide) (by decide)))
theorem m_k2 {T : Nat → Nat} {n c e q b : Nat} {B : Bd} {M0 M : Mem} {A : Int32 × Mem → Option Mem} (h : MS T n e M) (hB : MB B M) (hW : WB B) (h7 : M 54 0 7 = nI c) (hf : ¬ B 0 2 = 8) (hb : b = B 0 2) (m : pmv M0 M) : ok (Option.bind (f_X12_number (0 : Int32) (nI (B 0 0) - 1) M) (fun x => Option.bind (f_X12_number ((am_u3 x.2 63 (b + 1) 0 x.1) 63 (b + 1) 0) ((x.2 57 0 0) - (1 : Int32)) (am_u3 x.2 63 (b + 1) 0 x.1)) (fun y => Option.bind (f_X12_number (1 : Int32) (40 : Int32) (am_u3 y.2 63 (b + 1) 1 y.1)) (fun z => (if (3 : Int32) ≤ 2 then A z else (if inb 2 5 = true then (if (z.2 54 0 5) = 0 then (Option.bind (f_X12_sign (59 : Int32) (am_u3 (am_u3 z.2 63 (b + 1) 2 z.1) 57 0 (2 : Int32).toNatClampNeg ((z.2 57 0 (2 : Int32).toNatClampNeg) + (1 : Int32)))) (fun (M' : Mem) => some M')) else (Option.bind (f_X12_sign (59 : Int32) (am_u3 (am_u3 z.2 63 (b + 1) 2 z.1) 57 0 (2 : Int32).toNatClampNeg ((z.2 57 0 (2 : Int32).toNatClampNeg) + (0 : Int32)))) (fun (M' : Mem) => some M'))) else none)))))) (fun M' => pmv M0 M' ∧ QM T n c (bd (bdy T n B 3 e q) (exB T n)) M') := by
  have h8 := hW.2.2.1
  have h16 := hW.1
  subst hb
  have deadE : ∀ {k z : Nat} {v : Int32} {M3 : Mem}, MF T n k z M3 → pmv M0 M3 → ok (if (3 : Int32) ≤ 2 then A (v, M3) else (if inb 2 5 = true then (if (M3 54 0 5) = 0 then (Option.bind (f_X12_sign (59 : Int32) (am_u3 (am_u3 M3 63 (B 0 2 + 1) 2 v) 57 0 (2 : Int32).toNatClampNeg ((M3 57 0 (2 : Int32).toNatClampNeg) + (1 : Int32)))) (fun (M' : Mem) => some M')) else (Option.bind (f_X12_sign (59 : Int32) (am_u3 (am_u3 M3 63 (B 0 2 + 1) 2 v) 57 0 (2 : Int32).toNatClampNeg ((M3 57 0 (2 : Int32).toNatClampNeg) + (0 : Int32)))) (fun (M' : Mem) => some M'))) else none)) (fun M' => pmv M0 M' ∧ MF T n k z M') := by
    intro k z v M3 s3 m3
    refine ok_ifn (by decide) (ok_ifp (by decide) (ok_ifn (MF_ne s3) ?_))
    exact m_semiF (MF_o s3 (by rw [u3_c (by decide), u3_c (by decide)]) (by rw [u3_c (by decide), u3_c (by decide)])) (pmv_u (pmv_u m3 (by decide) (by decide)) (by decide) (by decide))
  have ub3 : bdy T n B 3 e q = bd (num T n 0 (B 0 0) e) (fun x => bd (num T n x.2 (B 0 0) x.1) (fun y => bd (num T n 1 41 y.1) (fun z => Sum.inl (z.1, bT B x.2 y.2 z.2)))) := by unfold bdy; rw [if_neg (by decide), if_neg (by decide), if_neg (by decide), if_pos rfl, if_neg hf]
  refine ok_bind (m_num (a := 0) (b := B 0 0) h (by decide) (by omega)) ?_
  rintro ⟨v1, M1⟩ ⟨h1, m1⟩
  simp only at h1 m1
  have p1 := pmv_tr m (pmv_m m1)
  generalize hn1 : num T n 0 (B 0 0) e = N1 at h1 ub3
  rcases N1 with ⟨e1, x1⟩ | f
  · obtain ⟨rfl, s1⟩ := MN_l h1
    have g1 := num_f h.2.1 hn1
    have s1' : MS T n e1 (am_u3 M1 63 (B 0 2 + 1) 0 (nI x1)) := MS_o s1 (u3_c (by decide)) (u3_c (by decide))
    have e57a : M1 57 0 0 = nI (B 0 0) := by rw [m1.1 57 (by decide)]; exact hB.1 0 (by decide)
    show ok (Option.bind (f_X12_number ((am_u3 M1 63 (B 0 2 + 1) 0 (nI x1)) 63 (B 0 2 + 1) 0) ((M1 57 0 0) - (1 : Int32)) (am_u3 M1 63 (B 0 2 + 1) 0 (nI x1))) _) _
    rw [u3_e, e57a]
    refine ok_bind (m_num (a := x1) (b := B 0 0) s1' (by omega) (by omega)) ?_
    rintro ⟨v2, M2⟩ ⟨h2, m2⟩
    simp only at h2 m2
    have p2 := pmv_tr (pmv_u (c := 63) p1 (by decide) (by decide)) (pmv_m m2)
    rw [bd_l rfl] at ub3
    simp only at ub3
    generalize hn2 : num T n x1 (B 0 0) e1 = N2 at h2 ub3
    rcases N2 with ⟨e2, x2⟩ | f
    · obtain ⟨rfl, s2⟩ := MN_l h2
      have g2 := num_f g1.2.2.2 hn2
      have s2' : MS T n e2 (am_u3 M2 63 (B 0 2 + 1) 1 (nI x2)) := MS_o s2 (u3_c (by decide)) (u3_c (by decide))
      refine ok_bind (m_num (a := 1) (b := 41) s2' (by decide) (by decide)) ?_
      rintro ⟨v3, M3⟩ ⟨h3, m3⟩
      simp only at h3 m3
      have p3 := pmv_tr (pmv_u (c := 63) p2 (by decide) (by decide)) (pmv_m m3)
      rw [bd_l rfl] at ub3
      simp only at ub3
      generalize hn3 : num T n 1 41 e2 = N3 at h3 ub3
      rcases N3 with ⟨e3, x3⟩ | f
      · obtain ⟨rfl, s3⟩ := MN_l h3
        have g3 := num_f g2.2.2.2 hn3
        rw [bd_l rfl] at ub3
        simp only at ub3
        rw [bd_l ub3]
        dsimp only
        refine ok_ifn (by decide) (ok_ifp (by decide) (ok_ifp s3.2.2.2 ?_))
        refine m_semi (c := c) (p := e3) (B := bT B x1 x2 x3) (MS_o s3 (by rw [u3_c (by decide), u3_c (by decide)]) (by rw [u3_c (by decide), u3_c (by decide)])) (MB_T hB _ ?_ ?_ ?_ ?_ ?_ ?_ ?_) (WB_T hW hf g2.1 g2.2.1 g3.1 g3.2.1) ?_ (pmv_u (pmv_u p3 (by decide) (by decide)) (by decide) (by decide))
        · rw [u3_c (by decide), u3_c (by decide), m3.1 59 (by decide), u3_c (by decide), m2.1 59 (by decide), u3_c (by decide), m1.1 59 (by decide)]
        · rw [u3_c (by decide), u3_c (by decide), m3.1 61 (by decide), u3_c (by decide), m2.1 61 (by decide), u3_c (by decide), m1.1 61 (by decide)]
        · intro j
          have e57 : M3 57 = M 57 := by rw [m3.1 57 (by decide), u3_c (by decide), m2.1 57 (by decide), u3_c (by decide), m1.1 57 (by decide)]
          by_cases ej : j = 2
          · subst ej
            rw [if_pos rfl]
            show am_u3 _ 57 0 2 (M3 57 0 2 + 1) 57 0 2 = _
            rw [u3_e, e57, hB.1 2 (by decide), nI_1]
          · rw [if_neg ej]
            show am_u3 _ 57 0 2 _ 57 0 j = _
            rw [u3_j (by omega), u3_c (by decide), e57]
        · intro r hr
          rw [u3_c (by decide), u3_rr hr, m3.1 63 (by decide), u3_rr hr, m2.1 63 (by decide), u3_rr hr, m1.1 63 (by decide)]
        · rw [u3_c (by decide), u3_j (by omega), m3.1 63 (by decide), u3_j (by omega), m2.1 63 (by decide), u3_e]
        · rw [u3_c (by decide), u3_j (by omega), m3.1 63 (by decide), u3_e]
        · rw [u3_c (by decide), u3_e]
        · rw [u3_c (by decide), u3_c (by decide), m3.2 7 (by decide), u3_c (by decide), m2.2 7 (by decide), u3_c (by decide), m1.2 7 (by decide)]; exact h7
      · obtain ⟨-, s3⟩ := h3
        rw [bd_r rfl] at ub3
        rw [bd_r ub3]
        exact deadE s3 p3
    · obtain ⟨rfl, s2⟩ := h2
      rw [bd_r rfl] at ub3
      rw [bd_r ub3]
      have s2' : MF T n f.1 f.2 (am_u3 M2 63 (B 0 2 + 1) 1 0) := MF_o s2 (u3_c (by decide)) (u3_c (by decide))
      exact ok_bindE (m_numF s2') (deadE s2' (pmv_u p2 (by decide) (by decide)))
  · obtain ⟨rfl, s1⟩ := h1
    rw [bd_r rfl] at ub3
    rw [bd_r ub3]
    have s1' : MF T n f.1 f.2 (am_u3 M1 63 (B 0 2 + 1) 0 0) := MF_o s1 (u3_c (by decide)) (u3_c (by decide))
    have s2' : MF T n f.1 f.2 (am_u3 (am_u3 M1 63 (B 0 2 + 1) 0 0) 63 (B 0 2 + 1) 1 0) := MF_o s1' (u3_c (by decide)) (u3_c (by decide))
    exact ok_bindE (m_numF s1') (ok_bindE (m_numF s2') (deadE s2' (pmv_u (pmv_u p1 (by decide) (by decide)) (by decide) (by decide))))
