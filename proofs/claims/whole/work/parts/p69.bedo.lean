/-! RIVERS: the model reads all -/
theorem m_k34 {T : Nat → Nat} {n c e q k a j : Nat} {lo : Int32} {B : Bd} {M0 M : Mem} {A1 A2 : Int32 × Mem → Option Mem} (h : MS T n e M) (hB : MB B M) (hW : WB B) (h7 : M 54 0 7 = nI c) (hlo : lo = nI a) (ha : a ≤ 1) (hj : j = 3 ∨ j = 4) (hw : ∀ v, a ≤ v → v < 5 → WB (ub B 0 j v)) (eb : bdy T n B k e q = bd (num T n a 5 e) (fun x => Sum.inl (x.1, ub B 0 j x.2))) (m : pmv M0 M) : ok (Option.bind (f_X12_number lo (4 : Int32) M) (fun x => (if (x.2 54 0 5) = 0 then (if inb (nI j) 5 = true then (if (3 : Int32) ≤ nI j then (Option.bind (f_X12_sign (59 : Int32) (am_u3 x.2 57 0 (nI j).toNatClampNeg x.1)) (fun (M' : Mem) => some M')) else A1 x) else none) else (if (3 : Int32) ≤ nI j then (Option.bind (f_X12_sign (59 : Int32) x.2) (fun (M' : Mem) => some M')) else A2 x)))) (fun M' => pmv M0 M' ∧ QM T n c (bd (bdy T n B k e q) (exB T n)) M') := by
  have h3 : (3 : Int32) ≤ nI j := nI_le (a := 3) (by omega) (by omega)
  rw [hlo]
  refine ok_bind (m_num (a := a) (b := 5) h (by omega) (by decide)) ?_
  rintro ⟨v1, M1⟩ ⟨h1, m1⟩
  simp only at h1 m1
  have p1 := pmv_tr m (pmv_m m1)
  generalize hn1 : num T n a 5 e = N1 at h1 eb
  rcases N1 with ⟨e1, x1⟩ | f
  · obtain ⟨rfl, s1⟩ := MN_l h1
    have g1 := num_f h.2.1 hn1
    rw [bd_l rfl] at eb
    rw [bd_l eb]
    dsimp only
    rw [nI_clamp (show j < 2 ^ 31 by omega)]
    refine ok_ifp s1.2.2.2 (ok_ifp (inb_n (by omega) (by decide)) (ok_ifp h3 ?_))
    refine m_semi (c := c) (p := e1) (B := ub B 0 j x1) (MS_o s1 (u3_c (by decide)) (u3_c (by decide))) (MB_57 (MB_o hB (m1.1 57 (by decide)) (m1.1 59 (by decide)) (m1.1 61 (by decide)) (m1.1 63 (by decide))) hj rfl) (hw x1 g1.1 g1.2.1) ?_ (pmv_u p1 (by decide) (by decide))
    rw [u3_c (by decide), m1.2 7 (by decide)]; exact h7
  · obtain ⟨-, s1⟩ := h1
    rw [bd_r rfl] at eb
    rw [bd_r eb]
    exact ok_ifn (MF_ne s1) (ok_ifp h3 (m_semiF s1 p1))
theorem m_k5 {T : Nat → Nat} {n c e q : Nat} {B : Bd} {M0 M : Mem} {A1 A2 : Int32 × Mem → Int32 × Mem → Option Mem} (h : MS T n e M) (hB : MB B M) (hW : WB B) (h7 : M 54 0 7 = nI c) (m : pmv M0 M) : ok (Option.bind (f_X12_number (0 : Int32) (nI (B 0 0) - 1) M) (fun x => Option.bind (f_X12_number (0 : Int32) (40 : Int32) x.2) (fun y => (if (y.2 54 0 5) = 0 then (if inb x.1 16 = true then (if (3 : Int32) ≤ 5 then (Option.bind (f_X12_sign (59 : Int32) (am_u3 y.2 59 (x.1.toNatClampNeg + 1) 3 y.1)) (fun (M' : Mem) => some M')) else A1 x y) else none) else (if (3 : Int32) ≤ 5 then (Option.bind (f_X12_sign (59 : Int32) y.2) (fun (M' : Mem) => some M')) else A2 x y))))) (fun M' => pmv M0 M' ∧ QM T n c (bd (bdy T n B 4 e q) (exB T n)) M') := by
  have h16 := hW.1
  have ub4 : bdy T n B 4 e q = bd (num T n 0 (B 0 0) e) (fun x => bd (num T n 0 41 x.1) (fun y => Sum.inl (y.1, ub B 4 x.2 y.2))) := by unfold bdy; rw [if_neg (by decide), if_neg (by decide), if_neg (by decide), if_neg (by decide), if_pos rfl]
  refine ok_bind (m_num (a := 0) (b := B 0 0) h (by decide) (by omega)) ?_
  rintro ⟨v1, M1⟩ ⟨h1, m1⟩
  simp only at h1 m1
  have p1 := pmv_tr m (pmv_m m1)
  generalize hn1 : num T n 0 (B 0 0) e = N1 at h1 ub4
  rcases N1 with ⟨e1, x1⟩ | f
  · obtain ⟨rfl, s1⟩ := MN_l h1
    have g1 := num_f h.2.1 hn1
    refine ok_bind (m_num (a := 0) (b := 41) s1 (by decide) (by decide)) ?_
    rintro ⟨v2, M2⟩ ⟨h2, m2⟩
    simp only at h2 m2
    have m12 := mmv_tr m1 m2
    have p2 := pmv_tr p1 (pmv_m m2)
    rw [bd_l rfl] at ub4
    simp only at ub4
    generalize hn2 : num T n 0 41 e1 = N2 at h2 ub4
    rcases N2 with ⟨e2, x2⟩ | f
    · obtain ⟨rfl, s2⟩ := MN_l h2
      have g2 := num_f g1.2.2.2 hn2
      rw [bd_l rfl] at ub4
      simp only at ub4
      rw [bd_l ub4]
      dsimp only
      rw [nI_clamp (show x1 < 2 ^ 31 by omega)]
      refine ok_ifp s2.2.2.2 (ok_ifp (inb_n (by omega) (by decide)) (ok_ifp (by decide) ?_))
      refine m_semi (c := c) (p := e2) (B := ub B 4 x1 x2) (MS_o s2 (u3_c (by decide)) (u3_c (by decide))) (MB_f (MB_o hB (m12.1 57 (by decide)) (m12.1 59 (by decide)) (m12.1 61 (by decide)) (m12.1 63 (by decide))) rfl) (WB_u hW (Or.inr (Or.inr ⟨rfl, g2.2.1⟩))) ?_ (pmv_u p2 (by decide) (by decide))
      rw [u3_c (by decide), m12.2 7 (by decide)]; exact h7
    · obtain ⟨-, s2⟩ := h2
      rw [bd_r rfl] at ub4
      rw [bd_r ub4]
      exact ok_ifn (MF_ne s2) (ok_ifp (by decide) (m_semiF s2 p2))
  · obtain ⟨rfl, s1⟩ := h1
    rw [bd_r rfl] at ub4
    rw [bd_r ub4]
    exact ok_bindE (m_numF s1) (ok_ifn (MF_ne s1) (ok_ifp (by decide) (m_semiF s1 p1)))
theorem cla_b {T : Nat → Nat} {n c p k : Nat} {B : Bd} (hw : wrd T n nm0 p = nI k) (hk : k < 6) (hc : ¬ c = 60) : cla T n B c p = bd (bdy T n B k (lE T n (sk T n p)) (sk T n p)) (exB T n) := by
  unfold cla
  rw [if_neg (by rw [hw]; exact nI_m1 (by omega)), if_neg hc, hw, nI_clamp (by omega)]
  rfl
theorem m_clause {T : Nat → Nat} {n c p : Nat} {B : Bd} {M : Mem} (h : MS T n p M) (hB : MB B M) (hW : WB B) (h7 : M 54 0 7 = nI c) (hc : c ≤ 60) : ok (f_X12_clause M) (fun M' => pmv M M' ∧ QM T n (c + 1) (cla T n B c p) M') := by
  have hs := sk_f (T := T) h.2.1
  have hle := lE_f (T := T) hs.2.1
  have h16 := hW.1
  have h4 := hW.2.1
  have h8 := hW.2.2.1
  obtain ⟨s1, m1, -⟩ := m_again h
  have e4 : am_u3 M 54 0 4 (nI (sk T n p)) 54 0 4 = nI (sk T n p) := u3_e _ _ _ _ _
  have e7 : am_u3 M 54 0 4 (nI (sk T n p)) 54 0 7 = nI c := by rw [u3_j (by omega)]; exact h7
  have e57 : ∀ k, k < 5 → am_u3 M 54 0 4 (nI (sk T n p)) 57 0 k = nI (B 0 k) := fun k hk => by rw [u3_c (by decide)]; exact hB.1 k hk
  have hB1 : MB B (am_u3 M 54 0 4 (nI (sk T n p))) := MB_o hB (u3_c (by decide)) (u3_c (by decide)) (u3_c (by decide)) (u3_c (by decide))
  unfold f_X12_clause
  refine ok_bindE (m_kind h) ?_
  generalize am_u3 M 54 0 4 (nI (sk T n p)) = M1 at s1 m1 e4 e7 e57 hB1
  show ok (if kI T (sk T n p) (lE T n (sk T n p)) = -1 then _ else _) _
  have wr : ∀ k, 1 ≤ k ∧ k ≤ 3 → MF T n k (sk T n p) (f_X12_wrong (nI k) (nI (sk T n p)) M1) ∧ pmv M (f_X12_wrong (nI k) (nI (sk T n p)) M1) := by
    intro k hk
    obtain ⟨b1, b2, -⟩ := MS_b (k := k) (q := sk T n p) s1 hk
    exact ⟨b1, pmv_tr (pmv_m m1) (pmv_m b2)⟩
  -- behind the word
  have hskip := m_skipW s1.1 hs.2.1 s1.2.2.1
  have s2 : MS T n (lE T n (sk T n p)) (am_u3 (am_u3 M1 54 0 4 (nI (lE T n (sk T n p)))) 54 0 7 (nI (c + 1))) := by
    refine ⟨⟨?_, s1.1.2.1, ?_, fun j hj => ?_⟩, hle.2.1, ?_, ?_⟩
    · rw [u3_j (by omega), u3_j (by omega)]; exact s1.1.1
    · rw [u3_j (by omega), u3_j (by omega)]; exact s1.1.2.2.1
    · rw [u3_c (by decide), u3_c (by decide)]; exact s1.1.2.2.2 j hj
    · rw [u3_j (by omega), u3_e]
    · rw [u3_j (by omega), u3_j (by omega)]; exact s1.2.2.2
  have hB2 : MB B (am_u3 (am_u3 M1 54 0 4 (nI (lE T n (sk T n p)))) 54 0 7 (nI (c + 1))) := MB_o hB1 (by rw [u3_c (by decide), u3_c (by decide)]) (by rw [u3_c (by decide), u3_c (by decide)]) (by rw [u3_c (by decide), u3_c (by decide)]) (by rw [u3_c (by decide), u3_c (by decide)])
  have m2 : pmv M (am_u3 (am_u3 M1 54 0 4 (nI (lE T n (sk T n p)))) 54 0 7 (nI (c + 1))) := pmv_7 (pmv_tr (pmv_m m1) (pmv_m (mmv_u mmv_rfl (by decide))))
  have q7 : (am_u3 (am_u3 M1 54 0 4 (nI (lE T n (sk T n p)))) 54 0 7 (nI (c + 1))) 54 0 7 = nI (c + 1) := u3_e _ _ _ _ _
  have e7b : am_u3 M1 54 0 4 (nI (lE T n (sk T n p))) 54 0 7 + 1 = nI (c + 1) := by rw [u3_j (by omega), e7, nI_1]
  have f57 : ∀ k, k < 5 → am_u3 M1 54 0 4 (nI (lE T n (sk T n p))) 57 0 k = nI (B 0 k) := fun k hk => by rw [u3_c (by decide)]; exact e57 k hk
  have full3 : ∀ {x : (Nat × Bd) ⊕ (Nat × Nat)}, x = Sum.inr (3, sk T n p) → ok (some (f_X12_wrong (3 : Int32) (M1 54 0 4) M1)) (fun M' => pmv M M' ∧ QM T n (c + 1) x M') := by
    intro x hx
    rw [hx, e4]
    exact ok_some ⟨(wr 3 (by decide)).2, (wr 3 (by decide)).1⟩
  have ne3 : ¬ (f_X12_wrong (3 : Int32) (M1 54 0 4) M1) 54 0 5 = 0 := by rw [e4]; exact MF_ne (wr 3 (by decide)).1
  have c60 : ∀ {k : Nat}, wrd T n nm0 p = nI k → k < 6 → c = 60 → cla T n B c p = Sum.inr (3, sk T n p) := by
    intro k hw hk h60
    unfold cla
    rw [if_neg (by rw [hw]; exact nI_m1 (by omega)), if_pos h60]
  have n60 : ¬ c = 60 → ¬ M1 54 0 7 = 60 := fun hne z => hne ((nI_eq (b := 60) (by omega) (by decide)).mp (e7.symm.trans z))
  rcases kI_w (T := T) (n := n) (p := p) with ⟨w, k⟩ | ⟨w, k⟩ | ⟨w, k⟩ | ⟨w, k⟩ | ⟨w, k⟩ | ⟨w, k⟩ | ⟨w, k⟩
  · rw [k]
    have : cla T n B c p = Sum.inr (1, sk T n p) := by unfold cla; rw [if_pos w]
    rw [this, e4]
    exact ok_ifp rfl (ok_ifn (MF_ne (wr 1 (by decide)).1) (ok_some ⟨(wr 1 (by decide)).2, (wr 1 (by decide)).1⟩))
  · rw [k]
    refine ok_ifn (by decide) ?_
    by_cases h60 : c = 60
    · exact ok_ifp (by rw [e7, h60]; rfl) (ok_ifn ne3 (full3 (c60 w (by decide) h60)))
    · refine ok_ifn (n60 h60) ?_
      rw [cla_b w (by decide) h60]
      unfold f_X12_isFull
      rw [e57 0 (by decide)]
      by_cases hf : B 0 0 = 16
      · refine ok_ifn (by rw [hf]; show ¬ (1 : Int32) = 0; decide) (ok_ifn ne3 ?_)
        exact full3 (by rw [bd_r (bdy_00 hf)])
      · have hf' : ¬ nI (B 0 0) = 16 := fun z => hf ((nI_eq (b := 16) (by omega) (by decide)).mp z)
        refine ok_ifp (by rw [if_pos rfl, if_neg hf']; rfl) (ok_ifp s1.2.2.2 (ok_bindE hskip ?_))
        rw [f57 0 (by decide), e7b, nI_clamp (show B 0 0 < 2 ^ 31 by omega)]
        refine ok_ifp rfl (ok_ifp (inb_n (by omega) (by decide)) ?_)
        exact m_k0 (A := fun z => Option.bind (f_X12_sign (59 : Int32) (am_u3 (am_u3 z.2 59 (B 0 0 + 1) 2 z.1) 59 (B 0 0 + 1) 3 (0 : Int32))) (fun (M' : Mem) => some M')) s2 hB2 hW q7 hf rfl m2
  · rw [k]
    refine ok_ifn (by decide) ?_
    by_cases h60 : c = 60
    · exact ok_ifp (by rw [e7, h60]; rfl) (ok_ifn ne3 (full3 (c60 w (by decide) h60)))
    · refine ok_ifn (n60 h60) ?_
      rw [cla_b w (by decide) h60]
      unfold f_X12_isFull
      rw [e57 1 (by decide)]
      by_cases hf : B 0 1 = 4
      · refine ok_ifn (by rw [hf]; show ¬ (1 : Int32) = 0; decide) (ok_ifn ne3 ?_)
        exact full3 (by rw [bd_r (bdy_10 hf)])
      · have hf' : ¬ nI (B 0 1) = 4 := fun z => hf ((nI_eq (b := 4) (by omega) (by decide)).mp z)
        refine ok_ifp (by rw [if_neg (by decide), if_pos rfl, if_neg hf']; rfl) (ok_ifp s1.2.2.2 (ok_bindE hskip ?_))
        rw [f57 1 (by decide), e7b, nI_clamp (show B 0 1 < 2 ^ 31 by omega)]
        refine ok_ifn (by decide) (ok_ifp rfl (ok_ifp (inb_n (by omega) (by decide)) ?_))
        exact m_k1 (A := fun z => Option.bind (f_X12_sign (59 : Int32) (am_u3 z.2 61 (B 0 1 + 1) 1 z.1)) (fun (M' : Mem) => some M')) s2 hB2 hW q7 hf rfl m2
  · rw [k]
    refine ok_ifn (by decide) ?_
    by_cases h60 : c = 60
    · exact ok_ifp (by rw [e7, h60]; rfl) (ok_ifn ne3 (full3 (c60 w (by decide) h60)))
    · refine ok_ifn (n60 h60) ?_
      rw [cla_b w (by decide) h60]
      refine ok_ifp rfl (ok_ifp s1.2.2.2 (ok_bindE hskip ?_))
      rw [e7b]
      refine ok_ifn (by decide) (ok_ifn (by decide) (ok_ifn (by decide) (ok_ifp rfl ?_)))
      exact m_k34 (j := 3) (a := 1) (A1 := fun x => Option.bind (f_X12_sign (59 : Int32) (am_u3 (am_u3 x.2 57 0 (3 : Int32).toNatClampNeg x.1) 57 0 (3 : Int32).toNatClampNeg (((am_u3 x.2 57 0 (3 : Int32).toNatClampNeg x.1) 57 0 (3 : Int32).toNatClampNeg) + (1 : Int32)))) (fun (M' : Mem) => some M')) (A2 := fun x => if inb 3 5 = true then (Option.bind (f_X12_sign (59 : Int32) (am_u3 x.2 57 0 (3 : Int32).toNatClampNeg ((x.2 57 0 (3 : Int32).toNatClampNeg) + (0 : Int32)))) (fun (M' : Mem) => some M')) else none) s2 hB2 hW q7 rfl (by decide) (Or.inl rfl) (fun v v1 v2 => WB_u hW (Or.inl ⟨rfl, rfl, v1, v2⟩)) bdy_2 m2
  · rw [k]
    refine ok_ifn (by decide) ?_
    by_cases h60 : c = 60
    · exact ok_ifp (by rw [e7, h60]; rfl) (ok_ifn ne3 (full3 (c60 w (by decide) h60)))
    · refine ok_ifn (n60 h60) ?_
      rw [cla_b w (by decide) h60]
      unfold f_X12_isFull
      rw [e57 2 (by decide)]
      by_cases hf : B 0 2 = 8
      · refine ok_ifn (by rw [hf]; show ¬ (1 : Int32) = 0; decide) (ok_ifn ne3 ?_)
        exact full3 (by rw [bd_r (bdy_30 hf)])
      · have hf' : ¬ nI (B 0 2) = 8 := fun z => hf ((nI_eq (b := 8) (by omega) (by decide)).mp z)
        refine ok_ifp (by rw [if_neg (by decide), if_neg (by decide), if_pos rfl, if_neg hf']) (ok_ifp s1.2.2.2 (ok_bindE hskip ?_))
        rw [f57 2 (by decide), f57 0 (by decide), e7b, nI_clamp (show B 0 2 < 2 ^ 31 by omega)]
        refine ok_ifn (by decide) (ok_ifn (by decide) (ok_ifp rfl (ok_ifp (inb_n (by omega) (by decide)) ?_)))
        exact m_k2 (A := fun z => Option.bind (f_X12_sign (59 : Int32) (am_u3 z.2 63 (B 0 2 + 1) 2 z.1)) (fun (M' : Mem) => some M')) s2 hB2 hW q7 hf rfl m2
  · rw [k]
    refine ok_ifn (by decide) ?_
    by_cases h60 : c = 60
    · exact ok_ifp (by rw [e7, h60]; rfl) (ok_ifn ne3 (full3 (c60 w (by decide) h60)))
    · refine ok_ifn (n60 h60) ?_
      rw [cla_b w (by decide) h60]
      refine ok_ifp rfl (ok_ifp s1.2.2.2 (ok_bindE hskip ?_))
      rw [e7b, f57 0 (by decide)]
      refine ok_ifn (by decide) (ok_ifn (by decide) (ok_ifn (by decide) (ok_ifn (by decide) (ok_ifn (by decide) (ok_ifp rfl ?_)))))
      exact m_k5 (A1 := fun x y => if inb 5 5 = true then (Option.bind (f_X12_sign (59 : Int32) (am_u3 (am_u3 y.2 59 (x.1.toNatClampNeg + 1) 3 y.1) 57 0 (5 : Int32).toNatClampNeg ((y.2 57 0 (5 : Int32).toNatClampNeg) + (1 : Int32)))) (fun (M' : Mem) => some M')) else none) (A2 := fun x y => if inb 5 5 = true then (Option.bind (f_X12_sign (59 : Int32) (am_u3 y.2 57 0 (5 : Int32).toNatClampNeg ((y.2 57 0 (5 : Int32).toNatClampNeg) + (0 : Int32)))) (fun (M' : Mem) => some M')) else none) s2 hB2 hW q7 m2
  · rw [k]
    refine ok_ifn (by decide) ?_
    by_cases h60 : c = 60
    · exact ok_ifp (by rw [e7, h60]; rfl) (ok_ifn ne3 (full3 (c60 w (by decide) h60)))
    · refine ok_ifn (n60 h60) ?_
      rw [cla_b w (by decide) h60]
      refine ok_ifp rfl (ok_ifp s1.2.2.2 (ok_bindE hskip ?_))
      rw [e7b]
      refine ok_ifn (by decide) (ok_ifn (by decide) (ok_ifn (by decide) (ok_ifn (by decide) (ok_ifp rfl ?_))))
      exact m_k34 (j := 4) (a := 0) (A1 := fun x => Option.bind (f_X12_sign (59 : Int32) (am_u3 (am_u3 x.2 57 0 (4 : Int32).toNatClampNeg x.1) 57 0 (4 : Int32).toNatClampNeg (((am_u3 x.2 57 0 (4 : Int32).toNatClampNeg x.1) 57 0 (4 : Int32).toNatClampNeg) + (1 : Int32)))) (fun (M' : Mem) => some M')) (A2 := fun x => if inb 4 5 = true then (Option.bind (f_X12_sign (59 : Int32) (am_u3 x.2 57 0 (4 : Int32).toNatClampNeg ((x.2 57 0 (4 : Int32).toNatClampNeg) + (0 : Int32)))) (fun (M' : Mem) => some M')) else none) s2 hB2 hW q7 rfl (by decide) (Or.inr rfl) (fun v v1 v2 => WB_u hW (Or.inr (Or.inl ⟨rfl, rfl, v2⟩))) bdy_5 m2
