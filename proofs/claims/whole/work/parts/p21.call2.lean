theorem not_rng {x lo hi : Int32} (h : ¬ (x < lo ∨ hi < x)) : lo ≤ x ∧ x ≤ hi := by
  constructor
  · rw [← Int32.not_lt]; exact fun z => h (Or.inl z)
  · rw [← Int32.not_lt]; exact fun z => h (Or.inr z)
theorem args {x hi : Int32} {n : Nat} (e : hi = nI n) (hn : n < 2 ^ 31) (h : ¬ (x < 0 ∨ hi < x)) : ∃ k, x = nI k ∧ k ≤ n := rng hn (not_rng h).1 (e ▸ (not_rng h).2)
theorem lt_lit {k n : Nat} (hk : k < 2 ^ 31) (hn : n < 2 ^ 31) (h : k ≠ n) : ¬ nI k = nI n := fun z => h ((nI_eq hk hn).mp z)
theorem cch_ol {qc : Nat} {M M' : Mem} (hq : qc = 24 ∨ qc = 25) (h : fr cS M M') (h38 : M' 38 0 5 = M 38 0 5) (h41 : M' 41 = M 41) (hc : cch qc M) : cch qc M' := by
  obtain ⟨kn, c1, c2, c3⟩ := hc
  refine ⟨kn, by rw [h38]; exact c1, c2, fun k hk => ?_⟩
  rw [h41, h 30 (by decide), c3 k hk, dueA_c hq (asks_b (asks_c h))]
theorem g58 {qc : Nat} {M : Mem} (hb : base qc M) : M 58 0 1 = nI (nG M) := by rw [hb.2.2.2.2.2.1]; exact hb.2.2.2.1.2.1.1
theorem s58 {qc : Nat} {M : Mem} (hb : base qc M) : M 58 0 2 = nI (nS M) := by rw [hb.2.2.2.2.2.2.1]; exact hb.2.2.2.1.2.2.1.1
theorem v58 {qc : Nat} {M : Mem} (hb : base qc M) : M 58 0 3 = nI (vF M) := by rw [hb.2.2.2.2.2.2.2.1]; exact hb.2.2.2.1.2.2.2.1.1
theorem k58 {qc : Nat} {M : Mem} (hb : base qc M) : M 58 0 4 = nI (kS M) := by rw [hb.2.2.2.2.2.2.2.2.1]; exact hb.2.2.2.1.2.2.2.2.1
/-- what is open now, by both -/
theorem now_bits {qc : Nat} {M : Mem} (hn : nB M ≤ 16) {a b : Nat → Int32} (hs : SR (nB M) (nG M) a b) : bitsN (opB qc M b) (nB M) = openA qc M a 0 := by
  refine tK_bits (k := 0) hn hs ⟨?_, fun _ _ => rfl, fun _ _ _ => rfl, hs.2.2.2.2.2.2.1⟩
  exact (add00 _).symm
theorem t_told {qc qs qd : Nat} {x : Int32} {M : Mem} (h : Rel qc qs M) : ok (f_X11_told qc qd x M) (fun r => ok (f_X12_told x r.2) (fun r' => ans1 r.1 r'.1 (r'.2 54 0 0) ∧ Rel qc qs r'.2)) := by
  by_cases hx : x < 0 ∨ 9 < x
  · unfold f_X11_told
    refine ok_bindE (fitF hx) (ok_some ?_)
    unfold f_X12_told
    refine ok_ifp ((in_eq _ _ _).mpr hx) (ok_bindE (bad14 M (by decide)) (ok_ifn (by decide) (ok_some ⟨⟨rfl, RM_t 14 1 M⟩, Rel_RM (k := 14) (Or.inr rfl) h⟩)))
  · obtain ⟨k, rfl, hk⟩ := args (n := 9) rfl (by decide) hx
    have hb := h.1
    have hs := h.2.2.2.2.2.1.1
    have h16 := hb.2.2.2.1.1.2
    have h4 := hb.2.2.2.1.2.1.2
    unfold f_X11_told
    refine ok_bindE (fitT hx) ?_
    have model : ∀ M1 : Mem, Rel qc qs M1 → ∀ y : Int32, (M1 3 = M 3) → (M1 30 = M 30) → (M1 45 0 3 = M 45 0 3) → (M1 0 = M 0) → (∀ c, c ∈ bCells → M1 c = M c) →
        (k = 0 → y = M 3 0 0) → (k = 1 → y = M 3 0 5) → (k = 2 → y = M 3 0 8) → (k = 3 → y = M 30 0 0) → (k = 4 → y = bcI (openA qc M (M 30 0) 0)) → (k = 5 → y = sumN (fun j => M 30 0 (3 + j)) 16) → (k = 6 → y = sumN (fun j => M 30 0 (19 + j)) 16) → (k = 7 → y = thr (fun k => M 30 0 (35 + k)) 4) → (k = 8 → y = M 45 0 3) → (k = 9 → y = M 0 0 12) →
        ok (f_X12_told (nI k) M1) (fun r' => ans1 (.inl y) r'.1 (r'.2 54 0 0) ∧ Rel qc qs r'.2) := by
      intro M1 h1 y e3 e30 e45 e0 eb y0 y1 y2 y3 y4 y5 y6 y7 y8 y9
      have hb1 := h1.1
      have hbm := base_M0 hb1
      have hs1 := h1.2.2.2.2.2.1.1
      have fin : ∀ M2 : Mem, mfr (M0 M1) M2 → M2 54 0 0 = 0 → Rel qc qs M2 := fun M2 m _ => Rel_q h1 asks_rfl h1.2.2.2.2.2.2.2.2 (mfr_tr (mfr_M0 M1) m)
      have f0 := fin (M0 M1) mfr_rfl (M0_t M1)
      have n1 : nB (M0 M1) = nB M := (nB_fr (M0_c (by decide))).trans (nB_fr e3)
      have n2 : nG (M0 M1) = nG M := (nG_fr (M0_c (by decide))).trans (nG_fr e3)
      have t1 := M0_t M1
      unfold f_X12_told
      refine ok_ifn (fun z => hx ((in_eq _ _ _).mp z)) (ok_bindE (badM0 _ _ _) (ok_ifp rfl ?_))
      have c58 : M0 M1 58 = M1 58 := M0_c (by decide)
      have c72 : M0 M1 72 = M1 72 := M0_c (by decide)
      have hk' : k = 0 ∨ k = 1 ∨ k = 2 ∨ k = 3 ∨ k = 4 ∨ k = 5 ∨ k = 6 ∨ k = 7 ∨ k = 8 ∨ k = 9 := by omega
      rcases hk' with rfl | rfl | rfl | rfl | rfl | rfl | rfl | rfl | rfl | rfl
      · refine ok_ifp rfl (ok_ifp rfl (ok_some ⟨⟨t1, ?_⟩, f0⟩))
        show y = M0 M1 58 0 0
        rw [y0 rfl, nb58 hbm, n1, hb.2.2.2.1.1.1]
      · refine ok_ifn (by decide) (ok_ifp rfl (ok_ifp rfl (ok_some ⟨⟨t1, ?_⟩, f0⟩)))
        show y = M0 M1 58 0 1
        rw [y1 rfl, g58 hbm, n2, hb.2.2.2.1.2.1.1]
      · refine ok_ifn (by decide) (ok_ifn (by decide) (ok_ifp rfl (ok_ifp rfl (ok_some ⟨⟨t1, ?_⟩, f0⟩))))
        show y = M0 M1 58 0 2
        rw [y2 rfl, c58, hb1.2.2.2.2.2.2.1, e3]
      · refine ok_ifn (by decide) (ok_ifn (by decide) (ok_ifn (by decide) (ok_ifp rfl (ok_some ⟨⟨t1, ?_⟩, f0⟩))))
        show y = M0 M1 72 0 63
        rw [y3 rfl, c72, ← hs1.1, e30]
      · refine ok_ifn (by decide) (ok_ifn (by decide) (ok_ifn (by decide) (ok_ifn (by decide) (ok_ifp rfl (ok_bind (m_openBits (qc := qc) (Or.inl rfl) hbm) ?_)))))
        rintro ⟨v, M2⟩ ⟨rfl, f2⟩
        simp only at f2
        refine ok_bindE (ones_eq _) (ok_some ⟨⟨?_, ?_⟩, fin M2 (mfr_f f2 (by decide)) ?_⟩)
        · show M2 54 0 0 = 0
          rw [f2 54 (by decide)]; exact t1
        · have e1 : bitsN (opB qc (M0 M1) (M0 M1 72 0)) (nB (M0 M1)) = openA qc M (M 30 0) 0 := by
            rw [c72, now_bits (qc := qc) (a := M1 30 0) (by rw [n1]; exact h16) (by rw [n1, n2]; rw [nB_fr e3, nG_fr e3] at hs1; exact hs1), e30]
            exact openA_c hb.1 (fun c hc => (asks_b (asks_m (mfr_M0 M1)) c hc).trans (eb c hc)) _ _
          rw [y4 rfl, e1, bc_ones (fun j h1 h2 => openA_hi h16 hs (by omega) h2)]
        · rw [f2 54 (by decide)]; exact t1
      · refine ok_ifn (by decide) (ok_ifn (by decide) (ok_ifn (by decide) (ok_ifn (by decide) (ok_ifn (by decide) (ok_ifp rfl (ok_bindE (m_sumOf (f := 16) rfl (nb58 hbm) (by rw [n1]; exact h16) (by decide)) (ok_some ⟨⟨t1, ?_⟩, f0⟩)))))))
        rw [y5 rfl, n1, c72]
        refine sumN_z h16 (fun j hj => ?_) (fun j h1 h2 => hs.2.2.1.2 j h1 h2)
        rw [← e30, ← hs1.2.2.1.1 j (by rw [nB_fr e3]; exact hj)]
      · refine ok_ifn (by decide) (ok_ifn (by decide) (ok_ifn (by decide) (ok_ifn (by decide) (ok_ifn (by decide) (ok_ifn (by decide) (ok_ifp rfl (ok_bindE (m_sumOf (f := 32) rfl (nb58 hbm) (by rw [n1]; exact h16) (by decide)) (ok_some ⟨⟨t1, ?_⟩, f0⟩))))))))
        rw [y6 rfl, n1, c72]
        refine sumN_z h16 (fun j hj => ?_) (fun j h1 h2 => hs.2.2.2.1.2 j h1 h2)
        rw [← e30, ← hs1.2.2.2.1.1 j (by rw [nB_fr e3]; exact hj)]
      · refine ok_ifn (by decide) (ok_ifn (by decide) (ok_ifn (by decide) (ok_ifn (by decide) (ok_ifn (by decide) (ok_ifn (by decide) (ok_ifn (by decide) (ok_ifp rfl (ok_bindE (m_through (g58 hbm) (by rw [n2]; exact h4)) (ok_some ⟨⟨t1, ?_⟩, f0⟩)))))))))
        rw [y7 rfl, n2, c72]
        refine thr_z h4 (fun j hj => ?_) (fun j h1 h2 => hs.2.2.2.2.1.2 j h1 h2)
        rw [← e30, ← (hs1.2.2.2.2.1.1 j (by rw [nG_fr e3]; exact hj)).1]
      · refine ok_ifn (by decide) (ok_ifn (by decide) (ok_ifn (by decide) (ok_ifn (by decide) (ok_ifn (by decide) (ok_ifn (by decide) (ok_ifn (by decide) (ok_ifn (by decide) (ok_ifp rfl (ok_some ⟨⟨t1, ?_⟩, f0⟩)))))))))
        obtain ⟨l, -, l1, l2, -⟩ := h1.2.2.2.2.2.2.2.1
        show y = M0 M1 54 0 34
        rw [y8 rfl, ← e45, l1, (mfr_M0 M1).2 34 (by decide), l2]
      · refine ok_ifn (by decide) (ok_ifn (by decide) (ok_ifn (by decide) (ok_ifn (by decide) (ok_ifn (by decide) (ok_ifn (by decide) (ok_ifn (by decide) (ok_ifn (by decide) (ok_ifn (by decide) (ok_some ⟨⟨t1, ?_⟩, f0⟩)))))))))
        show y = M0 M1 54 0 36
        rw [y9 rfl, ← e0, h1.2.2.2.2.1.1, (mfr_M0 M1).2 36 (by decide)]
    have hk' : k = 0 ∨ k = 1 ∨ k = 2 ∨ k = 3 ∨ k = 4 ∨ k = 5 ∨ k = 6 ∨ k = 7 ∨ k = 8 ∨ k = 9 := by omega
    have mm := fun y => model M h y rfl rfl rfl rfl (fun _ _ => rfl)
    rcases hk' with rfl | rfl | rfl | rfl | rfl | rfl | rfl | rfl | rfl | rfl
    · exact ok_ifp rfl (ok_some (mm _ (fun _ => rfl) (by simp) (by simp) (by simp) (by simp) (by simp) (by simp) (by simp) (by simp) (by simp)))
    · exact ok_ifn (by decide) (ok_ifp rfl (ok_some (mm _ (by simp) (fun _ => rfl) (by simp) (by simp) (by simp) (by simp) (by simp) (by simp) (by simp) (by simp))))
    · exact ok_ifn (by decide) (ok_ifn (by decide) (ok_ifp rfl (ok_some (mm _ (by simp) (by simp) (fun _ => rfl) (by simp) (by simp) (by simp) (by simp) (by simp) (by simp) (by simp)))))
    · exact ok_ifn (by decide) (ok_ifn (by decide) (ok_ifn (by decide) (ok_ifp rfl (ok_some (mm _ (by simp) (by simp) (by simp) (fun _ => rfl) (by simp) (by simp) (by simp) (by simp) (by simp) (by simp))))))
    · refine ok_ifn (by decide) (ok_ifn (by decide) (ok_ifn (by decide) (ok_ifn (by decide) (ok_ifp rfl (ok_bind (c_openNow hb h.2.2.2.2.2.2.2.2) ?_)))))
      rintro ⟨v, M1⟩ ⟨rfl, f1, c1⟩
      simp only at f1 c1
      exact ok_some (model M1 (Rel_a h (asks_ol f1) c1) _ (f1.1 3 (by decide)) (f1.1 30 (by decide)) (by rw [f1.1 45 (by decide)]) (f1.1 0 (by decide)) (e_ol f1) (by simp) (by simp) (by simp) (by simp) (fun _ => rfl) (by simp) (by simp) (by simp) (by simp) (by simp))
    · exact ok_ifn (by decide) (ok_ifn (by decide) (ok_ifn (by decide) (ok_ifn (by decide) (ok_ifn (by decide) (ok_ifp rfl (ok_bindE c_allFines (ok_some (mm _ (by simp) (by simp) (by simp) (by simp) (by simp) (fun _ => rfl) (by simp) (by simp) (by simp) (by simp)))))))))
    · exact ok_ifn (by decide) (ok_ifn (by decide) (ok_ifn (by decide) (ok_ifn (by decide) (ok_ifn (by decide) (ok_ifn (by decide) (ok_ifp rfl (ok_bindE c_allKnocks (ok_some (mm _ (by simp) (by simp) (by simp) (by simp) (by simp) (by simp) (fun _ => rfl) (by simp) (by simp) (by simp))))))))))
    · exact ok_ifn (by decide) (ok_ifn (by decide) (ok_ifn (by decide) (ok_ifn (by decide) (ok_ifn (by decide) (ok_ifn (by decide) (ok_ifn (by decide) (ok_ifp rfl (ok_bindE c_through (ok_some (mm _ (by simp) (by simp) (by simp) (by simp) (by simp) (by simp) (by simp) (fun _ => rfl) (by simp) (by simp)))))))))))
    · exact ok_ifn (by decide) (ok_ifn (by decide) (ok_ifn (by decide) (ok_ifn (by decide) (ok_ifn (by decide) (ok_ifn (by decide) (ok_ifn (by decide) (ok_ifn (by decide) (ok_ifp rfl (ok_some (mm _ (by simp) (by simp) (by simp) (by simp) (by simp) (by simp) (by simp) (by simp) (fun _ => rfl) (by simp)))))))))))
    · exact ok_ifn (by decide) (ok_ifn (by decide) (ok_ifn (by decide) (ok_ifn (by decide) (ok_ifn (by decide) (ok_ifn (by decide) (ok_ifn (by decide) (ok_ifn (by decide) (ok_ifn (by decide) (ok_some (mm _ (by simp) (by simp) (by simp) (by simp) (by simp) (by simp) (by simp) (by simp) (by simp) (fun _ => rfl)))))))))))
