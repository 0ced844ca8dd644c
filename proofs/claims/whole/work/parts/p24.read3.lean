/-! BOARDS, LAWS, SETS, SMELLS -/
theorem isb_if (c : Prop) {i : Decidable c} : isb (@ite _ c i 0 1) = true := by split <;> rfl
theorem ite01 (c : Prop) {i : Decidable c} : (@ite Int32 c i 0 1) = 0 ∨ (@ite Int32 c i 0 1) = 1 := by
  by_cases h : c
  · rw [if_pos h]; exact Or.inl rfl
  · rw [if_neg h]; exact Or.inr rfl
theorem t_board {qc qs qd : Nat} {x y : Int32} {M : Mem} (h : Rel qc qs M) : ok (f_X11_board qc qd x y M) (fun r => ok (f_X12_board x y r.2) (fun r' => ans2 r.1 r'.1 (r'.2 54 0 0) ∧ Rel qc qs r'.2)) := by
  have hg := R_n16 h
  have em := R_mB h
  unfold f_X11_board
  by_cases hx : x < 0 ∨ M 3 0 0 ≤ x
  · refine ok_bindE (bdF hx) (ok_some ?_)
    rw [R_eB h] at hx
    unfold f_X12_board
    exact ok_ifp (inF em (by omega) hx) (ok_bindE (bad13 M (by decide)) (ok_ifn (by decide) (ok_some ⟨Or.inl ⟨rfl, RM_t 13 1 M⟩, Rel_RM (k := 13) (Or.inl rfl) h⟩)))
  · refine ok_bindE (bdT hx) ?_
    rw [R_eB h] at hx
    obtain ⟨k, rfl, hk⟩ := there_arg (by omega) hx
    by_cases hy : y < 0 ∨ 7 < y
    · refine ok_bindE (fitF hy) (ok_some ?_)
      unfold f_X12_board
      exact ok_ifn (inT em (by omega) hk) (ok_bindE (badM0 _ _ _) (ok_ifp rfl (ok_ifp ((in_eq _ _ _).mpr hy) (ok_bindE (bad14 M (by decide)) (ok_ifn (by decide) (ok_some ⟨Or.inr ⟨rfl, RM_t 14 2 M⟩, Rel_RM (k := 14) (Or.inr rfl) h⟩))))))
    · obtain ⟨j, rfl, hj⟩ := args (n := 7) rfl (by decide) hy
      refine ok_bindE (fitT hy) ?_
      have model : ∀ M1 : Mem, Rel qc qs M1 → asks M M1 → ∀ v : Int32, (j = 0 → v = M 4 0 k) → (j = 1 → v = M 5 0 k) → (j = 2 → v = M 6 0 k) → (j = 3 → v = M 7 0 k) → (j = 4 → v = M 72 0 k) → (j = 5 → v = if bt (openA qc M (M 30 0) 0) k = true then 1 else 0) → (j = 6 → v = M 72 0 (16 + k)) → (j = 7 → v = M 72 0 (32 + k)) → ok (f_X12_board (nI k) (nI j) M1) (fun r' => ans2 (.inl v) r'.1 (r'.2 54 0 0) ∧ Rel qc qs r'.2) := by
        intro M1 h1 a1 v y0 y1 y2 y3 y4 y5 y6 y7
        have n1 : nB M1 = nB M := nB_fr (a1.1 3 (by decide))
        have hk1 : k < nB M1 := by rw [n1]; exact hk
        have h0 := Rel_M0 h1
        have em1 := R_mB h1
        have t0 := M0_t M1
        obtain ⟨s1, s2, s3, s4⟩ := R_bd h1 hk1
        rw [a1.1 4 (by decide)] at s1
        rw [a1.1 5 (by decide)] at s2
        rw [a1.1 6 (by decide)] at s3
        rw [a1.1 7 (by decide)] at s4
        have e72 : M1 72 = M 72 := a1.1 72 (by decide)
        unfold f_X12_board
        refine ok_ifn (inT em1 (by omega) hk1) (ok_bindE (badM0 _ _ _) (ok_ifp rfl (ok_ifn (fun z => hy ((in_eq _ _ _).mp z)) (ok_bindE (badM0 _ _ _) (ok_ifp rfl ?_)))))
        rw [ad0, ad16, ad32, nI_clamp (show k < 2 ^ 31 by omega), nI_clamp (show 16 + k < 2 ^ 31 by omega), nI_clamp (show 32 + k < 2 ^ 31 by omega), M0_c (show 60 ≠ 54 by decide), M0_c (show 72 ≠ 54 by decide)]
        have hj' : j = 0 ∨ j = 1 ∨ j = 2 ∨ j = 3 ∨ j = 4 ∨ j = 5 ∨ j = 6 ∨ j = 7 := by omega
        rcases hj' with rfl | rfl | rfl | rfl | rfl | rfl | rfl | rfl
        · exact ok_ifp rfl (ok_ifp (inb_n (by omega) (by decide)) (ok_ifp rfl (ok_some ⟨⟨t0, (y0 rfl).trans s1.symm⟩, h0⟩)))
        · exact ok_ifn (by decide) (ok_ifp rfl (ok_ifp (inb_n (by omega) (by decide)) (ok_ifp rfl (ok_some ⟨⟨t0, (y1 rfl).trans s2.symm⟩, h0⟩))))
        · exact ok_ifn (by decide) (ok_ifn (by decide) (ok_ifp rfl (ok_ifp (inb_n (by omega) (by decide)) (ok_ifp rfl (ok_some ⟨⟨t0, (y2 rfl).trans s3.symm⟩, h0⟩)))))
        · exact ok_ifn (by decide) (ok_ifn (by decide) (ok_ifn (by decide) (ok_ifp rfl (ok_ifp (inb_n (by omega) (by decide)) (ok_ifp rfl (ok_some ⟨⟨t0, (y3 rfl).trans s4.symm⟩, h0⟩))))))
        · refine ok_ifn (by decide) (ok_ifn (by decide) (ok_ifn (by decide) (ok_ifn (by decide) (ok_ifp rfl (ok_ifp (inb_n (by omega) (by decide)) (ok_some ⟨⟨t0, ?_⟩, h0⟩))))))
          rw [e72]; exact y4 rfl
        · refine ok_ifn (by decide) (ok_ifn (by decide) (ok_ifn (by decide) (ok_ifn (by decide) (ok_ifn (by decide) (ok_ifp rfl (ok_bind (m_opensNow h0 (show k < nB (M0 M1) from hk1)) ?_))))))
          rintro ⟨w, M2⟩ ⟨rfl, f2⟩
          simp only at f2
          have m2 : mfr (M0 M1) M2 := mfr_f f2 (by decide)
          have h2 := Rel_q h0 asks_rfl (R_cch h0) m2
          have t2 : M2 54 0 0 = 0 := by rw [f2 54 (by decide)]; exact t0
          rw [openA_a h.1.1 (asks_tr a1 (asks_m (mfr_M0 M1)))]
          cases hh : bt (openA qc M (M 30 0) 0) k
          · exact ok_ifp rfl (ok_some ⟨⟨t2, by rw [y5 rfl, hh]; rfl⟩, h2⟩)
          · exact ok_ifn (by decide) (ok_some ⟨⟨t2, by rw [y5 rfl, hh]; rfl⟩, h2⟩)
        · refine ok_ifn (by decide) (ok_ifn (by decide) (ok_ifn (by decide) (ok_ifn (by decide) (ok_ifn (by decide) (ok_ifn (by decide) (ok_ifp rfl (ok_ifp (inb_n (by omega) (by decide)) (ok_some ⟨⟨t0, ?_⟩, h0⟩))))))))
          rw [e72]; exact y6 rfl
        · refine ok_ifn (by decide) (ok_ifn (by decide) (ok_ifn (by decide) (ok_ifn (by decide) (ok_ifn (by decide) (ok_ifn (by decide) (ok_ifn (by decide) (ok_ifp (inb_n (by omega) (by decide)) (ok_some ⟨⟨t0, ?_⟩, h0⟩))))))))
          rw [e72]; exact y7 rfl
      obtain ⟨t1, t2, t3, t4, -⟩ := R_SR h
      unfold f_X8_finesOf f_X8_knocksAt
      rw [ad3, ad19, nI_clamp (show k < 2 ^ 31 by omega), nI_clamp (show 3 + k < 2 ^ 31 by omega), nI_clamp (show 19 + k < 2 ^ 31 by omega)]
      have mm := model M h asks_rfl
      have hj' : j = 0 ∨ j = 1 ∨ j = 2 ∨ j = 3 ∨ j = 4 ∨ j = 5 ∨ j = 6 ∨ j = 7 := by omega
      rcases hj' with rfl | rfl | rfl | rfl | rfl | rfl | rfl | rfl
      · exact ok_ifp rfl (ok_ifp (inb_n (by omega) (by decide)) (ok_some (mm _ (fun _ => rfl) (by simp) (by simp) (by simp) (by simp) (by simp) (by simp) (by simp))))
      · exact ok_ifn (by decide) (ok_ifp rfl (ok_ifp (inb_n (by omega) (by decide)) (ok_some (mm _ (by simp) (fun _ => rfl) (by simp) (by simp) (by simp) (by simp) (by simp) (by simp)))))
      · exact ok_ifn (by decide) (ok_ifn (by decide) (ok_ifp rfl (ok_ifp (inb_n (by omega) (by decide)) (ok_some (mm _ (by simp) (by simp) (fun _ => rfl) (by simp) (by simp) (by simp) (by simp) (by simp))))))
      · exact ok_ifn (by decide) (ok_ifn (by decide) (ok_ifn (by decide) (ok_ifp rfl (ok_ifp (inb_n (by omega) (by decide)) (ok_some (mm _ (by simp) (by simp) (by simp) (fun _ => rfl) (by simp) (by simp) (by simp) (by simp)))))))
      · refine ok_ifn (by decide) (ok_ifn (by decide) (ok_ifn (by decide) (ok_ifn (by decide) (ok_ifp rfl (ok_some (mm _ (by simp) (by simp) (by simp) (by simp) (fun _ => ?_) (by simp) (by simp) (by simp)))))))
        unfold f_X8_modeOf
        rw [isBit_bt _ (show k < 32 by omega), isBit_bt _ (show k < 32 by omega)]
        rcases t2.1 k hk with ⟨s1, s2, s3⟩ | ⟨s1, s2, s3⟩ | ⟨s1, s2, s3⟩ <;> rw [s1, s2, s3] <;> rfl
      · refine ok_ifn (by decide) (ok_ifn (by decide) (ok_ifn (by decide) (ok_ifn (by decide) (ok_ifn (by decide) (ok_ifp rfl (ok_bind (c_openNow h.1 (R_cch h)) ?_))))))
        rintro ⟨w, M1⟩ ⟨rfl, f1, c1⟩
        simp only at f1 c1
        have a1 := asks_ol f1
        have h1 := Rel_a h a1 c1
        exact ok_some (model M1 h1 a1 _ (by simp) (by simp) (by simp) (by simp) (by simp) (fun _ => bit1_bt _ (by omega)) (by simp) (by simp))
      · exact ok_ifn (by decide) (ok_ifn (by decide) (ok_ifn (by decide) (ok_ifn (by decide) (ok_ifn (by decide) (ok_ifn (by decide) (ok_ifp rfl (ok_bindE (if_pos (inb_n (by omega) (by decide))) (ok_some (mm _ (by simp) (by simp) (by simp) (by simp) (by simp) (by simp) (fun _ => t3.1 k hk) (by simp))))))))))
      · exact ok_ifn (by decide) (ok_ifn (by decide) (ok_ifn (by decide) (ok_ifn (by decide) (ok_ifn (by decide) (ok_ifn (by decide) (ok_ifn (by decide) (ok_bindE (if_pos (inb_n (by omega) (by decide))) (ok_some (mm _ (by simp) (by simp) (by simp) (by simp) (by simp) (by simp) (by simp) (fun _ => t4.1 k hk))))))))))
theorem t_lawful {qc qs qd : Nat} {x y z : Int32} {M : Mem} (h : Rel qc qs M) : ok (f_X11_lawful qc qd x y z M) (fun r => ok (f_X12_lawful x y z r.2) (fun r' => ans2 r.1 r'.1 (r'.2 54 0 0) ∧ Rel qc qs r'.2 ∧ (r'.1 = 0 ∨ r'.1 = 1))) := by
  have hg := R_n16 h
  have em := R_mB h
  unfold f_X11_lawful
  by_cases hx : x < 0 ∨ M 3 0 0 ≤ x
  · refine ok_bindE (bdF hx) (ok_some ?_)
    rw [R_eB h] at hx
    unfold f_X12_lawful
    exact ok_ifp (inF em (by omega) hx) (ok_bindE (bad13 M (by decide)) (ok_ifn (by decide) (ok_some ⟨Or.inl ⟨rfl, RM_t 13 1 M⟩, Rel_RM (k := 13) (Or.inl rfl) h, Or.inl rfl⟩)))
  · refine ok_bindE (bdT hx) ?_
    rw [R_eB h] at hx
    obtain ⟨k, rfl, hk⟩ := there_arg (by omega) hx
    by_cases hy : y < 0 ∨ 23 < y
    · refine ok_bindE (fitF hy) (ok_some ?_)
      unfold f_X12_lawful
      exact ok_ifn (inT em (by omega) hk) (ok_bindE (badM0 _ _ _) (ok_ifp rfl (ok_ifp ((in_eq _ _ _).mpr hy) (ok_bindE (bad14 M (by decide)) (ok_ifn (by decide) (ok_some ⟨Or.inr ⟨rfl, RM_t 14 2 M⟩, Rel_RM (k := 14) (Or.inr rfl) h, Or.inl rfl⟩))))))
    · refine ok_bindE (fitT hy) ?_
      by_cases hz : z < 0 ∨ 99 < z
      · refine ok_bindE (fitF hz) (ok_some ?_)
        unfold f_X12_lawful
        exact ok_ifn (inT em (by omega) hk) (ok_bindE (badM0 _ _ _) (ok_ifp rfl (ok_ifn (fun z => hy ((in_eq _ _ _).mp z)) (ok_ifp ((in_eq _ _ _).mpr hz) (ok_bindE (bad14 M (by decide)) (ok_ifn (by decide) (ok_some ⟨Or.inr ⟨rfl, RM_t 14 2 M⟩, Rel_RM (k := 14) (Or.inr rfl) h, Or.inl rfl⟩)))))))
      · refine ok_bindE (fitT hz) ?_
        obtain ⟨a, rfl, ha⟩ := args (n := 23) rfl (by decide) hy
        obtain ⟨d, rfl, hd⟩ := args (n := 99) rfl (by decide) hz
        have eh : nI a + nI d * 24 = nI (a + d * 24) := by rw [show (24 : Int32) = nI 24 from rfl, nI_mul, nI_add]
        have ed : nI (a + d * 24) / 24 = nI d := by rw [show (24 : Int32) = nI 24 from rfl, nI_div (by omega) (by decide)]; congr 1; omega
        have er : nI (a + d * 24) - nI d * 24 = nI a := by rw [← eh]; grind
        unfold f_X8_finesOf f_X4_isDue
        rw [ad3, nI_clamp (show 3 + k < 2 ^ 31 by omega), eh]
        refine ok_bindE (if_pos (inb_n (by omega) (by decide))) (ok_bind (P := fun r => r.1 = (if lvb qc M k (nI a) (nI d) (M 30 0 (3 + k)) ≤ 0 then 0 else 1) ∧ fr [26, 27] M r.2) (ok_bind (c_value h.1.1 h.1.2.1 (by omega)) ?_) ?_)
        · rintro ⟨v, M1⟩ ⟨rfl, f1⟩
          rw [ed, er]
          refine ok_if (fun hv => ok_some ⟨?_, f1⟩) (fun hv => ok_some ⟨?_, f1⟩)
          · rw [if_pos hv]
          · rw [if_neg hv]
        · rintro ⟨v, M1⟩ ⟨rfl, f1⟩
          simp only at f1
          have a1 : asks M M1 := asks_c (fr_mono f1 (by decide))
          have h1 := Rel_a h a1 (cch_ol h.1.1 (fr_mono f1 (by decide)) (by rw [f1 38 (by decide)]) (f1 41 (by decide)) (R_cch h))
          refine ok_ifp (by split <;> rfl) (ok_some ?_)
          have n1 : nB M1 = nB M := nB_fr (a1.1 3 (by decide))
          have hk1 : k < nB M1 := by rw [n1]; exact hk
          have h0 := Rel_M0 h1
          have em1 := R_mB h1
          show ok (f_X12_lawful (nI k) (nI a) (nI d) M1) _
          unfold f_X12_lawful
          refine ok_ifn (inT em1 (by omega) hk1) (ok_bindE (badM0 _ _ _) (ok_ifp rfl (ok_ifn (fun z => hy ((in_eq _ _ _).mp z)) (ok_ifn (fun y => hz ((in_eq _ _ _).mp y)) (ok_bindE (badM0 _ _ _) (ok_ifp rfl ?_))))))
          rw [ad16, nI_clamp (show 16 + k < 2 ^ 31 by omega)]
          refine ok_ifp (inb_n (by omega) (by decide)) (ok_bind (m_isLawful h0.1.1 h0.1.2.1 h0.1.2.2.1 (by omega) (R_bd h0 (show k < nB (M0 M1) from hk1))) ?_)
          rintro ⟨w, M2⟩ ⟨rfl, f2⟩
          simp only at f2
          have m2 : mfr (M0 M1) M2 := mfr_f f2 (by decide)
          have a01 : asks M (M0 M1) := asks_tr a1 (asks_m (mfr_M0 M1))
          have e1 : lvb qc (M0 M1) k (nI a) (nI d) (M0 M1 72 0 (16 + k)) = lvb qc M k (nI a) (nI d) (M 30 0 (3 + k)) := by
            rw [lvb_fr (a01.1 23 (by decide)) (by rcases h.1.1 with rfl | rfl <;> exact a01.1 _ (by decide)) (a01.1 4 (by decide)) (a01.1 5 (by decide)) (a01.1 6 (by decide)) (a01.1 7 (by decide)), a01.1 72 (by decide), (R_SR h).2.2.1.1 k hk]
          refine ok_ifp (isb_if _) (ok_some ⟨⟨?_, ?_⟩, Rel_q h0 asks_rfl (R_cch h0) m2, ?_⟩)
          · show M2 54 0 0 = 0
            rw [f2 54 (by decide)]; exact M0_t M1
          · rw [e1]
          · exact ite01 _
