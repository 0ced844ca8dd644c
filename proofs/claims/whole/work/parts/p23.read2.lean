theorem nI_div {a b : Nat} (ha : a < 2 ^ 31) (hb : b < 2 ^ 31) : nI a / nI b = nI (a / b) := by
  have h := Nat.div_le_self a b
  apply Int32.toInt_inj.mp
  rw [Int32.toInt_div, nI_toInt ha, nI_toInt hb, nI_toInt (by omega), ← Int.ofNat_tdiv]
  generalize a / b = c at h
  apply Int.bmod_eq_of_le <;> simp <;> omega
/-- a STREET is drained -/
def hol (M : Mem) (op : Int32) (s : Nat) : Bool := decide (¬ sumN (fun i => if bt op ((M 10 0 s).toNatClampNeg + i) = true then M 6 0 ((M 10 0 s).toNatClampNeg + i) else 0) ((M 11 0 s).toNatClampNeg + 1 - (M 10 0 s).toNatClampNeg) < M 12 0 s)
theorem c_drained {qc qs : Nat} {M : Mem} {op : Int32} {s : Nat} (h : Rel qc qs M) (hs : s < nS M) : f_X1_isDrained (nI s) op M = some (if hol M op s = true then 1 else 0) := by
  have h8 := R_s8 h
  have h16 := R_n16 h
  obtain ⟨f, t, x, e1, e2, e3, ft, tn, x1, x2⟩ := h.2.2.1.2.2 s hs
  unfold f_X1_isDrained hol
  rw [if_pos (inb_n (by omega) (by decide)), nI_clamp (show s < 2 ^ 31 by omega), e1, e2, nI_clamp (show f < 2 ^ 31 by omega), nI_clamp (show t < 2 ^ 31 by omega)]
  have key : wh (L_X1_isDrained_10 (nI s) op M) FU ((0 : Int32), nI f) = some (sumN (fun i => if bt op (f + i) = true then M 6 0 (f + i) else 0) (t + 1 - f)) := by
    refine wh_for (fun k => (sumN (fun i => if bt op (f + i) = true then M 6 0 (f + i) else 0) k, nI (f + k))) (t + 1 - f) _ (by omega) ?_ ?_
    · intro k hk
      unfold L_X1_isDrained_10
      simp only []
      rw [if_pos (inb_n (by omega) (by decide)), nI_clamp (show s < 2 ^ 31 by omega), e2, if_neg (nI_nlt (by omega) (by omega)), sumN_s]
      by_cases hb : bt op (f + k) = true
      · rw [if_neg (by rw [isBit_bt op (by omega), if_pos hb]; decide), if_pos (inb_n (by omega) (by decide)), nI_clamp (by omega), if_pos hb, nI_1, Nat.add_assoc]
      · rw [if_pos (by rw [isBit_bt op (by omega), if_neg hb]), if_neg hb, nI_1, Nat.add_assoc]
    · unfold L_X1_isDrained_10
      simp only []
      rw [if_pos (inb_n (by omega) (by decide)), nI_clamp (show s < 2 ^ 31 by omega), e2, if_pos (nI_lt (by omega) (by omega))]
  rw [key]
  simp only [Option.bind]
  by_cases hc : sumN (fun i => if bt op (f + i) = true then M 6 0 (f + i) else 0) (t + 1 - f) < M 12 0 s
  · rw [if_pos hc]; simp [hc]
  · rw [if_neg hc]; simp [hc]
theorem m_holding {qc qs : Nat} {M : Mem} {op : Int32} {s : Nat} (h : Rel qc qs M) (hs : s < nS M) : f_X12_isHolding (nI s) op M = some (if hol M op s = true then 1 else 0) := by
  have h8 := R_s8 h
  have h16 := R_n16 h
  obtain ⟨f, t, x, e1, e2, e3, ft, tn, x1, x2⟩ := h.2.2.1.2.2 s hs
  obtain ⟨m1, m2, m3⟩ := R_st h hs
  unfold f_X12_isHolding hol
  rw [if_pos (inb_n (by omega) (by decide)), nI_clamp (show s < 2 ^ 31 by omega), m1, m3, e1, e2, nI_clamp (show f < 2 ^ 31 by omega), nI_clamp (show t < 2 ^ 31 by omega)]
  have key : wh (L_X12_isHolding_12 (nI s) op M) FU ((0 : Int32), nI f) = some (sumN (fun i => if bt op (f + i) = true then M 6 0 (f + i) else 0) (t + 1 - f)) := by
    refine wh_for (fun k => (sumN (fun i => if bt op (f + i) = true then M 6 0 (f + i) else 0) k, nI (f + k))) (t + 1 - f) _ (by omega) ?_ ?_
    · intro k hk
      unfold L_X12_isHolding_12
      simp only []
      rw [if_pos (inb_n (by omega) (by decide)), nI_clamp (show s < 2 ^ 31 by omega), m2, e2, if_neg (nI_nlt (by omega) (by omega)), sumN_s]
      by_cases hb : bt op (f + k) = true
      · rw [if_neg (by rw [has_bt op (by omega), if_pos hb]; decide), if_pos (inb_n (by omega) (by decide)), nI_clamp (by omega), if_pos hb, nI_1, (R_bd h (show f + k < nB M by omega)).2.2.1, Nat.add_assoc]
      · rw [if_pos (by rw [has_bt op (by omega), if_neg hb]), if_neg hb, nI_1, Nat.add_assoc]
    · unfold L_X12_isHolding_12
      simp only []
      rw [if_pos (inb_n (by omega) (by decide)), nI_clamp (show s < 2 ^ 31 by omega), m2, e2, if_pos (nI_lt (by omega) (by omega))]
  rw [key]
  simp only [Option.bind]
  by_cases hc : sumN (fun i => if bt op (f + i) = true then M 6 0 (f + i) else 0) (t + 1 - f) < M 12 0 s
  · rw [if_pos hc]; simp [hc]
  · rw [if_neg hc]; simp [hc]
theorem hol_a {M M' : Mem} {op : Int32} {s : Nat} (a : asks M M') : hol M' op s = hol M op s := by
  unfold hol
  rw [a.1 10 (by decide), a.1 11 (by decide), a.1 12 (by decide), a.1 6 (by decide)]
/-- what is open now, by the model -/
theorem m_openNow {qc qs : Nat} {M : Mem} (h : Rel qc qs M) : ok (f_X12_openBits 72 M) (fun r => r.1 = openA qc M (M 30 0) 0 ∧ fr [69, 70] M r.2) := by
  refine ok_mono (m_openBits (qc := qc) (Or.inl rfl) h.1) ?_
  rintro ⟨v, M2⟩ ⟨rfl, f2⟩
  exact ⟨now_bits (R_n16 h) (R_SR h), f2⟩
theorem m_opensNow {qc qs : Nat} {M : Mem} {b : Nat} (h : Rel qc qs M) (hb : b < nB M) : ok (f_X12_opensIn 72 (nI b) M) (fun r => r.1 = (if bt (openA qc M (M 30 0) 0) b = true then 1 else 0) ∧ fr [69, 70] M r.2) := by
  refine ok_mono (m_opensIn (qc := qc) h.1 hb) ?_
  rintro ⟨v, M2⟩ ⟨rfl, f2⟩
  refine ⟨?_, f2⟩
  rw [← now_bits (R_n16 h) (R_SR h), bt_bitsN _ (by have := R_n16 h; omega) (by have := R_n16 h; omega), decide_eq_true hb, Bool.true_and]
theorem openA_a {qc : Nat} {M M' : Mem} (hq : qc = 24 ∨ qc = 25) (a : asks M M') (k : Nat) : openA qc M' (M' 30 0) k = openA qc M (M 30 0) k := by
  rw [openA_c hq (asks_b a), a.1 30 (by decide)]
theorem t_street {qc qs qd : Nat} {x y : Int32} {M : Mem} (h : Rel qc qs M) : ok (f_X11_street qc qd x y M) (fun r => ok (f_X12_street x y r.2) (fun r' => ans2 r.1 r'.1 (r'.2 54 0 0) ∧ Rel qc qs r'.2)) := by
  have hg := R_s8 h
  have em := R_mS h
  unfold f_X11_street
  rw [R_eS h]
  by_cases hx : x < 0 ∨ nI (nS M) ≤ x
  · refine ok_bindE (thereF hx) (ok_some ?_)
    unfold f_X12_street
    exact ok_ifp (inF em (by omega) hx) (ok_bindE (bad13 M (by decide)) (ok_ifn (by decide) (ok_some ⟨Or.inl ⟨rfl, RM_t 13 1 M⟩, Rel_RM (k := 13) (Or.inl rfl) h⟩)))
  · obtain ⟨k, rfl, hk⟩ := there_arg (by omega) hx
    refine ok_bindE (thereT hx) ?_
    by_cases hy : y < 0 ∨ 3 < y
    · refine ok_bindE (fitF hy) (ok_some ?_)
      unfold f_X12_street
      exact ok_ifn (inT em (by omega) hk) (ok_bindE (badM0 _ _ _) (ok_ifp rfl (ok_ifp ((in_eq _ _ _).mpr hy) (ok_bindE (bad14 M (by decide)) (ok_ifn (by decide) (ok_some ⟨Or.inr ⟨rfl, RM_t 14 2 M⟩, Rel_RM (k := 14) (Or.inr rfl) h⟩))))))
    · obtain ⟨j, rfl, hj⟩ := args (n := 3) rfl (by decide) hy
      refine ok_bindE (fitT hy) ?_
      have model : ∀ M1 : Mem, Rel qc qs M1 → asks M M1 → ∀ v : Int32, (j = 0 → v = M 10 0 k) → (j = 1 → v = M 11 0 k) → (j = 2 → v = M 12 0 k) → (j = 3 → v = if hol M (openA qc M (M 30 0) 0) k = true then 1 else 0) → ok (f_X12_street (nI k) (nI j) M1) (fun r' => ans2 (.inl v) r'.1 (r'.2 54 0 0) ∧ Rel qc qs r'.2) := by
        intro M1 h1 a1 v y0 y1 y2 y3
        have n1 : nS M1 = nS M := nS_fr (a1.1 3 (by decide))
        have hk1 : k < nS M1 := by rw [n1]; exact hk
        have h0 := Rel_M0 h1
        have t0 := M0_t M1
        obtain ⟨s1, s2, s3⟩ := R_st h1 hk1
        rw [a1.1 10 (by decide)] at s1
        rw [a1.1 11 (by decide)] at s2
        rw [a1.1 12 (by decide)] at s3
        unfold f_X12_street
        refine ok_ifn (inT (R_mS h1) (by omega) hk1) (ok_bindE (badM0 _ _ _) (ok_ifp rfl (ok_ifn (fun z => hy ((in_eq _ _ _).mp z)) (ok_bindE (badM0 _ _ _) (ok_ifp rfl ?_)))))
        by_cases hj3 : j = 3
        · subst hj3
          refine ok_ifp (by decide) (ok_bind (m_openNow h0) ?_)
          rintro ⟨w, M2⟩ ⟨rfl, f2⟩
          simp only at f2
          have m2 : mfr (M0 M1) M2 := mfr_f f2 (by decide)
          have h2 := Rel_q h0 asks_rfl (R_cch h0) m2
          have a2 : asks M M2 := asks_tr (asks_tr a1 (asks_m (mfr_M0 M1))) (asks_m m2)
          refine ok_bindE (m_holding h2 (show k < nS M2 by rw [nS_fr (a2.1 3 (by decide))]; exact hk)) ?_
          rw [hol_a a2, openA_a h.1.1 (asks_tr a1 (asks_m (mfr_M0 M1)))]
          have t2 : M2 54 0 0 = 0 := by rw [f2 54 (by decide)]; exact t0
          cases hh : hol M (openA qc M (M 30 0) 0) k
          · exact ok_ifp rfl (ok_some ⟨⟨t2, by rw [y3 rfl, hh]; rfl⟩, h2⟩)
          · exact ok_ifn (by decide) (ok_some ⟨⟨t2, by rw [y3 rfl, hh]; rfl⟩, h2⟩)
        · refine ok_ifn (nI_ge (b := 3) (by omega) (by decide)) (ok_ifp (inb_n (by omega) (by decide)) (ok_ifp (inb_n (by omega) (by decide)) (ok_some ⟨⟨t0, ?_⟩, h0⟩)))
          show v = M1 64 _ _
          rw [nI_clamp (show k < 2 ^ 31 by omega), nI_clamp (show j < 2 ^ 31 by omega)]
          have hj' : j = 0 ∨ j = 1 ∨ j = 2 := by omega
          rcases hj' with rfl | rfl | rfl
          · rw [s1]; exact y0 rfl
          · rw [s2]; exact y1 rfl
          · rw [s3]; exact y2 rfl
      rw [nI_clamp (show k < 2 ^ 31 by omega)]
      have mm := model M h asks_rfl
      have hj' : j = 0 ∨ j = 1 ∨ j = 2 ∨ j = 3 := by omega
      rcases hj' with rfl | rfl | rfl | rfl
      · exact ok_ifp rfl (ok_ifp (inb_n (by omega) (by decide)) (ok_some (mm _ (fun _ => rfl) (by simp) (by simp) (by simp))))
      · exact ok_ifn (by decide) (ok_ifp rfl (ok_ifp (inb_n (by omega) (by decide)) (ok_some (mm _ (by simp) (fun _ => rfl) (by simp) (by simp)))))
      · exact ok_ifn (by decide) (ok_ifn (by decide) (ok_ifp rfl (ok_ifp (inb_n (by omega) (by decide)) (ok_some (mm _ (by simp) (by simp) (fun _ => rfl) (by simp))))))
      · refine ok_ifn (by decide) (ok_ifn (by decide) (ok_ifn (by decide) (ok_bind (c_openNow h.1 (R_cch h)) ?_)))
        rintro ⟨w, M1⟩ ⟨rfl, f1, c1⟩
        simp only at f1 c1
        have a1 := asks_ol f1
        have h1 := Rel_a h a1 c1
        refine ok_bindE (c_drained h1 (show k < nS M1 by rw [nS_fr (a1.1 3 (by decide))]; exact hk)) ?_
        rw [hol_a a1]
        cases hh : hol M (openA qc M (M 30 0) 0) k
        · exact ok_ifp rfl (ok_some (model M1 h1 a1 _ (by simp) (by simp) (by simp) (fun _ => by rw [hh]; rfl)))
        · exact ok_ifn (by decide) (ok_some (model M1 h1 a1 _ (by simp) (by simp) (by simp) (fun _ => by rw [hh]; rfl)))
