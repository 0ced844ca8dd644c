/-! CALLS THAT READ, GOING ON -/
theorem R_n16 {qc qs : Nat} {M : Mem} (h : Rel qc qs M) : nB M ≤ 16 := h.1.2.2.2.1.1.2
theorem R_g4 {qc qs : Nat} {M : Mem} (h : Rel qc qs M) : nG M ≤ 4 := h.1.2.2.2.1.2.1.2
theorem R_s8 {qc qs : Nat} {M : Mem} (h : Rel qc qs M) : nS M ≤ 8 := h.1.2.2.2.1.2.2.1.2
theorem R_v {qc qs : Nat} {M : Mem} (h : Rel qc qs M) : 1 ≤ vF M ∧ vF M ≤ 4 := h.1.2.2.2.1.2.2.2.1.2
theorem R_k4 {qc qs : Nat} {M : Mem} (h : Rel qc qs M) : kS M ≤ 4 := h.1.2.2.2.1.2.2.2.2.2
theorem R_eB {qc qs : Nat} {M : Mem} (h : Rel qc qs M) : M 3 0 0 = nI (nB M) := h.1.2.2.2.1.1.1
theorem R_eG {qc qs : Nat} {M : Mem} (h : Rel qc qs M) : M 3 0 5 = nI (nG M) := h.1.2.2.2.1.2.1.1
theorem R_eS {qc qs : Nat} {M : Mem} (h : Rel qc qs M) : M 3 0 8 = nI (nS M) := h.1.2.2.2.1.2.2.1.1
theorem R_eV {qc qs : Nat} {M : Mem} (h : Rel qc qs M) : M 3 0 12 = nI (vF M) := h.1.2.2.2.1.2.2.2.1.1
theorem R_eK {qc qs : Nat} {M : Mem} (h : Rel qc qs M) : M 3 0 13 = nI (kS M) := h.1.2.2.2.1.2.2.2.2.1
theorem R_mB {qc qs : Nat} {M : Mem} (h : Rel qc qs M) : M 58 0 0 = nI (nB M) := nb58 h.1
theorem R_mG {qc qs : Nat} {M : Mem} (h : Rel qc qs M) : M 58 0 1 = nI (nG M) := g58 h.1
theorem R_mS {qc qs : Nat} {M : Mem} (h : Rel qc qs M) : M 58 0 2 = nI (nS M) := s58 h.1
theorem R_mV {qc qs : Nat} {M : Mem} (h : Rel qc qs M) : M 58 0 3 = nI (vF M) := v58 h.1
theorem R_mK {qc qs : Nat} {M : Mem} (h : Rel qc qs M) : M 58 0 4 = nI (kS M) := (h.1.2.2.2.2.2.2.2.2.1).trans (R_eK h)
theorem R_SR {qc qs : Nat} {M : Mem} (h : Rel qc qs M) : SR (nB M) (nG M) (M 30 0) (M 72 0) := h.2.2.2.2.2.1.1
theorem R_cch {qc qs : Nat} {M : Mem} (h : Rel qc qs M) : cch qc M := h.2.2.2.2.2.2.2.2
theorem R_bd {qc qs : Nat} {M : Mem} (h : Rel qc qs M) {b : Nat} (hb : b < nB M) : mBoard M b := h.1.2.2.2.2.2.2.2.2.2.1 b hb
theorem R_bg {qc qs : Nat} {M : Mem} (h : Rel qc qs M) {k : Nat} (hk : k < nG M) : M 62 (k + 1) 0 = M 8 0 k ∧ M 62 (k + 1) 1 = M 9 0 k := h.1.2.2.2.2.2.2.2.2.2.2.1 k hk
theorem R_st {qc qs : Nat} {M : Mem} (h : Rel qc qs M) {s : Nat} (hs : s < nS M) : M 64 (s + 1) 0 = M 10 0 s ∧ M 64 (s + 1) 1 = M 11 0 s ∧ M 64 (s + 1) 2 = M 12 0 s := h.1.2.2.2.2.2.2.2.2.2.2.2 s hs
theorem Rel_M0 {qc qs : Nat} {M : Mem} (h : Rel qc qs M) : Rel qc qs (M0 M) := Rel_q h asks_rfl (R_cch h) (mfr_M0 M)
theorem lt_pred {n : Nat} {x : Int32} (hn : n < 2 ^ 31) : nI n - 1 < x ↔ nI n ≤ x := by
  have e1 : (nI n - 1).toInt = (n : Int) - 1 := by
    rw [Int32.toInt_sub, nI_toInt hn, show (1 : Int32).toInt = 1 from rfl]
    apply Int.bmod_eq_of_le <;> simp <;> omega
  rw [Int32.lt_iff_toInt_lt, Int32.le_iff_toInt_le, e1, nI_toInt hn]
  omega
theorem inF {n : Nat} {x hi : Int32} (e : hi = nI n) (hn : n < 2 ^ 31) (h : x < 0 ∨ nI n ≤ x) : f_X12_in x 0 (hi - 1) = 0 := by
  rw [in_eq, e, lt_pred hn]; exact h
theorem inT {n b : Nat} {hi : Int32} (e : hi = nI n) (hn : n < 2 ^ 31) (h : b < n) : ¬ f_X12_in (nI b) 0 (hi - 1) = 0 := by
  rw [in_eq, e, lt_pred hn]
  rintro (z | z)
  · exact nI_pos (by omega) z
  · exact nI_ge h hn z
theorem there_arg {n : Nat} {x : Int32} (hn : n < 2 ^ 31) (h : ¬ (x < 0 ∨ nI n ≤ x)) : ∃ b, x = nI b ∧ b < n := by
  have h1 : 0 ≤ x := by rw [← Int32.not_lt]; exact fun z => h (Or.inl z)
  have h2 : x < nI n := by rw [← Int32.not_le]; exact fun z => h (Or.inr z)
  have h3 : x ≤ nI n := by rw [Int32.lt_iff_toInt_lt] at h2; rw [Int32.le_iff_toInt_le]; omega
  obtain ⟨k, e, hk⟩ := rng hn h1 h3
  refine ⟨k, e, ?_⟩
  rcases Nat.lt_or_ge k n with z | z
  · exact z
  · exact absurd (show nI n ≤ x by rw [e]; exact nI_le z (by omega)) (fun z => h (Or.inr z))
theorem bdF {x : Int32} {M : Mem} (h : x < 0 ∨ M 3 0 0 ≤ x) : f_X11_needBoard x M = some (.inr NSE, am_u3 M 0 0 13 (M 0 0 13 + 1)) := by
  unfold f_X11_needBoard
  rw [thereF h]; rfl
theorem bdT {x : Int32} {M : Mem} (h : ¬ (x < 0 ∨ M 3 0 0 ≤ x)) : f_X11_needBoard x M = some (.inl 0, M) := by
  unfold f_X11_needBoard
  rw [thereT h]; rfl
theorem fault_ok {qc qs : Nat} {M : Mem} (h : Rel qc qs M) : f_X11_fault M = (f_X12_fault M).1 ∧ Rel qc qs (f_X12_fault M).2 := ⟨h.2.2.2.1.2, Rel_M0 h⟩
theorem count_ok {qc qs : Nat} {x : Int32} {M : Mem} (h : Rel qc qs M) : f_X11_count x M = (f_X12_count x M).1 ∧ Rel qc qs (f_X12_count x M).2 := by
  obtain ⟨w, m, -, -, p1, p2, p3, p4, -⟩ := h.2.2.2.2.2.2.1
  obtain ⟨⟨t, -, t1, t2, -⟩, -⟩ := h.2.2.2.1
  unfold f_X11_count f_X12_count
  refine ⟨?_, ?_⟩
  · by_cases h0 : x = 0
    · rw [if_pos h0, if_pos h0, p3, p4]
    · rw [if_neg h0, if_neg h0]
      by_cases h1 : x = 1
      · rw [if_pos h1, if_pos h1, t1, t2]
      · rw [if_neg h1, if_neg h1]
        by_cases h2 : x = 2
        · rw [if_pos h2, if_pos h2, p1, p2]
        · rw [if_neg h2, if_neg h2]
  · repeat' split
    all_goals exact Rel_M0 h
theorem status_ok {qc qs : Nat} {x : Int32} {M : Mem} (h : Rel qc qs M) : ok (f_X12_status x M) (fun r => f_X11_status x M = r.1 ∧ Rel qc qs r.2) := by
  obtain ⟨-, r1, r2⟩ := h.2.2.2.2.1
  unfold f_X11_status f_X12_status
  by_cases hx : x < 0 ∨ 1 < x
  · refine ok_ifp ((in_eq _ _ _).mpr hx) (ok_some ⟨?_, Rel_M0 h⟩)
    rw [if_neg (by rintro rfl; revert hx; decide), if_neg (by rintro rfl; revert hx; decide)]
  · obtain ⟨k, rfl, hk⟩ := args (n := 1) rfl (by decide) hx
    refine ok_ifn (fun z => hx ((in_eq _ _ _).mp z)) (ok_ifp (inb_n (by omega) (by decide)) (ok_some ⟨?_, Rel_M0 h⟩))
    have : k = 0 ∨ k = 1 := by omega
    rcases this with rfl | rfl
    · rw [if_pos (show nI 0 = 0 from rfl)]; exact r1
    · rw [if_neg (by decide), if_pos (show nI 1 = 1 from rfl)]; exact r2
theorem t_barge {qc qs : Nat} {x y : Int32} {M : Mem} (h : Rel qc qs M) : ok (f_X11_barge x y M) (fun r => ok (f_X12_barge x y r.2) (fun r' => ans2 r.1 r'.1 (r'.2 54 0 0) ∧ Rel qc qs r'.2)) := by
  have hg := R_g4 h
  have em := R_mG h
  unfold f_X11_barge
  rw [R_eG h]
  by_cases hx : x < 0 ∨ nI (nG M) ≤ x
  · refine ok_bindE (thereF hx) (ok_some ?_)
    unfold f_X12_barge
    exact ok_ifp (inF em (by omega) hx) (ok_bindE (bad13 M (by decide)) (ok_ifn (by decide) (ok_some ⟨Or.inl ⟨rfl, RM_t 13 1 M⟩, Rel_RM (k := 13) (Or.inl rfl) h⟩)))
  · obtain ⟨k, rfl, hk⟩ := there_arg (by omega) hx
    refine ok_bindE (thereT hx) ?_
    by_cases hy : y < 0 ∨ 4 < y
    · refine ok_bindE (fitF hy) (ok_some ?_)
      unfold f_X12_barge
      exact ok_ifn (inT em (by omega) hk) (ok_bindE (badM0 _ _ _) (ok_ifp rfl (ok_ifp ((in_eq _ _ _).mpr hy) (ok_bindE (bad14 M (by decide)) (ok_ifn (by decide) (ok_some ⟨Or.inr ⟨rfl, RM_t 14 2 M⟩, Rel_RM (k := 14) (Or.inr rfl) h⟩))))))
    · obtain ⟨j, rfl, hj⟩ := args (n := 4) rfl (by decide) hy
      refine ok_bindE (fitT hy) ?_
      have model : ∀ v : Int32, (j = 0 → v = M 8 0 k) → (j = 1 → v = M 9 0 k) → (j = 2 → v = M 30 0 (39 + k)) → (j = 3 → v = M 30 0 (35 + k)) → (j = 4 → v = if M 30 0 (35 + k) = 2 then M 30 0 (43 + k) else -1) → ok (f_X12_barge (nI k) (nI j) M) (fun r' => ans2 (.inl v) r'.1 (r'.2 54 0 0) ∧ Rel qc qs r'.2) := by
        intro v y0 y1 y2 y3 y4
        obtain ⟨s1, s2, s3, s4, s5⟩ := (R_SR h).2.2.2.2.1.1 k hk
        have h0 := Rel_M0 h
        have t0 := M0_t M
        unfold f_X12_barge
        refine ok_ifn (inT (R_mG h) (by omega) hk) (ok_bindE (badM0 _ _ _) (ok_ifp rfl (ok_ifn (fun z => hy ((in_eq _ _ _).mp z)) (ok_bindE (badM0 _ _ _) (ok_ifp rfl ?_)))))
        rw [ad48, ad53, ad58, nI_clamp (show k < 2 ^ 31 by omega), nI_clamp (show 48 + k < 2 ^ 31 by omega), nI_clamp (show 53 + k < 2 ^ 31 by omega), nI_clamp (show 58 + k < 2 ^ 31 by omega), M0_c (show 62 ≠ 54 by decide), M0_c (show 72 ≠ 54 by decide)]
        have hj' : j = 0 ∨ j = 1 ∨ j = 2 ∨ j = 3 ∨ j = 4 := by omega
        rcases hj' with rfl | rfl | rfl | rfl | rfl
        · exact ok_ifp rfl (ok_ifp (inb_n (by omega) (by decide)) (ok_ifp rfl (ok_some ⟨⟨t0, (y0 rfl).trans (R_bg h hk).1.symm⟩, h0⟩)))
        · exact ok_ifn (by decide) (ok_ifp rfl (ok_ifp (inb_n (by omega) (by decide)) (ok_ifp rfl (ok_some ⟨⟨t0, (y1 rfl).trans (R_bg h hk).2.symm⟩, h0⟩))))
        · exact ok_ifn (by decide) (ok_ifn (by decide) (ok_ifp rfl (ok_ifp (inb_n (by omega) (by decide)) (ok_some ⟨⟨t0, (y2 rfl).trans s3⟩, h0⟩))))
        · exact ok_ifn (by decide) (ok_ifn (by decide) (ok_ifn (by decide) (ok_ifp rfl (ok_ifp (inb_n (by omega) (by decide)) (ok_some ⟨⟨t0, (y3 rfl).trans s1⟩, h0⟩)))))
        · refine ok_ifn (by decide) (ok_ifn (by decide) (ok_ifn (by decide) (ok_ifn (by decide) (ok_ifp (inb_n (by omega) (by decide)) (ok_some ⟨⟨t0, (y4 rfl).trans ?_⟩, h0⟩)))))
          by_cases h2 : M 30 0 (35 + k) = 2
          · rw [if_pos h2]; exact s4 h2
          · rw [if_neg h2]; exact (s5 h2).symm
      unfold f_X8_passedBy f_X8_whereIs f_X8_throughHour
      rw [ad39, ad35, ad43, nI_clamp (show k < 2 ^ 31 by omega), nI_clamp (show 39 + k < 2 ^ 31 by omega), nI_clamp (show 35 + k < 2 ^ 31 by omega), nI_clamp (show 43 + k < 2 ^ 31 by omega)]
      have hj' : j = 0 ∨ j = 1 ∨ j = 2 ∨ j = 3 ∨ j = 4 := by omega
      rcases hj' with rfl | rfl | rfl | rfl | rfl
      · exact ok_ifp rfl (ok_ifp (inb_n (by omega) (by decide)) (ok_some (model _ (fun _ => rfl) (by simp) (by simp) (by simp) (by simp))))
      · exact ok_ifn (by decide) (ok_ifp rfl (ok_ifp (inb_n (by omega) (by decide)) (ok_some (model _ (by simp) (fun _ => rfl) (by simp) (by simp) (by simp)))))
      · exact ok_ifn (by decide) (ok_ifn (by decide) (ok_ifp rfl (ok_bindE (if_pos (inb_n (by omega) (by decide))) (ok_some (model _ (by simp) (by simp) (fun _ => rfl) (by simp) (by simp))))))
      · exact ok_ifn (by decide) (ok_ifn (by decide) (ok_ifn (by decide) (ok_ifp rfl (ok_bindE (if_pos (inb_n (by omega) (by decide))) (ok_some (model _ (by simp) (by simp) (by simp) (fun _ => rfl) (by simp)))))))
      · refine ok_ifn (by decide) (ok_ifn (by decide) (ok_ifn (by decide) (ok_ifn (by decide) (ok_bindE (if_pos (inb_n (by omega) (by decide))) (ok_if (fun h2 => ok_bindE (if_pos (inb_n (by omega) (by decide))) (ok_some ?_)) (fun h2 => ok_some ?_))))))
        · exact model _ (by simp) (by simp) (by simp) (by simp) (fun _ => by rw [if_pos h2])
        · exact model _ (by simp) (by simp) (by simp) (by simp) (fun _ => by rw [if_neg h2])
