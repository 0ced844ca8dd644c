/-! TRIPS OF THE MODEL -/
theorem TR_s {qc qs : Nat} {M M' : Mem} (h : Rel qc qs M) (m : mfr M M') (t0 : M' 54 0 0 = 0) : ok (f_X12_tries M') (fun M2 => TR M 0 M2 ∧ ∀ j, j < 66 → M2 73 0 j = M 72 0 j) := by
  refine ok_mono m_copy ?_
  rintro M2 ⟨f, r, e39, e54⟩
  have hs := R_SR h
  have r' : ∀ j, j < 66 → M2 73 0 j = M 72 0 j := fun j hj => by rw [r j hj, m.1 72 (by decide)]
  refine ⟨⟨?_, e39, ?_, ?_⟩, r'⟩
  · exact mfr_tr m ⟨fr_mono f (by decide), fun j hj => e54 j (by rintro rfl; revert hj; decide)⟩
  · rw [e54 0 (by decide)]; exact t0
  · refine ⟨?_, fun j hj => r' j (by have := R_n16 h; omega), fun j hj _ => r' _ (by have := R_n16 h; omega), fun x hx => ?_⟩
    · rw [r' 63 (by decide)]; exact (add00 _).symm
    · rw [r' _ (by omega)]
      exact hs.2.2.2.2.2.2.1 x hx
theorem TR_hr {qc qs : Nat} {M M' : Mem} {k : Nat} (h : Rel qc qs M) (t : TR M k M') : ok (f_X12_hourEnds 73 M') (fun M2 => TR M (k + 1) M2 ∧ M2 73 0 = hM qc M 0 (M' 73 0) ∧ fr [69, 70, 74, 73] M' M2) := by
  have e3 : M' 3 = M 3 := (asks_m t.1).1 3 (by decide)
  refine ok_mono (m_hourEnds' (qc := qc) (Or.inr rfl) (TR_base h t) (by rw [nB_fr e3]; exact t.2.2.2.2.2.2)) ?_
  rintro M2 ⟨f2, r2⟩
  obtain ⟨t1, t2, t3, t4⟩ := t
  rw [t2, hM_c h.1.1 (asks_b (asks_m t1))] at r2
  refine ⟨⟨mfr_tr t1 (mfr_f f2 (by decide)), by rw [f2 54 (by decide)]; exact t2, by rw [f2 54 (by decide)]; exact t3, ?_⟩, r2, f2⟩
  rw [r2]
  exact tK_s (R_n16 h) t4
theorem and_m1 (x : Int32) : x &&& (0 ^^^ (-1)) = x := by
  apply b_ext
  intro i hi
  rw [b_and, b_not _ hi, b_0]
  simp
/-- the model on its TRIP: hour k -/
def TT (qc : Nat) (M : Mem) (m : Int32) (t k : Nat) (M' : Mem) : Prop := TR M k M' ∧ M' 73 0 65 = m ∧ M' 73 0 64 = M 72 0 63 + nI t ∧ M' 73 0 52 = nI (tpA qc M m t k).1 ∧ M' 73 0 57 = (if k ≤ t then 0 else 1) ∧ (tpA qc M m t k).2.1 = -1 ∧ ∀ i, i < 16 → M' 77 0 i = (tpA qc M m t k).2.2 i
theorem add_cancel {a b c : Int32} (h : a + b = a + c) : b = c := by
  have : a + b - a = a + c - a := by rw [h]
  grind
theorem m_trips {qc qs : Nat} {M M' : Mem} {m : Int32} {t : Nat} (h : Rel qc qs M) (mm : mfr M M') (t0 : M' 54 0 0 = 0) (ht : t ≤ 48) : ok (f_X12_trips m (nI t) M') (fun r => r.1 = (tpA qc M m t 240).2.1 ∧ mfr M r.2 ∧ r.2 54 0 0 = 0 ∧ ∀ i, i < 16 → r.2 77 0 i = (tpA qc M m t 240).2.2 i) := by
  have hn := R_n16 h
  have hg := R_g4 h
  obtain ⟨v1, v2⟩ := R_v h
  obtain ⟨-, ⟨hr, hr1, hr2⟩, z52, z57⟩ := h.2.2.2.2.2.1
  unfold f_X12_trips
  refine ok_bind (TR_s h mm t0) ?_
  rintro M1 ⟨⟨t1, t2, t3, t4⟩, r1⟩
  refine ok_bind (P := TT qc M m t 0) ?_ ?_
  · refine ok_wh (fun k s => s.1 = nI k ∧ TR M 0 s.2 ∧ s.2 73 0 65 = m ∧ s.2 73 0 64 = M 72 0 63 + nI t ∧ s.2 73 0 52 = 0 ∧ s.2 73 0 57 = 0 ∧ ∀ i, i < k → s.2 77 0 i = 0) 16 ⟨rfl, ⟨mfr_u (mfr_u t1 (by decide)) (by decide), t2, t3, ?_⟩, rfl, ?_, ?_, ?_, fun i hi => by cases hi⟩ (by decide) ?_ ?_
    · obtain ⟨q1, q2, q3, q4⟩ := t4
      refine ⟨q1, fun j hj => ?_, fun j hj hz => ?_, fun x hx => ?_⟩
      · show am_u3 _ 73 0 64 _ 73 0 j = _
        rw [u3_j (by omega), u3_j (by omega)]; exact q2 j hj
      · show am_u3 _ 73 0 64 _ 73 0 (16 + j) = _
        rw [u3_j (by omega), u3_j (by omega)]; exact q3 j hj hz
      · show ∃ p, p ≤ nB M ∧ am_u3 _ 73 0 64 _ 73 0 (48 + x) = nI p
        rw [u3_j (by omega), u3_j (by omega)]; exact q4 x hx
    · show M1 72 0 63 + nI t = _
      rw [t1.1 72 (by decide)]
    · show M1 73 0 52 = 0
      rw [r1 52 (by decide)]; exact z52
    · show M1 73 0 57 = 0
      rw [r1 57 (by decide)]; exact z57
    · rintro k ⟨x, M2⟩ hk ⟨rfl, q1, q2, q3, q4, q5, q6⟩
      simp only at q1 q2 q3 q4 q5 q6
      unfold L_X12_trips_30
      simp only []
      rw [nI_clamp (show k < 2 ^ 31 by omega)]
      refine ok_ifn (nI_ge (b := 16) hk (by decide)) (ok_ifp (inb_n hk (by decide)) (ok_some ⟨nI_1 k, ⟨mfr_u q1.1 (by decide), q1.2.1, q1.2.2.1, q1.2.2.2⟩, q2, q3, q4, q5, fun i hi => ?_⟩))
      show am_u3 M2 77 0 k 0 77 0 i = 0
      by_cases hik : i = k
      · rw [hik, u3_e]
      · rw [u3_j (by omega)]; exact q6 i (by omega)
    · rintro ⟨x, M2⟩ ⟨rfl, q1, q2, q3, q4, q5, q6⟩
      simp only at q1 q2 q3 q4 q5 q6
      unfold L_X12_trips_30
      refine ok_ifp (by decide) (ok_some ⟨q1, q2, q3, q4, ?_, rfl, q6⟩)
      rw [if_pos (Nat.zero_le _)]; exact q5
  · intro M2 tt2
    have fin : ∀ k, k ≤ 240 → (tpA qc M m t k).2.1 ≠ -1 → tpA qc M m t 240 = tpA qc M m t k := by
      intro k hk hs
      have := tpS_st (nB M) (vF M) t (ltA qc M m) k hs (240 - k)
      rw [show k + (240 - k) = 240 by omega] at this
      exact this
    refine ok_bind (P := fun e => match e with
      | Sum.inl (x, M3) => x = (tpA qc M m t 240).2.1 ∧ mfr M M3 ∧ M3 54 0 0 = 0 ∧ ∀ i, i < 16 → M3 77 0 i = (tpA qc M m t 240).2.2 i
      | Sum.inr M3 => -1 = (tpA qc M m t 240).2.1 ∧ mfr M M3 ∧ M3 54 0 0 = 0 ∧ ∀ i, i < 16 → M3 77 0 i = (tpA qc M m t 240).2.2 i) ?_ ?_
    · refine ok_wh (fun k s => s.1 = nI k ∧ TT qc M m t k s.2) 240 ⟨rfl, tt2⟩ (by decide) ?_ ?_
      · rintro k ⟨x, M3⟩ hk ⟨rfl, q1, q2, q3, q4, q5, q6, q7⟩
        simp only at q1 q2 q3 q4 q5 q6 q7
        unfold L_X12_trips_51
        refine ok_ifn (nI_ge (b := 240) hk (by decide)) (ok_bind (TR_hr h q1) ?_)
        rintro M4 ⟨p1, p2, p3⟩
        have hp : (tpA qc M m t k).1 ≤ nB M := tpS_p _ _ _ _ k
        have e63 : M3 73 0 63 = M 72 0 63 + nI k := q1.2.2.2.1
        have h64 : M3 73 0 64 ≠ -1 := by
          rw [q3, ← (R_SR h).1, hr2, nI_add]
          exact nI_m1 (by omega)
        have hc64 : M3 73 0 64 = M3 73 0 63 ↔ k = t := by
          rw [q3, e63]
          constructor
          · intro z
            have := add_cancel z
            exact ((nI_eq (by omega) (by omega)).mp this).symm
          · rintro rfl; rfl
        obtain ⟨w1, w2⟩ := hM_5 (qc := qc) (M := M) (frz := 0) (b := M3 73 0) hn hg q1.2.2.2.2.2.2 h64 hp q4
        have elt : lets M (M3 73 0 65) (bitsN (opB qc M (M3 73 0)) (nB M) &&& (0 ^^^ (-1))) = ltA qc M m k := by
          funext j
          rw [and_m1, tK_bits hn (R_SR h) q1.2.2.2, q2]
          rfl
        rw [elt] at w1
        obtain ⟨b1, b2, b3, -, -⟩ := pon_b (nB M) (ltA qc M m k) (vF M) _ hp
        have hk4 := (hM_k (qc := qc) (frz := 0) hn q1.2.2.2.2.2.2).2.2.1
        have e65 : M4 73 0 65 = m := by rw [p2, hk4 65 (by decide)]; exact q2
        have e64 : M4 73 0 64 = M 72 0 63 + nI t := by rw [p2, hk4 64 (by decide)]; exact q3
        have e77 : M4 77 = M3 77 := p3 77 (by decide)
        have eV : M4 58 0 3 = nI (vF M) := a_mV h (asks_m p1.1)
        rw [q4, eV]
        by_cases hkt : k < t
        · obtain ⟨s1, s2⟩ := w2 (by
            rw [q5, if_pos (by omega), hc64]
            rintro (⟨-, z⟩ | z)
            · omega
            · exact absurd z (by decide))
          have e57 : M4 73 0 57 = 0 := by rw [p2, s2, q5, if_pos (by omega)]
          have eS : tpA qc M m t (k + 1) = tpA qc M m t k := by
            unfold tpA
            rw [tpS_t _ _ _ _ (k + 1) (by omega), tpS_t _ _ _ _ k (by omega)]
          refine ok_ifn (by rw [e57]; decide) (ok_ifn (by rw [e57]; decide) (ok_some ⟨nI_1 k, p1, e65, e64, ?_, ?_, ?_, ?_⟩))
          · show M4 73 0 52 = _
            rw [p2, s1, q4, eS]
          · show M4 73 0 57 = _
            rw [e57, if_pos (by omega)]
          · rw [eS]; exact q6
          · intro i hi
            show M4 77 0 i = _
            rw [e77, eS]; exact q7 i hi
        · obtain ⟨s1, s2⟩ := w1 (by
            rw [q5, hc64]
            by_cases hkt2 : k = t
            · exact Or.inl ⟨by rw [if_pos (by omega)], hkt2⟩
            · exact Or.inr (by rw [if_neg (by omega)]))
          have e52 : M4 73 0 52 = nI (pon (nB M) (ltA qc M m k) (vF M) (tpA qc M m t k).1) := by rw [p2]; exact s1
          have e57 : M4 73 0 57 = (if pon (nB M) (ltA qc M m k) (vF M) (tpA qc M m t k).1 = nB M then 2 else 1) := by rw [p2]; exact s2
          have eS : tpA qc M m t (k + 1) = tpF (nB M) (vF M) t (ltA qc M m) k (tpA qc M m t k) := rfl
          rw [tpF, if_neg (show ¬ (k < t ∨ (tpA qc M m t k).2.1 ≠ -1) by rintro (z | z); omega; exact z q6)] at eS
          rw [e52, e57, nI_sub b1]
          have fin1 := fin (k + 1) (by omega)
          unfold TT
          rw [eS] at fin1 ⊢
          generalize pon (nB M) (ltA qc M m k) (vF M) (tpA qc M m t k).1 = P at b1 b2 b3 e52 e57 fin1 ⊢
          by_cases hP : P = nB M
          · refine ok_ifp (by rw [if_pos hP]) (ok_some ?_)
            have f2 := fin1 (by simp only [if_pos hP]; exact nI_m1 (by omega))
            show nI k = (tpA qc M m t 240).2.1 ∧ mfr M M4 ∧ M4 54 0 0 = 0 ∧ ∀ i, i < 16 → M4 77 0 i = (tpA qc M m t 240).2.2 i
            rw [f2]
            refine ⟨by rw [if_pos hP], p1.1, p1.2.2.1, fun i hi => ?_⟩
            rw [if_neg (show ¬ (P < nB M ∧ P - (tpA qc M m t k).1 < vF M) by omega), e77]; exact q7 i hi
          · refine ok_ifn (by rw [if_neg hP]; decide) (ok_ifp (by rw [if_neg hP]) ?_)
            by_cases hk2 : P - (tpA qc M m t k).1 < vF M
            · rw [nI_clamp (show P < 2 ^ 31 by omega)]
              refine ok_ifn (nI_ge hk2 (by omega)) (ok_ifp (inb_n (by omega) (by decide)) (ok_some ⟨nI_1 k, ⟨mfr_u p1.1 (by decide), p1.2.1, p1.2.2.1, p1.2.2.2⟩, e65, e64, e52, ?_, ?_, fun i hi => ?_⟩))
              · show M4 73 0 57 = _
                rw [e57, if_neg hP, if_neg (by omega)]
              · rw [if_neg hP]
              · show am_u3 M4 77 0 P _ 77 0 i = _
                rw [if_pos (show P < nB M ∧ P - (tpA qc M m t k).1 < vF M by omega), u3_r, e77]
                show upd1 _ _ _ i = upd1 _ _ _ i
                by_cases hiP : i = P
                · rw [hiP, upd1_e, upd1_e, q7 P (by omega)]
                · rw [upd1_n hiP, upd1_n hiP, q7 i hi]
            · refine ok_ifp (nI_le (by omega) (by omega)) (ok_some ⟨nI_1 k, p1, e65, e64, e52, ?_, ?_, fun i hi => ?_⟩)
              · show M4 73 0 57 = _
                rw [e57, if_neg hP, if_neg (by omega)]
              · rw [if_neg hP]
              · show M4 77 0 i = _
                rw [if_neg (show ¬ (P < nB M ∧ P - (tpA qc M m t k).1 < vF M) by omega), e77]; exact q7 i hi
      · rintro ⟨x, M3⟩ ⟨e1, q1, q2, q3, q4, q5, q6, q7⟩
        simp only at e1 q1 q2 q3 q4 q5 q6 q7
        unfold L_X12_trips_51
        exact ok_ifp (by rw [e1]; decide) (ok_some ⟨q6.symm, q1.1, q1.2.2.1, q7⟩)
    · rintro (⟨x, M3⟩ | M3) hq
      · exact ok_some hq
      · exact ok_some hq
/-- where most was knocked -/
theorem mx_inv (f : Nat → Int32) : ∀ k, let s := itr (mxF f) (-1, 0) k; (s.1 = -1 ∧ s.2 = 0) ∨ (∃ j, j < k ∧ s.1 = nI j ∧ s.2 = f j)
  | 0 => Or.inl ⟨rfl, rfl⟩
  | k + 1 => by
    have ih := mx_inv f k
    simp only at ih ⊢
    rw [itr_s]
    generalize itr (mxF f) (-1, 0) k = s at ih
    unfold mxF
    split
    · rcases ih with ih | ⟨j, h1, h2, h3⟩
      · exact Or.inl ih
      · exact Or.inr ⟨j, by omega, h2, h3⟩
    · exact Or.inr ⟨k, by omega, rfl, rfl⟩
theorem c_mostK {M : Mem} {n : Nat} {f : Nat → Int32} (e : M 3 0 0 = nI n) (hn : n ≤ 16) (hf : ∀ i, i < 16 → M 42 0 i = f i) : f_X6_mostKnockedAt M = some (itr (mxF f) (-1, 0) n).1 := by
  unfold f_X6_mostKnockedAt
  have key : wh (L_X6_mostKnockedAt_4 M) FU ((-1 : Int32), (0 : Int32)) = some (itr (mxF f) (-1, 0) n).1 := by
    refine wh_for (fun k => ((itr (mxF f) (-1, 0) k).1, nI k)) n _ (by omega) ?_ ?_
    · intro k hk
      have ih := mx_inv f k
      simp only at ih
      unfold L_X6_mostKnockedAt_4
      simp only []
      rw [e, if_neg (nI_ge hk (by omega)), if_pos (inb_n (by omega) (by decide)), nI_clamp (by omega), nI_1, itr_s, hf k (by omega)]
      generalize itr (mxF f) (-1, 0) k = s at ih
      unfold mxF
      rcases ih with ⟨h1, h2⟩ | ⟨j, hj, h1, h2⟩
      · rw [if_pos h1, h2]
        split <;> rfl
      · rw [if_neg (by rw [h1]; exact nI_m1 (by omega)), if_pos (by rw [h1]; exact inb_n (by omega) (by decide)), h1, nI_clamp (by omega), hf j (by omega), h2]
        split
        · rw [← h1]
        · rfl
    · unfold L_X6_mostKnockedAt_4
      simp only []
      rw [e, if_pos (nI_le (Nat.le_refl _) (by omega))]
  rw [key]; rfl
theorem m_mostK {M : Mem} {n : Nat} {f : Nat → Int32} (e : M 58 0 0 = nI n) (hn : n ≤ 16) (hf : ∀ i, i < 16 → M 77 0 i = f i) : wh (L_X12_trip_67 M) FU ((0 : Int32), (0 : Int32), (-1 : Int32), (0 : Int32)) = some (sumN f n, (itr (mxF f) (-1, 0) n).1) := by
  refine wh_for (fun k => ((itr (mxF f) (-1, 0) k).2, sumN f k, (itr (mxF f) (-1, 0) k).1, nI k)) n _ (by omega) ?_ ?_
  · intro k hk
    unfold L_X12_trip_67
    simp only []
    rw [e, if_neg (nI_ge hk (by omega)), if_pos (inb_n (by omega) (by decide)), nI_clamp (by omega), nI_1, itr_s, hf k (by omega), sumN_s, mxF]
    by_cases hc : f k ≤ (itr (mxF f) (-1, 0) k).2
    · rw [if_neg (Int32.not_lt.mpr hc), if_pos hc]
    · rw [if_pos (Int32.not_le.mp hc), if_neg hc]
  · unfold L_X12_trip_67
    simp only []
    rw [e, if_pos (nI_le (Nat.le_refl _) (by omega))]
def vTrip (n y : Nat) (s : Nat × Int32 × (Nat → Int32)) : Int32 := if y = 0 then s.2.1 else if y = 1 then sumN s.2.2 n else (itr (mxF s.2.2) (-1, 0) n).1
theorem k_trip {qc qs qd : Nat} {M : Mem} {m t y : Nat} (h : Rel qc qs M) (hm : m ≤ 9) (ht : t ≤ 48) (hy : y ≤ 2) : ok (f_X11_trip qc qd (nI m) (nI t) (nI y) M) (fun r => r.1 = .inl (vTrip (nB M) y (tpA qc M (nI m) t 240)) ∧ asks M r.2 ∧ cch qc r.2) := by
  unfold f_X11_trip
  refine ok_bindE (mastT (fit_n (n := 9) (by decide) hm)) (ok_bindE (fitT (fit_n (n := 48) (by decide) ht)) (ok_bindE (fitT (fit_n (n := 2) (by decide) hy)) (ok_bind (c_sail h (OS_rfl h) ht) ?_)))
  rintro M1 ⟨o1, s1, s2, s3⟩
  generalize tpA qc M (nI m) t 240 = S at s1 s2 s3 ⊢
  have hy' : y = 0 ∨ y = 1 ∨ y = 2 := by omega
  rcases hy' with rfl | rfl | rfl
  · exact ok_ifp rfl (ok_some ⟨by rw [s1]; rfl, OS_end o1⟩)
  · exact ok_ifn (by decide) (ok_ifp rfl (ok_some ⟨by rw [s2]; rfl, OS_end o1⟩))
  · exact ok_ifn (by decide) (ok_ifn (by decide) (ok_bindE (c_mostK (n := nB M) (by rw [(OS_a o1).1 3 (by decide)]; exact R_eB h) (R_n16 h) s3) (ok_some ⟨rfl, OS_end o1⟩)))
theorem m_trip {qc qs : Nat} {M M1 : Mem} {m t y : Nat} (h : Rel qc qs M) (h1 : Rel qc qs M1) (a1 : asks M M1) (hm : m ≤ 9) (ht : t ≤ 48) (hy : y ≤ 2) : ok (f_X12_trip (nI m) (nI t) (nI y) M1) (fun r => r.1 = vTrip (nB M) y (tpA qc M (nI m) t 240) ∧ r.2 54 0 0 = 0 ∧ mfr M1 r.2) := by
  unfold f_X12_trip
  refine ok_ifn (in_n (n := 9) (by decide) hm) (ok_ifn (in_n (n := 48) (by decide) ht) (ok_ifn (in_n (n := 2) (by decide) hy) (ok_bindE (badM0 _ _ _) (ok_ifp rfl (ok_bind (m_trips h1 (mfr_M0 M1) (M0_t M1) ht) ?_)))))
  rintro ⟨x, M2⟩ ⟨e1, m2, t2, s3⟩
  simp only at e1 m2 t2 s3
  rw [tpA_a h.1.1 a1] at e1 s3
  generalize tpA qc M (nI m) t 240 = S at e1 s3 ⊢
  refine ok_bindE (m_mostK (n := nB M) (a_mB h (asks_tr a1 (asks_m m2))) (R_n16 h) s3) ?_
  have hy' : y = 0 ∨ y = 1 ∨ y = 2 := by omega
  rcases hy' with rfl | rfl | rfl
  · exact ok_ifp rfl (ok_some ⟨e1, t2, m2⟩)
  · exact ok_ifn (by decide) (ok_ifp rfl (ok_some ⟨rfl, t2, m2⟩))
  · exact ok_ifn (by decide) (ok_ifn (by decide) (ok_some ⟨rfl, t2, m2⟩))
theorem t_trip {qc qs qd : Nat} {x y z : Int32} {M : Mem} (h : Rel qc qs M) : ok (f_X11_trip qc qd x y z M) (fun r => ok (f_X12_trip x y z r.2) (fun r' => ans1 r.1 r'.1 (r'.2 54 0 0) ∧ Rel qc qs r'.2)) := by
  have hg := R_n16 h
  have em := R_mB h
  have h8 := R_s8 h
  have emS := R_mS h
  by_cases hx_0 : x < 0 ∨ 9 < x
  · unfold f_X11_trip
    refine ok_bindE (mastF hx_0) (ok_some ?_)
    unfold f_X12_trip
    exact ok_ifp ((in_eq _ _ _).mpr hx_0) (ok_bindE (bad14 M (by decide)) (ok_ifn (by decide) (ok_some ⟨⟨rfl, RM_t 14 1 M⟩, Rel_RM (k := 14) (Or.inr rfl) h⟩)))
  · skip
    by_cases hy_1 : y < 0 ∨ 48 < y
    · unfold f_X11_trip
      refine ok_bindE (mastT hx_0) (ok_bindE (fitF hy_1) (ok_some ?_))
      unfold f_X12_trip
      exact ok_ifn (fun z => hx_0 ((in_eq _ _ _).mp z)) (ok_ifp ((in_eq _ _ _).mpr hy_1) (ok_bindE (bad14 M (by decide)) (ok_ifn (by decide) (ok_some ⟨⟨rfl, RM_t 14 1 M⟩, Rel_RM (k := 14) (Or.inr rfl) h⟩))))
    · skip
      by_cases hz_2 : z < 0 ∨ 2 < z
      · unfold f_X11_trip
        refine ok_bindE (mastT hx_0) (ok_bindE (fitT hy_1) (ok_bindE (fitF hz_2) (ok_some ?_)))
        unfold f_X12_trip
        exact ok_ifn (fun z => hx_0 ((in_eq _ _ _).mp z)) (ok_ifn (fun z => hy_1 ((in_eq _ _ _).mp z)) (ok_ifp ((in_eq _ _ _).mpr hz_2) (ok_bindE (bad14 M (by decide)) (ok_ifn (by decide) (ok_some ⟨⟨rfl, RM_t 14 1 M⟩, Rel_RM (k := 14) (Or.inr rfl) h⟩)))))
      · skip
        obtain ⟨a_x, rfl, l_x⟩ := args (n := 9) rfl (by decide) hx_0
        obtain ⟨a_y, rfl, l_y⟩ := args (n := 48) rfl (by decide) hy_1
        obtain ⟨a_z, rfl, l_z⟩ := args (n := 2) rfl (by decide) hz_2
        exact t_of1 h (k_trip h l_x l_y l_z) (fun M1 h1 a1 => m_trip h h1 a1 l_x l_y l_z)
