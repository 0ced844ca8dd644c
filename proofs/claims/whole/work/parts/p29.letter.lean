/-! letter, busiest -/
def ltF (p : Nat → Bool) (b v : Nat) (k : Nat) (s : Int32 × Int32 × Int32) : Int32 × Int32 × Int32 := if p k = true then ((if s.2.2 = 0 then nI k else s.1), (if s.2.2 = 0 then nI (b + k * v) else s.2.1), s.2.2 + 1) else s
def ltN (n b v : Nat) : Nat := (n - b + v - 1) / v
theorem ltN_a {n b v : Nat} (h1 : 1 ≤ v) (h2 : v ≤ 4) (hb : b < n) (hn : n ≤ 16) : ltN n b v ≤ 16 ∧ n ≤ b + ltN n b v * v ∧ (∀ k, k < ltN n b v → b + k * v < n) := by
  unfold ltN
  have hv : v = 1 ∨ v = 2 ∨ v = 3 ∨ v = 4 := by omega
  rcases hv with rfl | rfl | rfl | rfl
  all_goals refine ⟨by omega, by omega, fun k hk => by omega⟩
def vLet (qc : Nat) (M : Mem) (b k : Nat) : Int32 × Int32 × Int32 := itr (ltF (fun k => bt (openA qc M (M 30 0) k) (b + k * vF M)) b (vF M)) (-1, -1, 0) k
theorem add1_1 (x : Int32) : x + 1 = 1 ↔ x = 0 := by
  constructor
  · intro h
    have : x + 1 - 1 = 1 - 1 := by rw [h]
    grind
  · rintro rfl; rfl
def pick3 (y : Nat) (s : Int32 × Int32 × Int32) : Int32 := if y = 0 then s.1 else if y = 1 then s.2.1 else s.2.2
theorem kv1 (k v : Nat) : k * v + v = (k + 1) * v := by rw [Nat.add_mul, Nat.one_mul]
theorem k_letter {qc qs qd : Nat} {M : Mem} {b y : Nat} (h : Rel qc qs M) (hb : b < nB M) (hy : y ≤ 2) : ok (f_X11_letter qc qd (nI b) (nI y) M) (fun r => r.1 = .inl (pick3 y (vLet qc M b (ltN (nB M) b (vF M)))) ∧ asks M r.2 ∧ cch qc r.2) := by
  have hn := R_n16 h
  obtain ⟨v1, v2⟩ := R_v h
  obtain ⟨n1, n2, n3⟩ := ltN_a v1 v2 hb hn
  unfold f_X11_letter
  refine ok_bindE (bdT (bd_n (R_eB h) (by omega) hb)) (ok_bindE (fitT (fit_n (n := 2) (by decide) hy)) ?_)
  refine ok_bind (P := fun r => (r.1, r.2.1, r.2.2.1) = vLet qc M b (ltN (nB M) b (vF M)) ∧ OL qc M r.2.2.2) ?_ ?_
  · refine ok_wh (fun k s => (s.1, s.2.1, s.2.2.1) = vLet qc M b k ∧ s.2.2.2.1 = nI (b + k * vF M) ∧ s.2.2.2.2.1 = nI k ∧ OL qc M s.2.2.2.2.2) (ltN (nB M) b (vF M)) ⟨rfl, by simp, rfl, OL_rfl h⟩ (by omega) ?_ ?_
    · rintro k ⟨x3, x4, x5, x6, x7, M1⟩ hk ⟨e1, e2, e3, o1⟩
      simp only at e1 e2 e3 o1
      subst e2 e3
      have hk3 := n3 k hk
      unfold L_X11_letter_26
      simp only [OL_e3 o1, R_eB h]
      refine ok_ifn (nI_ge (b := 16) (by omega) (by decide)) (ok_ifn (nI_ge hk3 (by omega)) (ok_bind (OL_open h o1 (by omega)) ?_))
      rintro ⟨w, M2⟩ ⟨rfl, o2⟩
      simp only at o2
      simp only [OL_e3 o2, R_eV h, isBit_bt _ (show b + k * vF M < 32 by omega), nI_add]
      have eS : vLet qc M b (k + 1) = ltF (fun k => bt (openA qc M (M 30 0) k) (b + k * vF M)) b (vF M) k (vLet qc M b k) := rfl
      rw [eS, ← e1, ltF]
      have eN : nI (b + k * vF M + vF M) = nI (b + (k + 1) * vF M) := by rw [Nat.add_assoc, kv1]
      cases hh : bt (openA qc M (M 30 0) k) (b + k * vF M)
      · refine ok_ifp rfl (ok_some ⟨?_, eN, nI_1 k, o2⟩)
        rw [if_neg (by simp)]
      · refine ok_ifn (by decide) (ok_if (fun h5 => ok_some ⟨?_, eN, nI_1 k, o2⟩) (fun h5 => ok_some ⟨?_, eN, nI_1 k, o2⟩))
        · rw [add1_1] at h5
          rw [if_pos (by simp), if_pos h5, if_pos h5]
        · rw [add1_1] at h5
          rw [if_pos (by simp), if_neg h5, if_neg h5]
    · rintro ⟨x3, x4, x5, x6, x7, M1⟩ ⟨e1, e2, e3, o1⟩
      simp only at e1 e2 e3 o1
      subst e2 e3
      unfold L_X11_letter_26
      simp only [OL_e3 o1, R_eB h]
      by_cases h16 : ltN (nB M) b (vF M) = 16
      · exact ok_ifp (by rw [h16]; decide) (ok_some ⟨e1, o1⟩)
      · have hub : b + ltN (nB M) b (vF M) * vF M < 2 ^ 31 := by
          have : ltN (nB M) b (vF M) * vF M ≤ 16 * 4 := Nat.mul_le_mul n1 v2
          omega
        exact ok_ifn (nI_ge (b := 16) (by omega) (by decide)) (ok_ifp (nI_le n2 hub) (ok_some ⟨e1, o1⟩))
  · rintro ⟨x3, x4, x5, M1⟩ ⟨e, o⟩
    simp only at e o
    rw [← e]
    have hy' : y = 0 ∨ y = 1 ∨ y = 2 := by omega
    rcases hy' with rfl | rfl | rfl
    · exact ok_ifn (by decide) (ok_ifp rfl (ok_some ⟨rfl, OL_end o⟩))
    · exact ok_ifn (by decide) (ok_ifn (by decide) (ok_some ⟨rfl, OL_end o⟩))
    · exact ok_ifp rfl (ok_some ⟨rfl, OL_end o⟩)
theorem m_letter {qc qs : Nat} {M M1 : Mem} {b y : Nat} (h : Rel qc qs M) (h1 : Rel qc qs M1) (a1 : asks M M1) (hb : b < nB M) (hy : y ≤ 2) : ok (f_X12_letter (nI b) (nI y) M1) (fun r => r.1 = pick3 y (vLet qc M b (ltN (nB M) b (vF M))) ∧ r.2 54 0 0 = 0 ∧ mfr M1 r.2) := by
  have hn := R_n16 h
  have em := a_mB h a1
  obtain ⟨v1, v2⟩ := R_v h
  obtain ⟨n1, n2, n3⟩ := ltN_a v1 v2 hb hn
  unfold f_X12_letter
  refine ok_ifn (inT em (by omega) hb) (ok_bindE (badM0 _ _ _) (ok_ifp rfl (ok_ifn (in_n (n := 2) (by decide) hy) (ok_bindE (badM0 _ _ _) (ok_ifp rfl (ok_bind (TR_0 h1) ?_))))))
  intro M2 t2
  refine ok_bind (P := fun r => (r.1, r.2.1, r.2.2.1) = vLet qc M b (ltN (nB M) b (vF M)) ∧ ∃ k, TR M1 k r.2.2.2) ?_ ?_
  · refine ok_wh (fun k s => (s.1, s.2.1, s.2.2.1) = vLet qc M b k ∧ s.2.2.2.1 = nI k ∧ s.2.2.2.2.1 = nI (b + k * vF M) ∧ TR M1 k s.2.2.2.2.2) (ltN (nB M) b (vF M)) ⟨rfl, rfl, by simp, t2⟩ (by omega) ?_ ?_
    · rintro k ⟨x3, x4, x5, x6, x7, M3⟩ hk ⟨e1, e2, e3, t3⟩
      simp only at e1 e2 e3 t3
      subst e2 e3
      have hk3 := n3 k hk
      unfold L_X12_letter_70
      simp only [a_mB h (asks_tr a1 (asks_m t3.1))]
      refine ok_ifn (nI_ge hk3 (by omega)) (ok_bind (TR_open h1 t3 (by rw [a_nB a1]; exact hk3)) ?_)
      rintro ⟨w, M4⟩ ⟨rfl, t4⟩
      simp only [openA_1 h a1] at t4 ⊢
      have eS : vLet qc M b (k + 1) = ltF (fun k => bt (openA qc M (M 30 0) k) (b + k * vF M)) b (vF M) k (vLet qc M b k) := rfl
      rw [eS, ← e1, ltF]
      have eN : nI (b + k * vF M) + nI (vF M) = nI (b + (k + 1) * vF M) := by rw [nI_add, Nat.add_assoc, kv1]
      cases hh : bt (openA qc M (M 30 0) k) (b + k * vF M)
      · refine ok_ifp rfl (ok_bind (TR_hour h1 t4) ?_)
        intro M5 t5
        rw [a_mV h (asks_tr a1 (asks_m t5.1))]
        refine ok_some ⟨?_, nI_1 k, eN, t5⟩
        rw [if_neg (by simp)]
      · refine ok_ifn (by decide) (ok_if (fun h5 => ok_bind (TR_hour h1 t4) ?_) (fun h5 => ok_bind (TR_hour h1 t4) ?_))
        · intro M5 t5
          rw [a_mV h (asks_tr a1 (asks_m t5.1))]
          refine ok_some ⟨?_, nI_1 k, eN, t5⟩
          rw [if_pos (by simp), if_pos h5, if_pos h5]
        · intro M5 t5
          rw [a_mV h (asks_tr a1 (asks_m t5.1))]
          refine ok_some ⟨?_, nI_1 k, eN, t5⟩
          rw [if_pos (by simp), if_neg h5, if_neg h5]
    · rintro ⟨x3, x4, x5, x6, x7, M3⟩ ⟨e1, e2, e3, t3⟩
      simp only at e1 e2 e3 t3
      subst e2 e3
      unfold L_X12_letter_70
      simp only [a_mB h (asks_tr a1 (asks_m t3.1))]
      have hub : b + ltN (nB M) b (vF M) * vF M < 2 ^ 31 := by
        have : ltN (nB M) b (vF M) * vF M ≤ 16 * 4 := Nat.mul_le_mul n1 v2
        omega
      exact ok_ifp (nI_le n2 hub) (ok_some ⟨e1, _, t3⟩)
  · rintro ⟨x3, x4, x5, M3⟩ ⟨e, k, t⟩
    simp only at e t
    rw [← e]
    have hy' : y = 0 ∨ y = 1 ∨ y = 2 := by omega
    rcases hy' with rfl | rfl | rfl
    · exact ok_ifp rfl (ok_some ⟨rfl, TR_end t⟩)
    · exact ok_ifn (by decide) (ok_ifp rfl (ok_some ⟨rfl, TR_end t⟩))
    · exact ok_ifn (by decide) (ok_ifn (by decide) (ok_some ⟨rfl, TR_end t⟩))
/-- BOARDS due in an hour of the day -/
def dueL (qc : Nat) (M : Mem) (d : Int32) (k b : Nat) : Bool := decide (¬ lvb qc M b (nI k) d (M 30 0 (3 + b)) ≤ 0)
def cntL (qc : Nat) (M : Mem) (d : Int32) (k : Nat) : Int32 := sumN (fun b => if dueL qc M d k b = true then 1 else 0) (nB M)
theorem bc_bits {f : Nat → Bool} {n : Nat} (hn : n ≤ 16) : bcI (bitsN f n) = sumN (fun j => if f j = true then 1 else 0) n := by
  rw [bc_ones (fun j h1 h2 => by rw [bt_bitsN f (by omega) h2, decide_eq_false (by omega)]; rfl)]
  exact sumN_z hn (fun j hj => by rw [bt_bitsN f (by omega) (by omega), decide_eq_true hj, Bool.true_and]) (fun j h1 h2 => by rw [bt_bitsN f (by omega) (by omega), decide_eq_false (by omega)]; rfl)
theorem t_busiest {qc qs qd : Nat} {M : Mem} (h : Rel qc qs M) : ok (f_X11_busiest qc qd M) (fun r => ok (f_X12_busiest r.2) (fun r' => r.1 = r'.1 ∧ Rel qc qs r'.2)) := by
  have hn := R_n16 h
  obtain ⟨hr, hr1, hr2⟩ := h.2.2.2.2.2.1.2.1
  unfold f_X11_busiest
  refine ok_bind (P := fun r => r.1 = (itr (mxF (cntL qc M (nI (hr / 24)))) (0, -1) 24).1 ∧ fr [26, 27] M r.2) ?_ ?_
  · refine ok_wh (fun k s => s.1 = (itr (mxF (cntL qc M (nI (hr / 24)))) (0, -1) k).1 ∧ s.2.1 = (itr (mxF (cntL qc M (nI (hr / 24)))) (0, -1) k).2 ∧ s.2.2.1 = nI k ∧ fr [26, 27] M s.2.2.2) 24 ⟨rfl, rfl, rfl, fr_rfl⟩ (by decide) ?_ ?_
    · rintro k ⟨x, x', y, M1⟩ hk ⟨e1, e2, e3, f1⟩
      simp only at e1 e2 e3 f1
      subst e3
      unfold L_X11_busiest_26
      have hb1 := base_f h.1 f1 (by decide)
      refine ok_ifn (nI_ge (b := 24) hk (by decide)) (ok_bind (c_dueBits (Or.inl rfl) hb1) ?_)
      rintro ⟨w, M2⟩ ⟨rfl, f2⟩
      simp only at f2
      have eh : M 30 0 0 - (M 30 0 0 - M 30 0 0 / 24 * 24) + nI k = nI (24 * (hr / 24) + k) := by
        rw [hr2, show (24 : Int32) = nI 24 from rfl, nI_mod (by omega) (by decide), nI_sub (Nat.mod_le _ _), nI_add]
        congr 1; omega
      have ed : nI (24 * (hr / 24) + k) / 24 = nI (hr / 24) := by
        rw [show (24 : Int32) = nI 24 from rfl, nI_div (by omega) (by decide)]; congr 1; omega
      have em : nI (24 * (hr / 24) + k) - nI (24 * (hr / 24) + k) / 24 * 24 = nI k := by
        rw [show (24 : Int32) = nI 24 from rfl, nI_mod (by omega) (by decide)]; congr 1; omega
      have ec : bcI (bitsN (fun b => lawB qc M1 b (M 30 0 0 - (M 30 0 0 - M 30 0 0 / 24 * 24) + nI k) (M1 30 0 (3 + b))) (nB M1)) = cntL qc M (nI (hr / 24)) k := by
        rw [bc_bits (by rw [nB_fr (f1 3 (by decide))]; exact hn), nB_fr (f1 3 (by decide)), eh]
        refine sumN_cong (fun b hb => ?_)
        rw [lawB_f h.1.1 f1 (by decide), f1 30 (by decide)]
        unfold lawB dueL
        rw [em, ed]
      simp only [ec]
      rw [itr_s, mxF, ← e2]
      refine ok_if (fun hc => ok_some ⟨?_, ?_, nI_1 k, fr_tr f1 f2⟩) (fun hc => ok_some ⟨?_, ?_, nI_1 k, fr_tr f1 f2⟩)
      · rw [if_pos hc]; exact e1
      · rw [if_pos hc]; exact e2
      · rw [if_neg hc]
      · rw [if_neg hc]
    · rintro ⟨x, x', y, M1⟩ ⟨e1, e2, e3, f1⟩
      simp only at e1 e2 e3 f1
      unfold L_X11_busiest_26
      exact ok_ifp (by rw [e3]; decide) (ok_some ⟨e1, f1⟩)
  · rintro ⟨x, M1⟩ ⟨e1, f1⟩
    simp only at e1 f1
    have a1 : asks M M1 := asks_c (fr_mono f1 (by decide))
    have h1 := Rel_a h a1 (cch_ol h.1.1 (fr_mono f1 (by decide)) (by rw [f1 38 (by decide)]) (f1 41 (by decide)) (R_cch h))
    refine ok_some ?_
    show ok (f_X12_busiest M1) _
    unfold f_X12_busiest
    refine ok_bind (P := fun r => r.1 = (itr (mxF (cntL qc M (nI (hr / 24)))) (0, -1) 24).1 ∧ mfr M1 r.2) ?_ ?_
    · refine ok_wh (fun k s => s.1 = (itr (mxF (cntL qc M (nI (hr / 24)))) (0, -1) k).1 ∧ s.2.1 = (itr (mxF (cntL qc M (nI (hr / 24)))) (0, -1) k).2 ∧ s.2.2.1 = nI k ∧ mfr M1 s.2.2.2) 24 ⟨rfl, rfl, rfl, mfr_M0 M1⟩ (by decide) ?_ ?_
      · rintro k ⟨y, y', z, M2⟩ hk ⟨g1, g2, g3, m2⟩
        simp only at g1 g2 g3 m2
        subst g3
        unfold L_X12_busiest_11
        refine ok_ifn (nI_ge (b := 24) hk (by decide)) (ok_bind (P := fun r => r.1 = cntL qc M (nI (hr / 24)) k ∧ mfr M1 r.2) ?_ ?_)
        · refine ok_wh (fun b s => s.1 = sumN (fun b => if dueL qc M (nI (hr / 24)) k b = true then 1 else 0) b ∧ s.2.1 = nI b ∧ mfr M1 s.2.2) (nB M) ⟨rfl, rfl, m2⟩ (by omega) ?_ ?_
          · rintro b ⟨u, u', M3⟩ hb ⟨p1, p2, m3⟩
            simp only at p1 p2 m3
            subst p1 p2
            have a3 : asks M M3 := asks_tr a1 (asks_m m3)
            have h3 := Rel_q h1 asks_rfl (R_cch h1) m3
            unfold L_X12_busiest_23
            simp only [a_mB h a3, ad16, nI_clamp (show 16 + b < 2 ^ 31 by omega)]
            refine ok_ifn (nI_ge hb (by omega)) (ok_ifp (inb_n (by omega) (by decide)) (ok_bind (m_isLawful h3.1.1 h3.1.2.1 h3.1.2.2.1 (by omega) (R_bd h3 (by rw [a_nB a3]; exact hb))) ?_))
            rintro ⟨w, M4⟩ ⟨rfl, f4⟩
            simp only at f4
            have ev : lvb qc M3 b (nI k) (M3 72 0 63 / 24) (M3 72 0 (16 + b)) = lvb qc M b (nI k) (nI (hr / 24)) (M 30 0 (3 + b)) := by
              rw [lvb_fr (a3.1 23 (by decide)) (by rcases h.1.1 with rfl | rfl <;> exact a3.1 _ (by decide)) (a3.1 4 (by decide)) (a3.1 5 (by decide)) (a3.1 6 (by decide)) (a3.1 7 (by decide)), a3.1 72 (by decide), (R_SR h).2.2.1.1 b hb, ← (R_SR h).1, hr2, show (24 : Int32) = nI 24 from rfl, nI_div (by omega) (by decide)]
            have m4 : mfr M1 M4 := mfr_tr m3 (mfr_f f4 (by decide))
            simp only [ev]
            rw [sumN_s]
            by_cases hv : lvb qc M b (nI k) (nI (hr / 24)) (M 30 0 (3 + b)) ≤ 0
            · have hd : dueL qc M (nI (hr / 24)) k b = false := by unfold dueL; simp [hv]
              refine ok_ifp (by rw [if_pos hv]) (ok_some ⟨?_, nI_1 b, m4⟩)
              rw [hd]; rfl
            · have hd : dueL qc M (nI (hr / 24)) k b = true := by unfold dueL; simp [hv]
              refine ok_ifn (by rw [if_neg hv]; decide) (ok_some ⟨?_, nI_1 b, m4⟩)
              rw [hd]; rfl
          · rintro ⟨u, u', M3⟩ ⟨p1, p2, m3⟩
            simp only at p1 p2 m3
            subst p2
            unfold L_X12_busiest_23
            simp only [a_mB h (asks_tr a1 (asks_m m3))]
            exact ok_ifp (nI_le (Nat.le_refl _) (by omega)) (ok_some ⟨p1, m3⟩)
        · rintro ⟨u, M3⟩ ⟨p1, m3⟩
          simp only at p1 m3
          subst p1
          rw [itr_s, mxF, ← g2]
          refine ok_if (fun hc => ok_some ⟨?_, ?_, nI_1 k, m3⟩) (fun hc => ok_some ⟨?_, ?_, nI_1 k, m3⟩)
          · rw [if_neg (Int32.not_le.mpr hc)]
          · rw [if_neg (Int32.not_le.mpr hc)]
          · rw [if_pos (Int32.not_lt.mp hc)]; exact g1
          · rw [if_pos (Int32.not_lt.mp hc)]; exact g2
      · rintro ⟨y, y', z, M2⟩ ⟨g1, g2, g3, m2⟩
        simp only at g1 g2 g3 m2
        unfold L_X12_busiest_11
        exact ok_ifp (by rw [g3]; decide) (ok_some ⟨g1, m2⟩)
    · rintro ⟨y, M2⟩ ⟨g1, m2⟩
      simp only at g1 m2
      exact ok_some ⟨e1.trans g1.symm, Rel_q h1 asks_rfl (R_cch h1) m2⟩
theorem t_letter {qc qs qd : Nat} {x y : Int32} {M : Mem} (h : Rel qc qs M) : ok (f_X11_letter qc qd x y M) (fun r => ok (f_X12_letter x y r.2) (fun r' => ans2 r.1 r'.1 (r'.2 54 0 0) ∧ Rel qc qs r'.2)) := by
  have hg := R_n16 h
  have em := R_mB h
  have h8 := R_s8 h
  have emS := R_mS h
  by_cases hx_0 : x < 0 ∨ M 3 0 0 ≤ x
  · unfold f_X11_letter
    refine ok_bindE (bdF hx_0) (ok_some ?_)
    rw [R_eB h] at hx_0
    unfold f_X12_letter
    exact ok_ifp (inF em (by omega) hx_0) (ok_bindE (bad13 M (by decide)) (ok_ifn (by decide) (ok_some ⟨Or.inl ⟨rfl, RM_t 13 1 M⟩, Rel_RM (k := 13) (Or.inl rfl) h⟩)))
  · skip
    by_cases hy_1 : y < 0 ∨ 2 < y
    · unfold f_X11_letter
      refine ok_bindE (bdT hx_0) (ok_bindE (fitF hy_1) (ok_some ?_))
      rw [R_eB h] at hx_0
      obtain ⟨b_0, rfl, hb_0⟩ := there_arg (by omega) hx_0
      unfold f_X12_letter
      exact ok_ifn (inT em (by omega) hb_0) (ok_bindE (badM0 _ _ _) (ok_ifp rfl (ok_ifp ((in_eq _ _ _).mpr hy_1) (ok_bindE (bad14 M (by decide)) (ok_ifn (by decide) (ok_some ⟨Or.inr ⟨rfl, RM_t 14 2 M⟩, Rel_RM (k := 14) (Or.inr rfl) h⟩))))))
    · skip
      rw [R_eB h] at hx_0
      obtain ⟨a_x, rfl, l_x⟩ := there_arg (by omega) hx_0
      obtain ⟨a_y, rfl, l_y⟩ := args (n := 2) rfl (by decide) hy_1
      exact t_of2 h (k_letter h l_x l_y) (fun M1 h1 a1 => m_letter h h1 a1 l_x l_y)
