/-! ahead, winters, span -/
theorem OF_rfl {qc qs : Nat} {M : Mem} (h : Rel qc qs M) : OF qc M M := ⟨fr_rfl, R_cch h⟩
theorem args1 {x hi : Int32} {n : Nat} (e : hi = nI n) (hn : n < 2 ^ 31) (h : ¬ (x < 1 ∨ hi < x)) : ∃ k, x = nI k ∧ k ≤ n ∧ 1 ≤ k := by
  have h1 : (1 : Int32) ≤ x := by rw [← Int32.not_lt]; exact fun z => h (Or.inl z)
  have h0 : (0 : Int32) ≤ x := by
    rw [Int32.le_iff_toInt_le] at h1 ⊢
    have : (1 : Int32).toInt = 1 := rfl
    have : (0 : Int32).toInt = 0 := rfl
    omega
  obtain ⟨k, rfl, hk⟩ := rng hn h0 (by rw [← Int32.not_lt]; exact fun z => h (Or.inr (e ▸ z)))
  refine ⟨k, rfl, hk, ?_⟩
  rw [Int32.le_iff_toInt_le, nI_toInt (by omega)] at h1
  have : (1 : Int32).toInt = 1 := rfl
  omega
theorem and15_nn (x : Int32) : (0 : Int32) ≤ x &&& 15 := by
  obtain ⟨m, hm, em⟩ := small_bits (x := x &&& 15) (n := 4) (by decide) (fun j h1 h2 => by rw [b_and, b_15, decide_eq_false (by omega), Bool.and_false])
  rw [em]
  exact nI_pos' (by omega)
theorem bitsN_0 {f : Nat → Bool} : ∀ {n : Nat}, (∀ k, k < n → f k = false) → bitsN f n = 0
  | 0, _ => rfl
  | n + 1, h => by rw [bitsN_sf _ _ (h n (by omega)), bitsN_0 (fun k hk => h k (by omega))]; rfl
theorem frz0 (n : Nat) (s : Int32) : frz n 0 s = fun _ => 0 := by
  funext k
  unfold frz
  refine bitsN_0 (fun b _ => ?_)
  unfold frB
  exact decide_eq_false (fun z => z (and15_nn _))
theorem bK_g {qc qs : Nat} {M : Mem} {q seed : Int32} {H : Nat} (h : Rel qc qs M) (hH : H ≤ 240) (g g' : Nat → Int32) : thr (fun k => bK qc M (frz (nB M) q seed) g H (53 + k)) (nG M) = thr (fun k => bK qc M (frz (nB M) q seed) g' H (53 + k)) (nG M) ∧ vSum (nB M) (bK qc M (frz (nB M) q seed) g H) 16 = vSum (nB M) (bK qc M (frz (nB M) q seed) g' H) 16 ∧ vSum (nB M) (bK qc M (frz (nB M) q seed) g H) 32 = vSum (nB M) (bK qc M (frz (nB M) q seed) g' H) 32 ∧ icK qc M (frz (nB M) q seed) g H = icK qc M (frz (nB M) q seed) g' H := by
  obtain ⟨M2, -, -, hs⟩ := c_freeze (qd := 0) (seed := seed) (q := q) h (OF_rfl h) hH
  have hn := R_n16 h
  have hg := R_g4 h
  refine ⟨?_, ?_, ?_, ?_⟩
  · rw [← SR_thr hg (hs g).1, ← SR_thr hg (hs g').1]
  · rw [← SR_fns hn (hs g).1, ← SR_fns hn (hs g').1]
  · rw [← SR_kns hn (hs g).1, ← SR_kns hn (hs g').1]
  · rw [← (hs g).2, ← (hs g').2]
def z0 : Nat → Int32 := fun _ => 0
def rowW (qc : Nat) (M : Mem) (q seed : Int32) (H : Nat) : Nat → Int32 := bK qc M (frz (nB M) q seed) z0 H
def vAh (qc : Nat) (M : Mem) (H y : Nat) : Int32 := if y = 0 then thr (fun k => rowW qc M 0 0 H (53 + k)) (nG M) else if y = 1 then vSum (nB M) (rowW qc M 0 0 H) 16 else vSum (nB M) (rowW qc M 0 0 H) 32
theorem k_ahead {qc qs qd : Nat} {M : Mem} {H y : Nat} (h : Rel qc qs M) (hH : H ≤ 240) (hy : y ≤ 2) : ok (f_X11_ahead qc qd (nI H) (nI y) M) (fun r => r.1 = .inl (vAh qc M H y) ∧ asks M r.2 ∧ cch qc r.2) := by
  unfold f_X11_ahead f_X6_letPass
  refine ok_bindE (fitT (fit_n (n := 240) (by decide) hH)) (ok_bindE (fitT (fit_n (n := 2) (by decide) hy)) (ok_bind (ok_bind (c_freeze h (OF_rfl h) hH) (fun _ h => ok_some h)) ?_))
  rintro M1 ⟨o1, hs⟩
  have s := (hs z0).1
  have hn := R_n16 h
  have hg := R_g4 h
  have hy' : y = 0 ∨ y = 1 ∨ y = 2 := by omega
  rcases hy' with rfl | rfl | rfl
  · exact ok_ifp rfl (ok_bindE c_through (ok_some ⟨congrArg Sum.inl (SR_thr hg s), OF_end o1⟩))
  · exact ok_ifn (by decide) (ok_ifp rfl (ok_bindE c_allFines (ok_some ⟨congrArg Sum.inl (SR_fns hn s), OF_end o1⟩)))
  · exact ok_ifn (by decide) (ok_ifn (by decide) (ok_bindE c_allKnocks (ok_some ⟨congrArg Sum.inl (SR_kns hn s), OF_end o1⟩)))
theorem bK_a {qc : Nat} {M M1 : Mem} {F g : Nat → Int32} (hq : qc = 24 ∨ qc = 25) (a : asks M M1) : ∀ k, bK qc M1 F g k = bK qc M F g k
  | 0 => by
    show b0 M1 g = b0 M g
    unfold b0
    rw [a.1 72 (by decide)]
  | k + 1 => by
    show hM qc M1 (F k) (bK qc M1 F g k) = hM qc M (F k) (bK qc M F g k)
    rw [bK_a hq a k, hM_c hq (asks_b a)]
theorem icK_a {qc : Nat} {M M1 : Mem} {F g : Nat → Int32} (hq : qc = 24 ∨ qc = 25) (a : asks M M1) : ∀ k, icK qc M1 F g k = icK qc M F g k
  | 0 => rfl
  | k + 1 => by
    show icK qc M1 F g k + _ = icK qc M F g k + _
    rw [icK_a hq a k, bK_a hq a k, nB_fr (a.1 3 (by decide)), bitsN_cong (fun j _ => opB_c hq (asks_b a) _ _)]
theorem m_ahead {qc qs : Nat} {M M1 : Mem} {H y : Nat} (h : Rel qc qs M) (h1 : Rel qc qs M1) (a1 : asks M M1) (hH : H ≤ 240) (hy : y ≤ 2) : ok (f_X12_ahead (nI H) (nI y) M1) (fun r => r.1 = vAh qc M H y ∧ r.2 54 0 0 = 0 ∧ mfr M1 r.2) := by
  have hn := R_n16 h
  have hg := R_g4 h
  unfold f_X12_ahead
  refine ok_ifn (in_n (n := 240) (by decide) hH) (ok_ifn (in_n (n := 2) (by decide) hy) (ok_bindE (badM0 _ _ _) (ok_ifp rfl (ok_bind (TR_s h1 (mfr_M0 M1) (M0_t M1)) ?_))))
  rintro M2 ⟨t2, r2⟩
  obtain ⟨g, eg⟩ : ∃ g, M2 73 0 = b0 M1 g := by
    refine ⟨M2 73 0, ?_⟩
    funext j
    unfold b0
    by_cases hj : j < 66
    · rw [if_pos hj]; exact r2 j hj
    · rw [if_neg hj]
  refine ok_bind (P := fun M3 => TR M1 H M3 ∧ M3 73 0 = bK qc M1 (fun _ => 0) g H) ?_ ?_
  · refine ok_wh (fun k s => s.1 = nI k ∧ TR M1 k s.2 ∧ s.2 73 0 = bK qc M1 (fun _ => 0) g k) H ⟨rfl, t2, eg⟩ (by omega) ?_ ?_
    · rintro k ⟨x, M3⟩ hk ⟨e1, t3, r3⟩
      simp only at e1 t3 r3
      subst e1
      unfold L_X12_ahead_47
      refine ok_ifn (nI_ge hk (by omega)) (ok_bind (TR_hr h1 t3) ?_)
      rintro M4 ⟨t4, r4, -⟩
      refine ok_some ⟨nI_1 k, t4, ?_⟩
      show M4 73 0 = _
      rw [r4, r3]
      rfl
    · rintro ⟨x, M3⟩ ⟨e1, t3, r3⟩
      simp only at e1 t3 r3
      subst e1
      unfold L_X12_ahead_47
      exact ok_ifp (nI_le (Nat.le_refl _) (by omega)) (ok_some ⟨t3, r3⟩)
  · rintro M3 ⟨t3, r3⟩
    rw [bK_a h.1.1 a1, ← frz0 (nB M) 0] at r3
    obtain ⟨g1, g2, g3, -⟩ := bK_g (q := 0) (seed := 0) h hH g z0
    have a3 : asks M M3 := asks_tr a1 (asks_m t3.1)
    have hy' : y = 0 ∨ y = 1 ∨ y = 2 := by omega
    rcases hy' with rfl | rfl | rfl
    · refine ok_ifp rfl (ok_bindE (m_through (a_mG h a3) hg) (ok_some ⟨?_, TR_end t3⟩))
      rw [r3]; exact g1
    · refine ok_ifn (by decide) (ok_ifp rfl (ok_bindE (m_sumOf (f := 16) rfl (a_mB h a3) hn (by decide)) (ok_some ⟨?_, TR_end t3⟩)))
      rw [r3]; exact g2
    · refine ok_ifn (by decide) (ok_ifn (by decide) (ok_bindE (m_sumOf (f := 32) rfl (a_mB h a3) hn (by decide)) (ok_some ⟨?_, TR_end t3⟩)))
      rw [r3]; exact g3
/-- winters -/
theorem winF {q hh : Int32} {M : Mem} (h : (q < 0 ∨ 16 < q) ∨ (hh < 1 ∨ 240 < hh)) : f_X11_needWinter q hh M = some (.inr IAE, am_u3 M 0 0 14 (M 0 0 14 + 1)) := by
  unfold f_X11_needWinter
  by_cases hq : q < 0 ∨ 16 < q
  · rw [fitF hq]; rfl
  · rw [fitT hq]
    show Option.bind (f_X11_needFit hh 1 240 M) _ = _
    rw [fitF (h.resolve_left hq)]; rfl
theorem winT {q hh : Int32} {M : Mem} (h : ¬ ((q < 0 ∨ 16 < q) ∨ (hh < 1 ∨ 240 < hh))) : f_X11_needWinter q hh M = some (.inl 0, M) := by
  unfold f_X11_needWinter
  rw [fitT (fun z => h (Or.inl z))]
  show Option.bind (f_X11_needFit hh 1 240 M) _ = _
  rw [fitT (fun z => h (Or.inr z))]; rfl
theorem isW_eq {q hh : Int32} : f_X12_isWinter q hh = 0 ↔ ((q < 0 ∨ 16 < q) ∨ (hh < 1 ∨ 240 < hh)) := by
  unfold f_X12_isWinter
  by_cases hq : f_X12_in q 0 16 = 0
  · rw [if_pos hq]
    exact ⟨fun _ => Or.inl ((in_eq _ _ _).mp hq), fun _ => rfl⟩
  · rw [if_neg hq]
    by_cases hp : f_X12_in hh 1 240 = 0
    · rw [if_pos hp]
      exact ⟨fun _ => Or.inr ((in_eq _ _ _).mp hp), fun _ => rfl⟩
    · rw [if_neg hp]
      refine ⟨fun z => absurd z (by decide), ?_⟩
      rintro (z | z)
      · exact absurd ((in_eq _ _ _).mpr z) hq
      · exact absurd ((in_eq _ _ _).mpr z) hp
def vKn (qc : Nat) (M : Mem) (q seed : Int32) (H : Nat) : Int32 := vSum (nB M) (rowW qc M q seed H) 32 - vSum (nB M) (M 72 0) 32
def vTh (qc : Nat) (M : Mem) (q seed : Int32) (H : Nat) : Int32 := thr (fun k => rowW qc M q seed H (53 + k)) (nG M)
def vWi (qc : Nat) (M : Mem) (q seed : Int32) (H y : Nat) : Int32 := if y = 0 then vTh qc M q seed H else if y = 1 then vKn qc M q seed H else if y = 2 then icK qc M (frz (nB M) q seed) z0 H else vSum (nB M) (rowW qc M q seed H) 16 - vSum (nB M) (M 72 0) 16
theorem c_knSince {qc qs : Nat} {M M1 : Mem} {q seed : Int32} {H : Nat} (h : Rel qc qs M) (o1 : OF qc M M1) (s : SR (nB M) (nG M) (M1 40 0) (rowW qc M q seed H)) : f_X6_knocksSince M1 = some (vKn qc M q seed H) := by
  unfold f_X6_knocksSince
  rw [c_allKnocks, c_allKnocks, SR_kns (R_n16 h) s, (OF_a o1).1 30 (by decide), SR_kns (R_n16 h) (R_SR h)]
  rfl
theorem c_fnSince {qc qs : Nat} {M M1 : Mem} {q seed : Int32} {H : Nat} (h : Rel qc qs M) (o1 : OF qc M M1) (s : SR (nB M) (nG M) (M1 40 0) (rowW qc M q seed H)) : f_X6_finesSince M1 = some (vSum (nB M) (rowW qc M q seed H) 16 - vSum (nB M) (M 72 0) 16) := by
  unfold f_X6_finesSince
  rw [c_allFines, c_allFines, SR_fns (R_n16 h) s, (OF_a o1).1 30 (by decide), SR_fns (R_n16 h) (R_SR h)]
  rfl
theorem k_winters {qc qs qd : Nat} {M : Mem} {seed q : Int32} {H y : Nat} (h : Rel qc qs M) (hw : ¬ ((q < 0 ∨ 16 < q) ∨ (nI H < 1 ∨ 240 < nI H))) (hH : H ≤ 240) (hy : y ≤ 3) : ok (f_X11_winters qc qd seed q (nI H) (nI y) M) (fun r => r.1 = .inl (vWi qc M q seed H y) ∧ asks M r.2 ∧ cch qc r.2) := by
  unfold f_X11_winters
  refine ok_bindE (winT hw) (ok_bindE (fitT (fit_n (n := 3) (by decide) hy)) (ok_bind (c_freeze h (OF_rfl h) hH) ?_))
  rintro M1 ⟨o1, hs⟩
  have s := (hs z0).1
  have hn := R_n16 h
  have hg := R_g4 h
  have hy' : y = 0 ∨ y = 1 ∨ y = 2 ∨ y = 3 := by omega
  rcases hy' with rfl | rfl | rfl | rfl
  · exact ok_ifp rfl (ok_bindE c_through (ok_some ⟨congrArg Sum.inl (SR_thr hg s), OF_end o1⟩))
  · exact ok_ifn (by decide) (ok_ifp rfl (ok_bindE (c_knSince h o1 s) (ok_some ⟨rfl, OF_end o1⟩)))
  · exact ok_ifn (by decide) (ok_ifn (by decide) (ok_ifp rfl (ok_some ⟨congrArg Sum.inl (hs z0).2, OF_end o1⟩)))
  · exact ok_ifn (by decide) (ok_ifn (by decide) (ok_ifn (by decide) (ok_bindE (c_fnSince h o1 s) (ok_some ⟨rfl, OF_end o1⟩))))
theorem m_winters {qc qs : Nat} {M M1 : Mem} {seed q : Int32} {H y : Nat} (h : Rel qc qs M) (h1 : Rel qc qs M1) (a1 : asks M M1) (hw : ¬ ((q < 0 ∨ 16 < q) ∨ (nI H < 1 ∨ 240 < nI H))) (hH : H ≤ 240) (hy : y ≤ 3) : ok (f_X12_winters seed q (nI H) (nI y) M1) (fun r => r.1 = vWi qc M q seed H y ∧ r.2 54 0 0 = 0 ∧ mfr M1 r.2) := by
  have hn := R_n16 h
  have hg := R_g4 h
  unfold f_X12_winters
  refine ok_ifn (fun z => hw (isW_eq.mp z)) (ok_ifn (in_n (n := 3) (by decide) hy) (ok_bindE (badM0 _ _ _) (ok_ifp rfl (ok_bind (m_winter h1 (mfr_M0 M1) (M0_t M1) hH) ?_))))
  rintro M2 ⟨m2, t2, g, r2, i2⟩
  rw [bK_a h.1.1 a1, a_nB a1] at r2
  rw [icK_a h.1.1 a1, a_nB a1] at i2
  obtain ⟨g1, g2, g3, g4⟩ := bK_g (q := q) (seed := seed) h hH g z0
  have a2 : asks M M2 := asks_tr a1 (asks_m m2)
  have e72 : M2 72 = M 72 := a2.1 72 (by decide)
  have hy' : y = 0 ∨ y = 1 ∨ y = 2 ∨ y = 3 := by omega
  rcases hy' with rfl | rfl | rfl | rfl
  · refine ok_ifp rfl (ok_bindE (m_through (a_mG h a2) hg) (ok_some ⟨?_, t2, m2⟩))
    rw [r2]; exact g1
  · refine ok_ifn (by decide) (ok_ifp rfl (ok_bindE (m_sumOf (f := 32) rfl (a_mB h a2) hn (by decide)) (ok_bindE (m_sumOf (f := 32) rfl (a_mB h a2) hn (by decide)) (ok_some ⟨?_, t2, m2⟩))))
    rw [r2, e72]
    exact congrArg (fun z => z - vSum (nB M) (M 72 0) 32) g3
  · exact ok_ifn (by decide) (ok_ifn (by decide) (ok_ifp rfl (ok_some ⟨i2.trans g4, t2, m2⟩)))
  · refine ok_ifn (by decide) (ok_ifn (by decide) (ok_ifn (by decide) (ok_bindE (m_sumOf (f := 16) rfl (a_mB h a2) hn (by decide)) (ok_bindE (m_sumOf (f := 16) rfl (a_mB h a2) hn (by decide)) (ok_some ⟨?_, t2, m2⟩)))))
    rw [r2, e72]
    exact congrArg (fun z => z - vSum (nB M) (M 72 0) 16) g2
theorem t_ahead {qc qs qd : Nat} {x y : Int32} {M : Mem} (h : Rel qc qs M) : ok (f_X11_ahead qc qd x y M) (fun r => ok (f_X12_ahead x y r.2) (fun r' => ans1 r.1 r'.1 (r'.2 54 0 0) ∧ Rel qc qs r'.2)) := by
  have hg := R_n16 h
  have em := R_mB h
  have h8 := R_s8 h
  have emS := R_mS h
  by_cases hx_0 : x < 0 ∨ 240 < x
  · unfold f_X11_ahead
    refine ok_bindE (fitF hx_0) (ok_some ?_)
    unfold f_X12_ahead
    exact ok_ifp ((in_eq _ _ _).mpr hx_0) (ok_bindE (bad14 M (by decide)) (ok_ifn (by decide) (ok_some ⟨⟨rfl, RM_t 14 1 M⟩, Rel_RM (k := 14) (Or.inr rfl) h⟩)))
  · skip
    by_cases hy_1 : y < 0 ∨ 2 < y
    · unfold f_X11_ahead
      refine ok_bindE (fitT hx_0) (ok_bindE (fitF hy_1) (ok_some ?_))
      unfold f_X12_ahead
      exact ok_ifn (fun z => hx_0 ((in_eq _ _ _).mp z)) (ok_ifp ((in_eq _ _ _).mpr hy_1) (ok_bindE (bad14 M (by decide)) (ok_ifn (by decide) (ok_some ⟨⟨rfl, RM_t 14 1 M⟩, Rel_RM (k := 14) (Or.inr rfl) h⟩))))
    · skip
      obtain ⟨a_x, rfl, l_x⟩ := args (n := 240) rfl (by decide) hx_0
      obtain ⟨a_y, rfl, l_y⟩ := args (n := 2) rfl (by decide) hy_1
      exact t_of1 h (k_ahead h l_x l_y) (fun M1 h1 a1 => m_ahead h h1 a1 l_x l_y)
theorem t_winters {qc qs qd : Nat} {x y z w : Int32} {M : Mem} (h : Rel qc qs M) : ok (f_X11_winters qc qd x y z w M) (fun r => ok (f_X12_winters x y z w r.2) (fun r' => ans1 r.1 r'.1 (r'.2 54 0 0) ∧ Rel qc qs r'.2)) := by
  have hg := R_n16 h
  have em := R_mB h
  have h8 := R_s8 h
  have emS := R_mS h
  by_cases hy_0 : (y < 0 ∨ 16 < y) ∨ (z < 1 ∨ 240 < z)
  · unfold f_X11_winters
    refine ok_bindE (winF hy_0) (ok_some ?_)
    unfold f_X12_winters
    exact ok_ifp (isW_eq.mpr hy_0) (ok_bindE (bad14 M (by decide)) (ok_ifn (by decide) (ok_some ⟨⟨rfl, RM_t 14 1 M⟩, Rel_RM (k := 14) (Or.inr rfl) h⟩)))
  · skip
    by_cases hw_1 : w < 0 ∨ 3 < w
    · unfold f_X11_winters
      refine ok_bindE (winT hy_0) (ok_bindE (fitF hw_1) (ok_some ?_))
      unfold f_X12_winters
      exact ok_ifn (fun z => hy_0 (isW_eq.mp z)) (ok_ifp ((in_eq _ _ _).mpr hw_1) (ok_bindE (bad14 M (by decide)) (ok_ifn (by decide) (ok_some ⟨⟨rfl, RM_t 14 1 M⟩, Rel_RM (k := 14) (Or.inr rfl) h⟩))))
    · skip
      obtain ⟨a_z, rfl, l_z, g_z⟩ := args1 (n := 240) rfl (by decide) (fun z => hy_0 (Or.inr z))
      obtain ⟨a_w, rfl, l_w⟩ := args (n := 3) rfl (by decide) hw_1
      exact t_of1 h (k_winters h hy_0 l_z l_w) (fun M1 h1 a1 => m_winters h h1 a1 hy_0 l_z l_w)
