/-! anglers, stand -/
def cS2 : List Nat := [43, 44, 48, 49, 50, 51, 52, 53]
theorem ask2 {qc qs : Nat} {M M' : Mem} (h : Rel qc qs M) (f : fr cS2 M M') : asks M M' ∧ cch qc M' := ⟨asks_c (fr_mono f (by decide)), cch_ol h.1.1 (fr_mono f (by decide)) (by rw [f 38 (by decide)]) (f 41 (by decide)) (R_cch h)⟩
def fiM (M : Mem) (b : Nat) : Nat := (M 7 0 b).toNatClampNeg
theorem R_fi {qc qs : Nat} {M : Mem} (h : Rel qc qs M) {b : Nat} (hb : b < nB M) : M 7 0 b = nI (fiM M b) ∧ fiM M b ≤ 40 := by
  obtain ⟨-, -, -, x, hx, e⟩ := h.2.2.1.1 b hb
  unfold fiM
  rw [e, nI_clamp (by omega)]
  exact ⟨rfl, hx⟩
def zN : Nat → Nat := fun _ => 0
def aW (M : Mem) (k : Nat) : Nat × (Nat → Nat) := plc (fiM M) (nB M) (nB M) k zN (0, zN)
theorem aW_le {M : Mem} {k : Nat} (hn : nB M ≤ 16) (hk : k ≤ 4) : (aW M k).1 ≤ 5000 := by
  have h1 := plc_le (fiM M) (nB M) (nB M) k zN (0, zN)
  have h2 := cnt_b (nB M) (by omega) k (by omega)
  unfold aW
  simp only [] at h1
  omega
theorem c_settle {qc qs : Nat} {M : Mem} {k : Nat} (h : Rel qc qs M) (hk : k ≤ 4) : ok (f_X0_settle (nI k) M) (fun M' => fr [51, 52, 53] M M' ∧ PA (nB M) (aW M k) M') := by
  have hn := R_n16 h
  unfold f_X0_settle f_X0_place
  have key := c_place (fi := fiM M) (n := nB M) (fun j hj => (R_fi h hj).2) hn (nB M) 30 k zN (0, zN) (am_u3 M 51 0 3 0) (by omega) (Nat.le_refl _) hk (by have := cnt_b (nB M) (by omega) k (by omega); simp only []; omega) (by rw [u3_c (by decide)]; exact R_eB h) (fun j hj => by rw [u3_c (by decide)]; exact (R_fi h hj).1) (fun j hj => by omega) ⟨u3_e _ _ _ _ _, fun z => absurd rfl z⟩
  rw [Nat.sub_self] at key
  refine ok_bind key ?_
  rintro M1 ⟨f1, -, p1⟩
  exact ok_some ⟨fr_tr (fr_u3 fr_rfl (by decide)) f1, p1⟩
theorem m_lays {qc qs : Nat} {M : Mem} {k : Nat} (h : Rel qc qs M) (hk : k ≤ 4) : ok (f_X12_laysAnglers (nI k) M) (fun M' => mfr M M' ∧ M' 54 0 0 = M 54 0 0 ∧ PM (nB M) (aW M k) M') := by
  have hn := R_n16 h
  unfold f_X12_laysAnglers
  refine ok_bind (P := fun M' => fr [79, 80] (am_u3 M 54 0 46 0) M' ∧ ∀ j, j < 16 → M' 80 0 j = 0) ?_ ?_
  · refine ok_wh (fun k s => s.1 = nI k ∧ fr [79, 80] (am_u3 M 54 0 46 0) s.2 ∧ ∀ j, j < k → s.2 80 0 j = 0) 16 ⟨rfl, fr_rfl, fun j hj => by cases hj⟩ (by decide) ?_ ?_
    · rintro k ⟨y, M1⟩ hk ⟨e1, f1, o1⟩
      simp only at e1 f1 o1
      subst e1
      unfold L_X12_laysAnglers_7
      simp only [nI_clamp (show k < 2 ^ 31 by omega)]
      refine ok_ifn (nI_ge (b := 16) hk (by decide)) (ok_ifp (inb_n hk (by decide)) (ok_some ⟨nI_1 k, fr_u3 (fr_u3 f1 (by decide)) (by decide), fun j hj => ?_⟩))
      show am_u3 (am_u3 M1 79 0 k 0) 80 0 k 0 80 0 j = 0
      by_cases hjk : j = k
      · rw [hjk, u3_e]
      · rw [u3_j (by omega), u3_c (by decide)]; exact o1 j (by omega)
    · rintro ⟨y, M1⟩ ⟨e1, f1, o1⟩
      simp only at e1 f1 o1
      subst e1
      unfold L_X12_laysAnglers_7
      exact ok_ifp (by decide) (ok_some ⟨f1, o1⟩)
  · rintro M1 ⟨f1, o1⟩
    unfold f_X12_angles
    have e58 : M1 58 0 0 = nI (nB M) := by rw [f1 58 (by decide), u3_c (by decide)]; exact R_mB h
    have e60 : ∀ j, j < nB M → M1 60 (j + 1) 3 = nI (fiM M j) := fun j hj => by rw [f1 60 (by decide), u3_c (by decide), (R_bd h hj).2.2.2]; exact (R_fi h hj).1
    have key := m_place (fi := fiM M) (n := nB M) (fun j hj => (R_fi h hj).2) hn (nB M) 30 k zN (0, zN) M1 (by omega) (Nat.le_refl _) hk (by have := cnt_b (nB M) (by omega) k (by omega); simp only []; omega) e58 e60 (fun j hj => by omega) ⟨by rw [f1 54 (by decide), u3_e]; rfl, fun j hj => ⟨by rw [o1 j (by omega)]; rfl, Nat.zero_le _⟩⟩
    rw [Nat.sub_self] at key
    refine ok_bind key ?_
    rintro M2 ⟨f2, g2, -, p2⟩
    have m1 : mfr M M1 := mfr_tr (mfr_54 mfr_rfl (by decide)) (mfr_f f1 (by decide))
    refine ok_some ⟨mfr_tr m1 ⟨fr_mono f2 (by decide), fun j hj => g2 j (by rintro rfl; revert hj; decide)⟩, ?_, p2⟩
    rw [g2 0 (by decide), f1 54 (by decide), u3_j (by omega)]
def vAn (M : Mem) (k y : Nat) : Int32 := if y = 0 then nI (aW M k).1 else if (aW M k).1 = 0 then -1 else sumN (fun b => if (aW M k).2 b = 0 then 0 else nI (fiM M b / (aW M k).2 b) * nI ((aW M k).2 b)) (nB M)
theorem aW_a {M M' : Mem} (a : asks M M') (k : Nat) : aW M' k = aW M k := by
  have : fiM M' = fiM M := by funext b; unfold fiM; rw [a.1 7 (by decide)]
  unfold aW
  rw [this, a_nB a]
theorem vAn_a {M M' : Mem} (a : asks M M') (k y : Nat) : vAn M' k y = vAn M k y := by
  have : fiM M' = fiM M := by funext b; unfold fiM; rw [a.1 7 (by decide)]
  unfold vAn
  rw [aW_a a, this, a_nB a]
theorem c_catch {M M1 : Mem} {k : Nat} (hn : nB M ≤ 16) (hk : k ≤ 4) (eB : M1 3 0 0 = nI (nB M)) (e7 : ∀ b, b < nB M → M1 7 0 b = nI (fiM M b) ∧ fiM M b ≤ 40) (p : PA (nB M) (aW M k) M1) : f_X0_firstCatch M1 = some (vAn M k 1) := by
  have hl := aW_le (k := k) hn hk
  have tot : ∃ f : Nat → Int32, wh (L_X0_firstCatch_4 M1) FU ((0 : Int32), (0 : Int32)) = some (sumN f (nB M)) ∧ ((aW M k).1 ≠ 0 → ∀ b, b < nB M → f b = if (aW M k).2 b = 0 then 0 else nI (fiM M b / (aW M k).2 b) * nI ((aW M k).2 b)) := by
    refine ⟨fun b => if M1 53 0 b ≤ 0 then 0 else ((M1 7 0 b) / (M1 53 0 b)) * (M1 53 0 b), ?_, ?_⟩
    · refine wh_for (fun k => (sumN (fun b => if M1 53 0 b ≤ 0 then 0 else ((M1 7 0 b) / (M1 53 0 b)) * (M1 53 0 b)) k, nI k)) (nB M) _ (by omega) ?_ ?_
      · intro j hj
        unfold L_X0_firstCatch_4
        simp only []
        rw [eB, if_neg (nI_ge hj (by omega)), if_pos (inb_n (by omega) (by decide)), nI_clamp (by omega), nI_1, sumN_s]
        by_cases hc : M1 53 0 j ≤ 0
        · rw [if_pos hc, if_pos hc]
        · rw [if_neg hc, if_neg hc, if_pos (fun z => hc (by rw [z]; decide))]
      · unfold L_X0_firstCatch_4
        simp only []
        rw [eB, if_pos (nI_le (Nat.le_refl _) (by omega))]
    · intro hz b hb
      obtain ⟨q1, q2⟩ := p.2 hz b hb
      obtain ⟨q3, q4⟩ := e7 b hb
      simp only []
      rw [q1, q3]
      by_cases hc : (aW M k).2 b = 0
      · rw [if_pos (by rw [hc]; decide), if_pos hc]
      · rw [if_neg (nI_nle (by omega) (by omega)), if_neg hc, nI_div (by omega) (by omega)]
  obtain ⟨f, t1, t2⟩ := tot
  unfold f_X0_firstCatch
  rw [t1]
  show (if M1 51 0 3 = 0 then some (-1) else some (sumN f (nB M))) = _
  rw [p.1]
  unfold vAn
  rw [if_neg (show ¬ (1 : Nat) = 0 by decide)]
  by_cases hz : (aW M k).1 = 0
  · rw [if_pos (by rw [hz]; rfl), if_pos hz]
  · rw [if_neg (nI_ne0 (by omega) (by omega)), if_neg hz, sumN_cong (t2 hz)]
theorem k_anglers {qc qs : Nat} {M : Mem} {k y : Nat} (h : Rel qc qs M) (hk : k ≤ 4) (hy : y ≤ 1) : ok (f_X11_anglers (nI k) (nI y) M) (fun r => r.1 = .inl (vAn M k y) ∧ asks M r.2 ∧ cch qc r.2) := by
  unfold f_X11_anglers
  refine ok_bindE (fitT (fit_n (n := 4) (by decide) hk)) (ok_bindE (fitT (fit_n (n := 1) (by decide) hy)) (ok_bind (c_settle h hk) ?_))
  rintro M1 ⟨f1, p1⟩
  have : y = 0 ∨ y = 1 := by omega
  rcases this with rfl | rfl
  · refine ok_ifp rfl (ok_some ⟨?_, ask2 h (fr_mono f1 (by decide))⟩)
    show Sum.inl (M1 51 0 3) = _
    rw [p1.1]
    rfl
  · refine ok_ifn (by decide) (ok_bindE (c_catch (R_n16 h) hk (by rw [f1 3 (by decide)]; exact R_eB h) (fun b hb => by rw [f1 7 (by decide)]; exact R_fi h hb) p1) (ok_some ⟨rfl, ask2 h (fr_mono f1 (by decide))⟩))
theorem m_catch {M M1 : Mem} {k : Nat} (hn : nB M ≤ 16) (eB : M1 58 0 0 = nI (nB M)) (e7 : ∀ b, b < nB M → M1 60 (b + 1) 3 = nI (fiM M b) ∧ fiM M b ≤ 40) (p : PM (nB M) (aW M k) M1) : wh (L_X12_anglers_58 M1) FU ((0 : Int32), (0 : Int32)) = some (sumN (fun b => if (aW M k).2 b = 0 then 0 else nI (fiM M b / (aW M k).2 b) * nI ((aW M k).2 b)) (nB M)) := by
  refine wh_for (fun i => (sumN (fun b => if (aW M k).2 b = 0 then 0 else nI (fiM M b / (aW M k).2 b) * nI ((aW M k).2 b)) i, nI i)) (nB M) _ (by omega) ?_ ?_
  · intro j hj
    obtain ⟨q1, q2⟩ := p.2 j hj
    obtain ⟨q3, q4⟩ := e7 j hj
    unfold L_X12_anglers_58
    simp only []
    rw [eB, if_neg (nI_ge hj (by omega)), if_pos (inb_n (by omega) (by decide)), nI_clamp (by omega), nI_1, sumN_s, q1, q3]
    by_cases hc : (aW M k).2 j = 0
    · rw [if_pos (by rw [hc]; rfl), if_pos hc]
    · rw [if_neg (nI_ne0 (by omega) (by omega)), if_neg hc, if_pos (nI_ne0 (by omega) (by omega)), nI_div (by omega) (by omega), Int32.mul_comm]
  · unfold L_X12_anglers_58
    simp only []
    rw [eB, if_pos (nI_le (Nat.le_refl _) (by omega))]
theorem m_anglers {qc qs : Nat} {M M1 : Mem} {k y : Nat} (h : Rel qc qs M) (h1 : Rel qc qs M1) (a1 : asks M M1) (hk : k ≤ 4) (hy : y ≤ 1) : ok (f_X12_anglers (nI k) (nI y) M1) (fun r => r.1 = vAn M k y ∧ r.2 54 0 0 = 0 ∧ mfr M1 r.2) := by
  have h0 := Rel_M0 h1
  have a0 : asks M (M0 M1) := asks_tr a1 (asks_m (mfr_M0 M1))
  rw [← vAn_a a0]
  have hl := aW_le (M := M0 M1) (k := k) (R_n16 h0) hk
  unfold f_X12_anglers
  refine ok_ifn (in_n (n := 4) (by decide) hk) (ok_ifn (in_n (n := 1) (by decide) hy) (ok_bindE (badM0 _ _ _) (ok_ifp rfl (ok_bind (m_lays h0 hk) ?_))))
  rintro M2 ⟨m2, t2, p2⟩
  have t2' : M2 54 0 0 = 0 := t2.trans (M0_t M1)
  have m3 : mfr M1 M2 := mfr_tr (mfr_M0 M1) m2
  have : y = 0 ∨ y = 1 := by omega
  rcases this with rfl | rfl
  · exact ok_ifp rfl (ok_some ⟨p2.1, t2', m3⟩)
  · refine ok_ifn (by decide) (ok_bindE (m_catch (M := M0 M1) (k := k) (R_n16 h0) (by rw [m2.1 58 (by decide)]; exact R_mB h0) (fun b hb => by rw [m2.1 60 (by decide), (R_bd h0 hb).2.2.2]; exact R_fi h0 hb) p2) ?_)
    rw [p2.1]
    by_cases hz : (aW (M0 M1) k).1 = 0
    · refine ok_ifp (by rw [hz]; rfl) (ok_some ⟨?_, t2', m3⟩)
      unfold vAn
      rw [if_neg (by decide), if_pos hz]
    · refine ok_ifn (nI_ne0 (by omega) (by omega)) (ok_some ⟨?_, t2', m3⟩)
      unfold vAn
      rw [if_neg (by decide), if_neg hz]
theorem k_stand {qc qs : Nat} {M : Mem} {b k : Nat} (h : Rel qc qs M) (hb : b < nB M) (hk : k ≤ 4) : ok (f_X11_stand (nI b) (nI k) M) (fun r => r.1 = .inl (nI ((aW M k).2 b)) ∧ asks M r.2 ∧ cch qc r.2) := by
  have hn := R_n16 h
  have hl := aW_le (M := M) (k := k) hn hk
  unfold f_X11_stand
  refine ok_bindE (bdT (bd_n (R_eB h) (by omega) hb)) (ok_bindE (fitT (fit_n (n := 4) (by decide) hk)) (ok_bind (c_settle h hk) ?_))
  rintro M1 ⟨f1, p1⟩
  rw [p1.1, nI_clamp (show b < 2 ^ 31 by omega)]
  by_cases hz : (aW M k).1 = 0
  · refine ok_ifp (by rw [hz]; rfl) (ok_some ⟨?_, ask2 h (fr_mono f1 (by decide))⟩)
    have : aW M k = (0, zN) := plc_z _ _ _ _ _ _ hz
    rw [this]
    rfl
  · refine ok_ifn (nI_ne0 (by omega) (by omega)) (ok_ifp (inb_n (by omega) (by decide)) (ok_some ⟨?_, ask2 h (fr_mono f1 (by decide))⟩))
    show Sum.inl (M1 53 0 b) = _
    rw [(p1.2 hz b hb).1]
theorem m_stand {qc qs : Nat} {M M1 : Mem} {b k : Nat} (h : Rel qc qs M) (h1 : Rel qc qs M1) (a1 : asks M M1) (hb : b < nB M) (hk : k ≤ 4) : ok (f_X12_stand (nI b) (nI k) M1) (fun r => r.1 = nI ((aW M k).2 b) ∧ r.2 54 0 0 = 0 ∧ mfr M1 r.2) := by
  have hn := R_n16 h
  have h0 := Rel_M0 h1
  have a0 : asks M (M0 M1) := asks_tr a1 (asks_m (mfr_M0 M1))
  have eB := a_nB a0
  unfold f_X12_stand
  refine ok_ifn (inT (a_mB h a0) (by omega) hb) (ok_bindE (badM0 _ _ _) (ok_ifp rfl (ok_ifn (in_n (n := 4) (by decide) hk) (ok_bindE (badM0 _ _ _) (ok_ifp rfl (ok_bind (m_lays h0 hk) ?_))))))
  rintro M2 ⟨m2, t2, p2⟩
  rw [eB, aW_a a0] at p2
  refine ok_ifp (inb_n (by omega) (by decide)) (ok_some ⟨?_, t2.trans (M0_t M1), mfr_tr (mfr_M0 M1) m2⟩)
  show M2 80 0 (nI b).toNatClampNeg = _
  rw [nI_clamp (by omega)]
  exact (p2.2 b hb).1
theorem t_anglers {qc qs : Nat} {x y : Int32} {M : Mem} (h : Rel qc qs M) : ok (f_X11_anglers x y M) (fun r => ok (f_X12_anglers x y r.2) (fun r' => ans1 r.1 r'.1 (r'.2 54 0 0) ∧ Rel qc qs r'.2)) := by
  have hg := R_n16 h
  have em := R_mB h
  have h8 := R_s8 h
  have emS := R_mS h
  by_cases hx_0 : x < 0 ∨ 4 < x
  · unfold f_X11_anglers
    refine ok_bindE (fitF hx_0) (ok_some ?_)
    unfold f_X12_anglers
    exact ok_ifp ((in_eq _ _ _).mpr hx_0) (ok_bindE (bad14 M (by decide)) (ok_ifn (by decide) (ok_some ⟨⟨rfl, RM_t 14 1 M⟩, Rel_RM (k := 14) (Or.inr rfl) h⟩)))
  · skip
    by_cases hy_1 : y < 0 ∨ 1 < y
    · unfold f_X11_anglers
      refine ok_bindE (fitT hx_0) (ok_bindE (fitF hy_1) (ok_some ?_))
      unfold f_X12_anglers
      exact ok_ifn (fun z => hx_0 ((in_eq _ _ _).mp z)) (ok_ifp ((in_eq _ _ _).mpr hy_1) (ok_bindE (bad14 M (by decide)) (ok_ifn (by decide) (ok_some ⟨⟨rfl, RM_t 14 1 M⟩, Rel_RM (k := 14) (Or.inr rfl) h⟩))))
    · skip
      obtain ⟨a_x, rfl, l_x⟩ := args (n := 4) rfl (by decide) hx_0
      obtain ⟨a_y, rfl, l_y⟩ := args (n := 1) rfl (by decide) hy_1
      exact t_of1 h (k_anglers h l_x l_y) (fun M1 h1 a1 => m_anglers h h1 a1 l_x l_y)
theorem t_stand {qc qs : Nat} {x y : Int32} {M : Mem} (h : Rel qc qs M) : ok (f_X11_stand x y M) (fun r => ok (f_X12_stand x y r.2) (fun r' => ans2 r.1 r'.1 (r'.2 54 0 0) ∧ Rel qc qs r'.2)) := by
  have hg := R_n16 h
  have em := R_mB h
  have h8 := R_s8 h
  have emS := R_mS h
  by_cases hx_0 : x < 0 ∨ M 3 0 0 ≤ x
  · unfold f_X11_stand
    refine ok_bindE (bdF hx_0) (ok_some ?_)
    rw [R_eB h] at hx_0
    unfold f_X12_stand
    exact ok_ifp (inF em (by omega) hx_0) (ok_bindE (bad13 M (by decide)) (ok_ifn (by decide) (ok_some ⟨Or.inl ⟨rfl, RM_t 13 1 M⟩, Rel_RM (k := 13) (Or.inl rfl) h⟩)))
  · skip
    by_cases hy_1 : y < 0 ∨ 4 < y
    · unfold f_X11_stand
      refine ok_bindE (bdT hx_0) (ok_bindE (fitF hy_1) (ok_some ?_))
      rw [R_eB h] at hx_0
      obtain ⟨b_0, rfl, hb_0⟩ := there_arg (by omega) hx_0
      unfold f_X12_stand
      exact ok_ifn (inT em (by omega) hb_0) (ok_bindE (badM0 _ _ _) (ok_ifp rfl (ok_ifp ((in_eq _ _ _).mpr hy_1) (ok_bindE (bad14 M (by decide)) (ok_ifn (by decide) (ok_some ⟨Or.inr ⟨rfl, RM_t 14 2 M⟩, Rel_RM (k := 14) (Or.inr rfl) h⟩))))))
    · skip
      rw [R_eB h] at hx_0
      obtain ⟨a_x, rfl, l_x⟩ := there_arg (by omega) hx_0
      obtain ⟨a_y, rfl, l_y⟩ := args (n := 4) rfl (by decide) hy_1
      exact t_of2 h (k_stand h l_x l_y) (fun M1 h1 a1 => m_stand h h1 a1 l_x l_y)
