/-! soonest, tallest -/
def soF (g : Nat → Int32) (k : Nat) (s : Int32 × Int32) : Int32 × Int32 := if g k = -1 then s else if s.2 = -1 then (nI k, g k) else if s.2 < g k then s else (nI k, g k)
theorem so_inv (g : Nat → Int32) : ∀ k, k < 2 ^ 31 → ((itr (soF g) (-1, -1) k).1 = -1 ↔ (itr (soF g) (-1, -1) k).2 = -1)
  | 0, _ => ⟨fun _ => rfl, fun _ => rfl⟩
  | k + 1, hk => by
    have ih := so_inv g k (by omega)
    rw [itr_s]
    generalize itr (soF g) (-1, -1) k = s at ih
    have h1 := nI_m1 (show k < 2 ^ 31 by omega)
    unfold soF
    split
    · exact ih
    · rename_i hg
      split
      · exact ⟨fun z => absurd z h1, fun z => absurd z hg⟩
      · split
        · exact ih
        · exact ⟨fun z => absurd z h1, fun z => absurd z hg⟩
def thA (qc : Nat) (M : Mem) (m : Int32) (t : Nat) : Int32 := (tpA qc M m t 240).2.1
theorem k_soonest {qc qs qd : Nat} {M : Mem} {m n y : Nat} (h : Rel qc qs M) (hm : m ≤ 9) (hn : n ≤ 48) (hy : y ≤ 1) : ok (f_X11_soonest qc qd (nI m) (nI n) (nI y) M) (fun r => r.1 = .inl (if y = 0 then (itr (soF (thA qc M (nI m))) (-1, -1) (n + 1)).1 else (itr (soF (thA qc M (nI m))) (-1, -1) (n + 1)).2) ∧ asks M r.2 ∧ cch qc r.2) := by
  unfold f_X11_soonest
  refine ok_bindE (mastT (fit_n (n := 9) (by decide) hm)) (ok_bindE (fitT (fit_n (n := 48) (by decide) hn)) (ok_bindE (fitT (fit_n (n := 1) (by decide) hy)) ?_))
  refine ok_bind (P := fun r => r.1 = (itr (soF (thA qc M (nI m))) (-1, -1) (n + 1)).1 ∧ r.2.1 = (itr (soF (thA qc M (nI m))) (-1, -1) (n + 1)).2 ∧ OS qc M r.2.2) ?_ ?_
  · refine ok_wh (fun k s => s.1 = (itr (soF (thA qc M (nI m))) (-1, -1) k).1 ∧ s.2.1 = (itr (soF (thA qc M (nI m))) (-1, -1) k).2 ∧ s.2.2.1 = nI k ∧ OS qc M s.2.2.2) (n + 1) ⟨rfl, rfl, rfl, OS_rfl h⟩ (by omega) ?_ ?_
    · rintro k ⟨x, x', z, M1⟩ hk ⟨e1, e2, e3, o1⟩
      simp only at e1 e2 e3 o1
      subst e1 e2 e3
      unfold L_X11_soonest_29
      refine ok_ifn (nI_nlt (by omega) (by omega)) (ok_bind (c_sail h o1 (by omega)) ?_)
      rintro M2 ⟨o2, s1, -⟩
      rw [show M2 38 0 7 = thA qc M (nI m) k from s1, itr_s, soF]
      generalize itr (soF (thA qc M (nI m))) (-1, -1) k = S
      generalize thA qc M (nI m) k = g
      refine ok_if (fun c1 => ok_some ⟨?_, ?_, nI_1 k, o2⟩) (fun c1 => ok_if (fun c2 => ok_some ⟨?_, ?_, nI_1 k, o2⟩) (fun c2 => ok_if (fun c3 => ok_some ⟨?_, ?_, nI_1 k, o2⟩) (fun c3 => ok_some ⟨?_, ?_, nI_1 k, o2⟩)))
      all_goals simp only [c1, if_true, if_false]
      all_goals simp only [c2, if_true, if_false]
      all_goals simp only [c3, if_true, if_false]
    · rintro ⟨x, x', z, M1⟩ ⟨e1, e2, e3, o1⟩
      simp only at e1 e2 e3 o1
      subst e3
      unfold L_X11_soonest_29
      exact ok_ifp (nI_lt (by omega) (by omega)) (ok_some ⟨e1, e2, o1⟩)
  · rintro ⟨x, x', M1⟩ ⟨e1, e2, o1⟩
    simp only at e1 e2 o1
    have hy' : y = 0 ∨ y = 1 := by omega
    rcases hy' with rfl | rfl
    · exact ok_ifp rfl (ok_some ⟨by rw [e1]; rfl, OS_end o1⟩)
    · exact ok_ifn (by decide) (ok_some ⟨by rw [e2]; rfl, OS_end o1⟩)
theorem m_soonest {qc qs : Nat} {M M1 : Mem} {m n y : Nat} (h : Rel qc qs M) (h1 : Rel qc qs M1) (a1 : asks M M1) (hm : m ≤ 9) (hn : n ≤ 48) (hy : y ≤ 1) : ok (f_X12_soonest (nI m) (nI n) (nI y) M1) (fun r => r.1 = (if y = 0 then (itr (soF (thA qc M (nI m))) (-1, -1) (n + 1)).1 else (itr (soF (thA qc M (nI m))) (-1, -1) (n + 1)).2) ∧ r.2 54 0 0 = 0 ∧ mfr M1 r.2) := by
  unfold f_X12_soonest
  refine ok_ifn (in_n (n := 9) (by decide) hm) (ok_ifn (in_n (n := 48) (by decide) hn) (ok_ifn (in_n (n := 1) (by decide) hy) (ok_bindE (badM0 _ _ _) (ok_ifp rfl ?_))))
  refine ok_bind (P := fun r => r.1 = (itr (soF (thA qc M (nI m))) (-1, -1) (n + 1)).1 ∧ r.2.1 = (itr (soF (thA qc M (nI m))) (-1, -1) (n + 1)).2 ∧ r.2.2 54 0 0 = 0 ∧ mfr M1 r.2.2) ?_ ?_
  · refine ok_wh (fun k s => s.1 = (itr (soF (thA qc M (nI m))) (-1, -1) k).1 ∧ s.2.1 = (itr (soF (thA qc M (nI m))) (-1, -1) k).2 ∧ s.2.2.1 = nI k ∧ s.2.2.2 54 0 0 = 0 ∧ mfr M1 s.2.2.2) (n + 1) ⟨rfl, rfl, rfl, M0_t M1, mfr_M0 M1⟩ (by omega) ?_ ?_
    · rintro k ⟨x, x', z, M2⟩ hk ⟨e1, e2, e3, t2, m2⟩
      simp only at e1 e2 e3 t2 m2
      subst e1 e2 e3
      unfold L_X12_soonest_56
      refine ok_ifn (nI_nlt (by omega) (by omega)) (ok_bind (m_trips h1 m2 t2 (by omega)) ?_)
      rintro ⟨w, M3⟩ ⟨e4, m3, t3, -⟩
      simp only at e4 m3 t3
      rw [tpA_a h.1.1 a1] at e4
      have e5 : w = thA qc M (nI m) k := e4
      subst e5
      have iv := so_inv (thA qc M (nI m)) k (by omega)
      rw [itr_s, soF]
      generalize itr (soF (thA qc M (nI m))) (-1, -1) k = S at iv
      generalize thA qc M (nI m) k = g
      show ok (if g = -1 then _ else _) _
      refine ok_if (fun c1 => ok_some ⟨?_, ?_, nI_1 k, t3, m3⟩) (fun c1 => ok_if (fun c2 => ok_some ⟨?_, ?_, nI_1 k, t3, m3⟩) (fun c2 => ok_if (fun c3 => ok_some ⟨?_, ?_, nI_1 k, t3, m3⟩) (fun c3 => ok_some ⟨?_, ?_, nI_1 k, t3, m3⟩)))
      · simp only [c1, if_true]
      · simp only [c1, if_true]
      · simp only [c1, if_false, iv.mp c2, if_true]
      · simp only [c1, if_false, iv.mp c2, if_true]
      · rw [if_neg c1, if_neg (fun z => c2 (iv.mpr z)), if_neg (Int32.not_lt.mpr c3)]
      · rw [if_neg c1, if_neg (fun z => c2 (iv.mpr z)), if_neg (Int32.not_lt.mpr c3)]
      · rw [if_neg c1, if_neg (fun z => c2 (iv.mpr z)), if_pos (Int32.not_le.mp c3)]
      · rw [if_neg c1, if_neg (fun z => c2 (iv.mpr z)), if_pos (Int32.not_le.mp c3)]
    · rintro ⟨x, x', z, M2⟩ ⟨e1, e2, e3, t2, m2⟩
      simp only at e1 e2 e3 t2 m2
      subst e3
      unfold L_X12_soonest_56
      exact ok_ifp (nI_lt (by omega) (by omega)) (ok_some ⟨e1, e2, t2, m2⟩)
  · rintro ⟨x, x', M2⟩ ⟨e1, e2, t2, m2⟩
    simp only at e1 e2 t2 m2
    have hy' : y = 0 ∨ y = 1 := by omega
    rcases hy' with rfl | rfl
    · exact ok_ifp rfl (ok_some ⟨e1, t2, m2⟩)
    · exact ok_ifn (by decide) (ok_some ⟨e2, t2, m2⟩)
def tlP (qc : Nat) (M : Mem) (t k : Nat) : Bool := decide (thA qc M (nI (9 - k)) t ≠ -1)
def vTall (qc : Nat) (M : Mem) (t : Nat) : Int32 := if fsb (tlP qc M t) 10 = -1 then -1 else 9 - fsb (tlP qc M t) 10
theorem vTall_at {qc : Nat} {M : Mem} {t k : Nat} (hk : k < 10) (h : ∀ j, j < k → tlP qc M t j = false) (hp : tlP qc M t k = true) : vTall qc M t = nI (9 - k) := by
  unfold vTall
  rw [fsb_at hk (by decide) h hp, if_neg (nI_m1 (by omega))]
  exact nI_sub (show k ≤ 9 by omega)
theorem vTall_no {qc : Nat} {M : Mem} {t : Nat} (h : ∀ j, j < 10 → tlP qc M t j = false) : vTall qc M t = -1 := by
  unfold vTall
  rw [fsb_no h, if_pos rfl]
theorem nine {k : Nat} (hk : k < 10) : (9 : Int32) - nI k = nI (9 - k) := nI_sub (show k ≤ 9 by omega)
theorem nine1 (k : Nat) : (9 : Int32) - nI k - 1 = 9 - nI (k + 1) := by rw [← nI_1]; grind
theorem k_tallest {qc qs qd : Nat} {M : Mem} {t : Nat} (h : Rel qc qs M) (ht : t ≤ 48) : ok (f_X11_tallest qc qd (nI t) M) (fun r => r.1 = .inl (vTall qc M t) ∧ asks M r.2 ∧ cch qc r.2) := by
  unfold f_X11_tallest
  refine ok_bindE (fitT (fit_n (n := 48) (by decide) ht)) ?_
  refine ok_bind (P := fun e => match e with
    | Sum.inl (x, M') => x = vTall qc M t ∧ OS qc M M'
    | Sum.inr M' => -1 = vTall qc M t ∧ OS qc M M') ?_ ?_
  · refine ok_wh (fun k s => s.1 = 9 - nI k ∧ OS qc M s.2 ∧ ∀ j, j < k → tlP qc M t j = false) 10 ⟨rfl, OS_rfl h, fun j hj => by cases hj⟩ (by decide) ?_ ?_
    · rintro k ⟨x, M1⟩ hk ⟨e1, o1, h1⟩
      simp only at e1 o1 h1
      subst e1
      unfold L_X11_tallest_11
      simp only [nine hk]
      refine ok_ifn (nI_pos (by omega)) (ok_bind (c_sail h o1 ht) ?_)
      rintro M2 ⟨o2, s1, -⟩
      rw [show M2 38 0 7 = thA qc M (nI (9 - k)) t from s1]
      refine ok_if (fun c => ok_some ⟨?_, o2, fun j hj => ?_⟩) (fun c => ok_some ⟨(vTall_at hk h1 (decide_eq_true c)).symm, o2⟩)
      · show nI (9 - k) - 1 = _
        rw [← nine hk, nine1]
      · by_cases hjk : j = k
        · rw [hjk]; exact decide_eq_false (fun z => z c)
        · exact h1 j (by omega)
    · rintro ⟨x, M1⟩ ⟨e1, o1, h1⟩
      simp only at e1 o1 h1
      unfold L_X11_tallest_11
      exact ok_ifp (by rw [e1]; decide) (ok_some ⟨(vTall_no h1).symm, o1⟩)
  · rintro (⟨x, M1⟩ | M1) ⟨e, o⟩
    · exact ok_some ⟨by rw [e], OS_end o⟩
    · exact ok_some ⟨by rw [e], OS_end o⟩
theorem m_tallest {qc qs : Nat} {M M1 : Mem} {t : Nat} (h : Rel qc qs M) (h1 : Rel qc qs M1) (a1 : asks M M1) (ht : t ≤ 48) : ok (f_X12_tallest (nI t) M1) (fun r => r.1 = vTall qc M t ∧ r.2 54 0 0 = 0 ∧ mfr M1 r.2) := by
  unfold f_X12_tallest
  refine ok_ifn (in_n (n := 48) (by decide) ht) (ok_bindE (badM0 _ _ _) (ok_ifp rfl ?_))
  refine ok_bind (P := fun e => match e with
    | Sum.inl (x, M') => x = vTall qc M t ∧ M' 54 0 0 = 0 ∧ mfr M1 M'
    | Sum.inr M' => -1 = vTall qc M t ∧ M' 54 0 0 = 0 ∧ mfr M1 M') ?_ ?_
  · refine ok_wh (fun k s => s.1 = 9 - nI k ∧ s.2 54 0 0 = 0 ∧ mfr M1 s.2 ∧ ∀ j, j < k → tlP qc M t j = false) 10 ⟨rfl, M0_t M1, mfr_M0 M1, fun j hj => by cases hj⟩ (by decide) ?_ ?_
    · rintro k ⟨x, M2⟩ hk ⟨e1, t2, m2, h2⟩
      simp only at e1 t2 m2 h2
      subst e1
      unfold L_X12_tallest_34
      simp only [nine hk]
      refine ok_ifn (nI_pos (by omega)) (ok_bind (m_trips h1 m2 t2 ht) ?_)
      rintro ⟨w, M3⟩ ⟨e4, m3, t3, -⟩
      simp only at e4 m3 t3
      rw [tpA_a h.1.1 a1] at e4
      have e5 : w = thA qc M (nI (9 - k)) t := e4
      subst e5
      show ok (if thA qc M (nI (9 - k)) t = -1 then _ else _) _
      refine ok_if (fun c => ok_some ⟨?_, t3, m3, fun j hj => ?_⟩) (fun c => ok_some ⟨(vTall_at hk h2 (decide_eq_true c)).symm, t3, m3⟩)
      · show nI (9 - k) - 1 = _
        rw [← nine hk, nine1]
      · by_cases hjk : j = k
        · rw [hjk]; exact decide_eq_false (fun z => z c)
        · exact h2 j (by omega)
    · rintro ⟨x, M2⟩ ⟨e1, t2, m2, h2⟩
      simp only at e1 t2 m2 h2
      unfold L_X12_tallest_34
      exact ok_ifp (by rw [e1]; decide) (ok_some ⟨(vTall_no h2).symm, t2, m2⟩)
  · rintro (⟨x, M2⟩ | M2) hq
    · exact ok_some hq
    · exact ok_some hq
theorem t_soonest {qc qs qd : Nat} {x y z : Int32} {M : Mem} (h : Rel qc qs M) : ok (f_X11_soonest qc qd x y z M) (fun r => ok (f_X12_soonest x y z r.2) (fun r' => ans1 r.1 r'.1 (r'.2 54 0 0) ∧ Rel qc qs r'.2)) := by
  have hg := R_n16 h
  have em := R_mB h
  have h8 := R_s8 h
  have emS := R_mS h
  by_cases hx_0 : x < 0 ∨ 9 < x
  · unfold f_X11_soonest
    refine ok_bindE (mastF hx_0) (ok_some ?_)
    unfold f_X12_soonest
    exact ok_ifp ((in_eq _ _ _).mpr hx_0) (ok_bindE (bad14 M (by decide)) (ok_ifn (by decide) (ok_some ⟨⟨rfl, RM_t 14 1 M⟩, Rel_RM (k := 14) (Or.inr rfl) h⟩)))
  · skip
    by_cases hy_1 : y < 0 ∨ 48 < y
    · unfold f_X11_soonest
      refine ok_bindE (mastT hx_0) (ok_bindE (fitF hy_1) (ok_some ?_))
      unfold f_X12_soonest
      exact ok_ifn (fun z => hx_0 ((in_eq _ _ _).mp z)) (ok_ifp ((in_eq _ _ _).mpr hy_1) (ok_bindE (bad14 M (by decide)) (ok_ifn (by decide) (ok_some ⟨⟨rfl, RM_t 14 1 M⟩, Rel_RM (k := 14) (Or.inr rfl) h⟩))))
    · skip
      by_cases hz_2 : z < 0 ∨ 1 < z
      · unfold f_X11_soonest
        refine ok_bindE (mastT hx_0) (ok_bindE (fitT hy_1) (ok_bindE (fitF hz_2) (ok_some ?_)))
        unfold f_X12_soonest
        exact ok_ifn (fun z => hx_0 ((in_eq _ _ _).mp z)) (ok_ifn (fun z => hy_1 ((in_eq _ _ _).mp z)) (ok_ifp ((in_eq _ _ _).mpr hz_2) (ok_bindE (bad14 M (by decide)) (ok_ifn (by decide) (ok_some ⟨⟨rfl, RM_t 14 1 M⟩, Rel_RM (k := 14) (Or.inr rfl) h⟩)))))
      · skip
        obtain ⟨a_x, rfl, l_x⟩ := args (n := 9) rfl (by decide) hx_0
        obtain ⟨a_y, rfl, l_y⟩ := args (n := 48) rfl (by decide) hy_1
        obtain ⟨a_z, rfl, l_z⟩ := args (n := 1) rfl (by decide) hz_2
        exact t_of1 h (k_soonest h l_x l_y l_z) (fun M1 h1 a1 => m_soonest h h1 a1 l_x l_y l_z)
theorem t_tallest {qc qs qd : Nat} {x : Int32} {M : Mem} (h : Rel qc qs M) : ok (f_X11_tallest qc qd x M) (fun r => ok (f_X12_tallest x r.2) (fun r' => ans1 r.1 r'.1 (r'.2 54 0 0) ∧ Rel qc qs r'.2)) := by
  have hg := R_n16 h
  have em := R_mB h
  have h8 := R_s8 h
  have emS := R_mS h
  by_cases hx_0 : x < 0 ∨ 48 < x
  · unfold f_X11_tallest
    refine ok_bindE (fitF hx_0) (ok_some ?_)
    unfold f_X12_tallest
    exact ok_ifp ((in_eq _ _ _).mpr hx_0) (ok_bindE (bad14 M (by decide)) (ok_ifn (by decide) (ok_some ⟨⟨rfl, RM_t 14 1 M⟩, Rel_RM (k := 14) (Or.inr rfl) h⟩)))
  · skip
    obtain ⟨a_x, rfl, l_x⟩ := args (n := 48) rfl (by decide) hx_0
    exact t_of1 h (k_tallest h l_x) (fun M1 h1 a1 => m_tallest h h1 a1 l_x)
