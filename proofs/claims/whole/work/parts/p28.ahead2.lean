/-! peak, hold, letter, busiest -/
def cntA (qc : Nat) (M : Mem) (k : Nat) : Int32 := sumN (fun j => if bt (openA qc M (M 30 0) k) j = true then 1 else 0) 16
theorem bc_openA {qc qs : Nat} {M : Mem} (h : Rel qc qs M) (k : Nat) : bcI (openA qc M (M 30 0) k) = cntA qc M k := bc_ones (fun j h1 h2 => openA_hi (R_n16 h) (R_SR h) (by have := R_n16 h; omega) h2)
theorem sum01 (f : Nat → Bool) : ∀ n, ∃ m, m ≤ n ∧ sumN (fun j => if f j = true then 1 else 0) n = nI m
  | 0 => ⟨0, Nat.le_refl _, rfl⟩
  | n + 1 => by
    obtain ⟨m, h1, h2⟩ := sum01 f n
    rw [sumN_s, h2]
    cases f n
    · exact ⟨m, by omega, add00 _⟩
    · exact ⟨m + 1, by omega, nI_1 m⟩
def vPeak (qc : Nat) (M : Mem) : Int32 × Int32 := itr (mxF (cntA qc M)) (0, 0) 240
theorem peak_init {f : Nat → Int32} (h0 : ∃ m, m ≤ 16 ∧ f 0 = nI m) : ∀ n, itr (mxF f) (0, -1) (n + 1) = itr (mxF f) (0, 0) (n + 1)
  | 0 => by
    obtain ⟨m, hm, e⟩ := h0
    rw [itr_s, itr_s]
    show mxF f 0 (0, -1) = mxF f 0 (0, 0)
    unfold mxF
    simp only [e]
    have : ∀ m, m < 17 → (if nI m ≤ (-1 : Int32) then ((0 : Int32), (-1 : Int32)) else (nI 0, nI m)) = (if nI m ≤ 0 then (0, 0) else (nI 0, nI m)) := by decide +kernel
    exact this m (by omega)
  | n + 1 => by rw [itr_s _ _ (n + 1), itr_s _ _ (n + 1), peak_init h0 n]
theorem k_peak {qc qs qd : Nat} {M : Mem} {y : Nat} (h : Rel qc qs M) (hy : y ≤ 1) : ok (f_X11_peak qc qd (nI y) M) (fun r => r.1 = .inl (if y = 0 then (vPeak qc M).1 else (vPeak qc M).2) ∧ asks M r.2 ∧ cch qc r.2) := by
  unfold f_X11_peak
  refine ok_bindE (fitT (fit_n (n := 1) (by decide) hy)) ?_
  refine ok_bind (P := fun r => r.1 = (vPeak qc M).1 ∧ r.2.1 = (vPeak qc M).2 ∧ OL qc M r.2.2) ?_ ?_
  · refine ok_wh (fun k s => s.1 = (itr (mxF (cntA qc M)) (0, 0) k).1 ∧ s.2.1 = (itr (mxF (cntA qc M)) (0, 0) k).2 ∧ s.2.2.1 = nI k ∧ OL qc M s.2.2.2) 240 ⟨rfl, rfl, rfl, OL_rfl h⟩ (by decide) ?_ ?_
    · rintro k ⟨x, x', y, M1⟩ hk ⟨rfl, rfl, rfl, o1⟩
      simp only at o1
      unfold L_X11_peak_14
      refine ok_ifn (nI_ge (b := 240) hk (by decide)) (ok_bind (OL_open h o1 (by omega)) ?_)
      rintro ⟨v, M2⟩ ⟨rfl, o2⟩
      simp only [bc_openA h]
      rw [itr_s, mxF]
      refine ok_if (fun hc => ok_some ⟨?_, ?_, nI_1 k, o2⟩) (fun hc => ok_some ⟨?_, ?_, nI_1 k, o2⟩)
      · rw [if_pos hc]
      · rw [if_pos hc]
      · rw [if_neg hc]
      · rw [if_neg hc]
    · rintro ⟨x, x', y, M1⟩ ⟨e1, e2, e3, o1⟩
      simp only at e1 e2 e3 o1
      unfold L_X11_peak_14
      exact ok_ifp (by rw [e3]; decide) (ok_some ⟨e1, e2, o1⟩)
  · rintro ⟨x, x', M1⟩ ⟨e1, e2, o⟩
    simp only at e1 e2 o
    have hy' : y = 0 ∨ y = 1 := by omega
    rcases hy' with rfl | rfl
    · exact ok_ifp rfl (ok_some ⟨by rw [e1]; rfl, OL_end o⟩)
    · exact ok_ifn (by decide) (ok_some ⟨by rw [e2]; rfl, OL_end o⟩)
theorem m_peak {qc qs : Nat} {M M1 : Mem} {y : Nat} (h : Rel qc qs M) (h1 : Rel qc qs M1) (a1 : asks M M1) (hy : y ≤ 1) : ok (f_X12_peak (nI y) M1) (fun r => r.1 = (if y = 0 then (vPeak qc M).1 else (vPeak qc M).2) ∧ r.2 54 0 0 = 0 ∧ mfr M1 r.2) := by
  have e0 : itr (mxF (cntA qc M)) (0, -1) 240 = vPeak qc M := peak_init (sum01 _ 16) 239
  unfold f_X12_peak
  refine ok_ifn (in_n (n := 1) (by decide) hy) (ok_bindE (badM0 _ _ _) (ok_ifp rfl (ok_bind (TR_0 h1) ?_)))
  intro M2 t2
  refine ok_bind (P := fun r => r.1 = (vPeak qc M).1 ∧ r.2.1 = (vPeak qc M).2 ∧ TR M1 240 r.2.2) ?_ ?_
  · refine ok_wh (fun k s => s.1 = (itr (mxF (cntA qc M)) (0, -1) k).1 ∧ s.2.1 = (itr (mxF (cntA qc M)) (0, -1) k).2 ∧ s.2.2.1 = nI k ∧ TR M1 k s.2.2.2) 240 ⟨rfl, rfl, rfl, t2⟩ (by decide) ?_ ?_
    · rintro k ⟨x, x', y, M3⟩ hk ⟨rfl, rfl, rfl, t3⟩
      simp only at t3
      unfold L_X12_peak_41
      refine ok_ifn (nI_ge (b := 240) hk (by decide)) (ok_bind (TR_bits h1 t3) ?_)
      rintro ⟨v, M4⟩ ⟨rfl, t4⟩
      simp only [openA_1 h a1] at t4 ⊢
      refine ok_bindE (ones_eq _) ?_
      show ok (if cntA qc M k ≤ _ then _ else _) _
      rw [itr_s, mxF]
      refine ok_if (fun hc => ok_bind (TR_hour h1 t4) ?_) (fun hc => ok_bind (TR_hour h1 t4) ?_)
      · intro M5 t5
        refine ok_some ⟨?_, ?_, nI_1 k, t5⟩
        · rw [if_pos hc]
        · rw [if_pos hc]
      · intro M5 t5
        refine ok_some ⟨?_, ?_, nI_1 k, t5⟩
        · rw [if_neg hc]
        · rw [if_neg hc]; rfl
    · rintro ⟨x, x', y, M3⟩ ⟨e1, e2, e3, t3⟩
      simp only at e1 e2 e3 t3
      rw [e0] at e1 e2
      unfold L_X12_peak_41
      exact ok_ifp (by rw [e3]; decide) (ok_some ⟨e1, e2, t3⟩)
  · rintro ⟨x, x', M3⟩ ⟨e1, e2, t⟩
    simp only at e1 e2 t
    have hy' : y = 0 ∨ y = 1 := by omega
    rcases hy' with rfl | rfl
    · exact ok_ifp rfl (ok_some ⟨e1, TR_end t⟩)
    · exact ok_ifn (by decide) (ok_some ⟨e2, TR_end t⟩)
/-- BOARDS to be held for a MAST -/
def vHold (qc : Nat) (M : Mem) (m : Int32) (t n : Nat) : Int32 := bitsN (fun b => !(lets M m (openA qc M (M 30 0) (t + b / vF M)) b)) n
theorem k_hold {qc qs qd : Nat} {M : Mem} {m t : Nat} (h : Rel qc qs M) (hm : m ≤ 9) (ht : t ≤ 48) : ok (f_X11_hold qc qd (nI m) (nI t) M) (fun r => r.1 = .inl (vHold qc M (nI m) t (nB M)) ∧ asks M r.2 ∧ cch qc r.2) := by
  have hn := R_n16 h
  obtain ⟨v1, v2⟩ := R_v h
  unfold f_X11_hold
  refine ok_bindE (mastT (fit_n (n := 9) (by decide) hm)) (ok_bindE (fitT (fit_n (n := 48) (by decide) ht)) ?_)
  refine ok_bind (P := fun r => r.1 = vHold qc M (nI m) t (nB M) ∧ OL qc M r.2) ?_ ?_
  · refine ok_wh (fun k s => s.1 = vHold qc M (nI m) t k ∧ s.2.1 = nI k ∧ OL qc M s.2.2) (nB M) ⟨rfl, rfl, OL_rfl h⟩ (by omega) ?_ ?_
    · rintro k ⟨x, y, M1⟩ hk ⟨rfl, rfl, o1⟩
      simp only at o1
      have hd : k / vF M ≤ k := Nat.div_le_self _ _
      unfold L_X11_hold_18 f_X1_hoursTo
      simp only [OL_e3 o1, R_eB h, R_eV h]
      refine ok_ifn (nI_ge hk (by omega)) (ok_bindE ((if_neg (nI_ge (a := 0) (by omega) (by omega))).trans (if_pos (nI_ne0 (by omega) (by omega)))) ?_)
      rw [nI_div (by omega) (by omega), nI_add]
      refine ok_bind (OL_open h o1 (by omega)) ?_
      rintro ⟨v, M2⟩ ⟨rfl, o2⟩
      simp only at o2
      refine ok_bindE (c_lets (by omega)) ?_
      have e4 : M2 4 = M 4 := o2.1.1 4 (by decide)
      have el : lets M2 (nI m) (openA qc M (M 30 0) (t + k / vF M)) k = lets M (nI m) (openA qc M (M 30 0) (t + k / vF M)) k := by unfold lets; rw [e4]
      rw [el]
      cases hl : lets M (nI m) (openA qc M (M 30 0) (t + k / vF M)) k
      · exact ok_ifp rfl (ok_some ⟨(bitsN_st _ _ (by simp only [hl]; rfl)).symm, nI_1 k, o2⟩)
      · refine ok_ifn (by decide) (ok_some ⟨?_, nI_1 k, o2⟩)
        refine Eq.trans ?_ (bitsN_sf _ _ (by simp only [hl]; rfl)).symm
        exact (Int32.or_zero).symm
    · rintro ⟨x, y, M1⟩ ⟨rfl, rfl, o1⟩
      simp only at o1
      unfold L_X11_hold_18
      simp only [OL_e3 o1, R_eB h]
      exact ok_ifp (nI_le (Nat.le_refl _) (by omega)) (ok_some ⟨rfl, o1⟩)
  · rintro ⟨x, M1⟩ ⟨rfl, o⟩
    exact ok_some ⟨rfl, OL_end o⟩
/-- hours that the model has let pass ahead of BOARD b -/
def hrs (v b : Nat) : Nat := (b - 1) / v
theorem hrs_s {v b : Nat} (h1 : 1 ≤ v) (h2 : v ≤ 4) (hb : 0 < b) : (b % v = 0 → b / v = hrs v b + 1) ∧ (b % v ≠ 0 → b / v = hrs v b) := by
  unfold hrs
  have hv : v = 1 ∨ v = 2 ∨ v = 3 ∨ v = 4 := by omega
  rcases hv with rfl | rfl | rfl | rfl <;> omega
theorem hrs_n {v b : Nat} : hrs v (b + 1) = b / v := by unfold hrs; rw [Nat.add_sub_cancel]
theorem nI_mod {a b : Nat} (ha : a < 2 ^ 31) (hb : b < 2 ^ 31) : nI a - nI a / nI b * nI b = nI (a % b) := by
  rw [nI_div ha hb, nI_mul, nI_sub (Nat.div_mul_le_self a b)]
  congr 1
  have := Nat.div_add_mod a b
  rw [Nat.mul_comm] at this
  omega
theorem m_hold {qc qs : Nat} {M M1 : Mem} {m t : Nat} (h : Rel qc qs M) (h1 : Rel qc qs M1) (a1 : asks M M1) (hm : m ≤ 9) (ht : t ≤ 48) : ok (f_X12_hold (nI m) (nI t) M1) (fun r => r.1 = vHold qc M (nI m) t (nB M) ∧ r.2 54 0 0 = 0 ∧ mfr M1 r.2) := by
  have hn := R_n16 h
  obtain ⟨v1, v2⟩ := R_v h
  unfold f_X12_hold
  refine ok_ifn (in_n (n := 9) (by decide) hm) (ok_ifn (in_n (n := 48) (by decide) ht) (ok_bindE (badM0 _ _ _) (ok_ifp rfl (ok_bind (TR_0 h1) ?_))))
  intro M2 t2
  refine ok_bind (P := TR M1 t) ?_ ?_
  · refine ok_wh (fun k s => s.1 = nI k ∧ TR M1 k s.2) t ⟨rfl, t2⟩ (by omega) ?_ ?_
    · rintro k ⟨x, M3⟩ hk ⟨rfl, t3⟩
      unfold L_X12_hold_47
      refine ok_ifn (nI_ge hk (by omega)) (ok_bind (TR_hour h1 t3) ?_)
      intro M4 t4
      exact ok_some ⟨nI_1 k, t4⟩
    · rintro ⟨x, M3⟩ ⟨rfl, t3⟩
      unfold L_X12_hold_47
      exact ok_ifp (nI_le (Nat.le_refl _) (by omega)) (ok_some t3)
  · intro M3 t3
    refine ok_bind (P := fun r => r.1 = vHold qc M (nI m) t (nB M) ∧ ∃ k, TR M1 k r.2) ?_ ?_
    · refine ok_wh (fun k s => s.1 = vHold qc M (nI m) t k ∧ s.2.1 = nI k ∧ TR M1 (t + hrs (vF M) k) s.2.2) (nB M) ⟨rfl, rfl, by simpa [hrs] using t3⟩ (by omega) ?_ ?_
      · rintro k ⟨x, y, M4⟩ hk ⟨rfl, rfl, t4⟩
        simp only at t4
        have tail : ∀ M5 : Mem, TR M1 (t + k / vF M) M5 → ok (if inb (nI k) 16 = true then (if nI m ≤ (M5 60 ((nI k).toNatClampNeg + 1) 0) then some (Sum.inl (vHold qc M (nI m) t k ||| (0 : Int32), nI k + 1, M5)) else (Option.bind (f_X12_opensIn 73 (nI k) M5) (fun (v12, M12) => (if v12 = 0 then some (Sum.inl (vHold qc M (nI m) t k ||| ((1 : Int32) <<< (nI k &&& 31)), nI k + 1, M12)) else some (Sum.inl (vHold qc M (nI m) t k ||| (0 : Int32), nI k + 1, M12)))))) else none) (stp (fun s => s.1 = vHold qc M (nI m) t (k + 1) ∧ s.2.1 = nI (k + 1) ∧ TR M1 (t + hrs (vF M) (k + 1)) s.2.2) (fun (r : Int32 × Mem) => r.1 = vHold qc M (nI m) t (nB M) ∧ ∃ k, TR M1 k r.2)) := by
          intro M5 t5
          have a5 : asks M M5 := asks_tr a1 (asks_m t5.1)
          refine ok_ifp (inb_n (by omega) (by decide)) ?_
          rw [nI_clamp (by omega), a5.1 60 (by decide), (R_bd h hk).1]
          by_cases hc : nI m ≤ M 4 0 k
          · refine ok_ifp hc (ok_some ⟨(bitsN_sf _ _ ?_).symm, nI_1 k, by rw [hrs_n]; exact t5⟩)
            unfold lets
            rw [decide_eq_true hc]; rfl
          · refine ok_ifn hc (ok_bind (TR_open h1 t5 (by rw [a_nB a1]; exact hk)) ?_)
            rintro ⟨w, M6⟩ ⟨rfl, t6⟩
            simp only [openA_1 h a1] at t6 ⊢
            cases hh : bt (openA qc M (M 30 0) (t + k / vF M)) k
            · refine ok_ifp rfl (ok_some ⟨(bitsN_st _ _ ?_).symm, nI_1 k, by rw [hrs_n]; exact t6⟩)
              unfold lets
              rw [decide_eq_false hc, hh]; rfl
            · refine ok_ifn (by decide) (ok_some ⟨(bitsN_sf _ _ ?_).symm, nI_1 k, by rw [hrs_n]; exact t6⟩)
              unfold lets
              rw [hh, Bool.or_true]; rfl
        unfold L_X12_hold_70
        have a4 : asks M M4 := asks_tr a1 (asks_m t4.1)
        simp only [a_mB h a4, a_mV h a4]
        refine ok_ifn (nI_ge hk (by omega)) ?_
        by_cases hk0 : k = 0
        · subst hk0
          refine ok_ifp (by decide) (tail M4 (by simpa [hrs] using t4))
        · refine ok_ifn (nI_ge (a := 0) (by omega) (by omega)) (ok_ifp (nI_ne0 (by omega) (by omega)) ?_)
          rw [nI_mod (by omega) (by omega)]
          by_cases hz : k % vF M = 0
          · refine ok_ifp (by rw [hz]; rfl) (ok_bind (TR_hour h1 t4) ?_)
            intro M5 t5
            refine tail M5 ?_
            rw [(hrs_s v1 v2 (by omega)).1 hz, ← Nat.add_assoc]
            exact t5
          · have hlt : k % vF M < 2 ^ 31 := by have := Nat.mod_le k (vF M); omega
            refine ok_ifn (nI_ne0 (by omega) hlt) (tail M4 ?_)
            rw [(hrs_s v1 v2 (by omega)).2 hz]
            exact t4
      · rintro ⟨x, y, M4⟩ ⟨rfl, rfl, t4⟩
        simp only at t4
        unfold L_X12_hold_70
        have a4 : asks M M4 := asks_tr a1 (asks_m t4.1)
        simp only [a_mB h a4]
        exact ok_ifp (nI_le (Nat.le_refl _) (by omega)) (ok_some ⟨rfl, _, t4⟩)
    · rintro ⟨x, M4⟩ ⟨e, k, t4⟩
      exact ok_some ⟨e, TR_end t4⟩
theorem t_peak {qc qs qd : Nat} {x : Int32} {M : Mem} (h : Rel qc qs M) : ok (f_X11_peak qc qd x M) (fun r => ok (f_X12_peak x r.2) (fun r' => ans1 r.1 r'.1 (r'.2 54 0 0) ∧ Rel qc qs r'.2)) := by
  have hg := R_n16 h
  have em := R_mB h
  have h8 := R_s8 h
  have emS := R_mS h
  by_cases hx_0 : x < 0 ∨ 1 < x
  · unfold f_X11_peak
    refine ok_bindE (fitF hx_0) (ok_some ?_)
    unfold f_X12_peak
    exact ok_ifp ((in_eq _ _ _).mpr hx_0) (ok_bindE (bad14 M (by decide)) (ok_ifn (by decide) (ok_some ⟨⟨rfl, RM_t 14 1 M⟩, Rel_RM (k := 14) (Or.inr rfl) h⟩)))
  · skip
    obtain ⟨a_x, rfl, l_x⟩ := args (n := 1) rfl (by decide) hx_0
    exact t_of1 h (k_peak h l_x) (fun M1 h1 a1 => m_peak h h1 a1 l_x)
theorem t_hold {qc qs qd : Nat} {x y : Int32} {M : Mem} (h : Rel qc qs M) : ok (f_X11_hold qc qd x y M) (fun r => ok (f_X12_hold x y r.2) (fun r' => ans1 r.1 r'.1 (r'.2 54 0 0) ∧ Rel qc qs r'.2)) := by
  have hg := R_n16 h
  have em := R_mB h
  have h8 := R_s8 h
  have emS := R_mS h
  by_cases hx_0 : x < 0 ∨ 9 < x
  · unfold f_X11_hold
    refine ok_bindE (mastF hx_0) (ok_some ?_)
    unfold f_X12_hold
    exact ok_ifp ((in_eq _ _ _).mpr hx_0) (ok_bindE (bad14 M (by decide)) (ok_ifn (by decide) (ok_some ⟨⟨rfl, RM_t 14 1 M⟩, Rel_RM (k := 14) (Or.inr rfl) h⟩)))
  · skip
    by_cases hy_1 : y < 0 ∨ 48 < y
    · unfold f_X11_hold
      refine ok_bindE (mastT hx_0) (ok_bindE (fitF hy_1) (ok_some ?_))
      unfold f_X12_hold
      exact ok_ifn (fun z => hx_0 ((in_eq _ _ _).mp z)) (ok_ifp ((in_eq _ _ _).mpr hy_1) (ok_bindE (bad14 M (by decide)) (ok_ifn (by decide) (ok_some ⟨⟨rfl, RM_t 14 1 M⟩, Rel_RM (k := 14) (Or.inr rfl) h⟩))))
    · skip
      obtain ⟨a_x, rfl, l_x⟩ := args (n := 9) rfl (by decide) hx_0
      obtain ⟨a_y, rfl, l_y⟩ := args (n := 48) rfl (by decide) hy_1
      exact t_of1 h (k_hold h l_x l_y) (fun M1 h1 a1 => m_hold h h1 a1 l_x l_y)
