/-! TEXTS: numbers -/
def nV (T : Nat → Nat) (p : Nat) : Nat → Nat
  | 0 => 0
  | k + 1 => 10 * nV T p k + (T (p + k) - 48)
theorem nV_s (T : Nat → Nat) (p k : Nat) : nV T p (k + 1) = 10 * nV T p k + (T (p + k) - 48) := rfl
def num (T : Nat → Nat) (n a b p : Nat) : (Nat × Nat) ⊕ (Nat × Nat) := if dE T n (sk T n p) = sk T n p then Sum.inr (1, sk T n p) else if a ≤ nV T (sk T n p) (dE T n (sk T n p) - sk T n p) ∧ nV T (sk T n p) (dE T n (sk T n p) - sk T n p) < b then Sum.inl (dE T n (sk T n p), nV T (sk T n p) (dE T n (sk T n p) - sk T n p)) else Sum.inr (2, sk T n p)
theorem cD_t {T : Nat → Nat} {n j : Nat} (h : cD T n j = true) : j < n ∧ 48 ≤ T j ∧ T j ≤ 57 := by unfold cD at h; simpa using h
theorem cD_f {T : Nat → Nat} {n j : Nat} (h : cD T n j = false) : n ≤ j ∨ T j < 48 ∨ 57 < T j := by
  unfold cD at h
  simp at h
  by_cases h1 : j < n
  · by_cases h2 : 48 ≤ T j
    · have := h h1 h2; omega
    · omega
  · omega
theorem c_numL {T : Nat → Nat} {n q : Nat} {M : Mem} (h : CT T n M) (hq : q ≤ n) (e : M 1 0 3 = nI q) : wh L_X10_number_15 FU ((0 : Int32), M) = some (nI (min (nV T q (dE T n q - q)) 1000000), am_u3 M 1 0 3 (nI (dE T n q))) := by
  obtain ⟨h1, h2, -, h4⟩ := h
  obtain ⟨d1, d2, d3, d4⟩ := dE_f (T := T) hq
  have e0 : ((0 : Int32), M) = (nI (min (nV T q 0) 1000000), am_u3 M 1 0 3 (nI (q + 0))) := by
    rw [Nat.add_zero, ← e, u3_self rfl]; rfl
  rw [e0]
  refine wh_for (fun k => (nI (min (nV T q k) 1000000), am_u3 M 1 0 3 (nI (q + k)))) (dE T n q - q) _ (by omega) ?_ ?_
  · intro k hk
    obtain ⟨c1, c2, c3⟩ := cD_t (d3 (q + k) (by omega) (by omega))
    have hb : M 2 0 (q + k) = nI (T (q + k)) := by rw [(h4 _ c1).1, bS_lo _ (by omega) (by omega)]
    unfold L_X10_number_15
    simp only []
    rw [u3_e, u3_j (show ¬ (0 = 0 ∧ 2 = 3) by omega), h1, u3_c (show 2 ≠ 1 by decide), u3_u, nI_clamp (show q + k < 2 ^ 31 by omega), hb, if_neg (nI_ge c1 (by omega)), if_pos (inb_n (by omega) (by decide)), if_neg (show ¬ nI (T (q + k)) < 48 from nI_nlt (b := 48) c2 (by omega)), if_neg (show ¬ (57 : Int32) < nI (T (q + k)) from nI_nlt (a := 57) c3 (by decide)), nI_1]
    have ev : nI (min (nV T q k) 1000000) * 10 + nI (T (q + k)) - 48 = nI (min (nV T q k) 1000000 * 10 + (T (q + k) - 48)) := by
      rw [show (10 : Int32) = nI 10 from rfl, nI_mul, nI_add, show (48 : Int32) = nI 48 from rfl, nI_sub (by omega)]
      congr 1
      omega
    rw [ev, nV_s]
    have em : (if (1000000 : Int32) < nI (min (nV T q k) 1000000 * 10 + (T (q + k) - 48)) then (1000000 : Int32) else nI (min (nV T q k) 1000000 * 10 + (T (q + k) - 48))) = nI (min (10 * nV T q k + (T (q + k) - 48)) 1000000) := by
      by_cases hc : 1000000 < min (nV T q k) 1000000 * 10 + (T (q + k) - 48)
      · rw [if_pos (show (1000000 : Int32) < _ from nI_lt (a := 1000000) hc (by omega)), Nat.min_eq_right (by omega)]; rfl
      · rw [if_neg (show ¬ (1000000 : Int32) < _ from nI_nlt (a := 1000000) (by omega) (by decide))]
        congr 1
        omega
    rw [em, Nat.add_assoc]
  · unfold L_X10_number_15
    simp only []
    rw [u3_e, u3_j (show ¬ (0 = 0 ∧ 2 = 3) by omega), h1, u3_c (show 2 ≠ 1 by decide), show q + (dE T n q - q) = dE T n q by omega, nI_clamp (show dE T n q < 2 ^ 31 by omega)]
    by_cases hl : dE T n q < n
    · rw [if_neg (nI_ge hl (by omega)), if_pos (inb_n (by omega) (by decide)), (h4 _ hl).1]
      have hT := (h4 _ hl).2
      rcases cD_f d4 with z | z | z
      · omega
      · rw [if_pos (show bS (T (dE T n q)) < 48 by rw [bS_lo _ hT (by omega)]; exact nI_lt (b := 48) z (by decide))]
      · by_cases hi : T (dE T n q) < 128
        · rw [bS_lo _ hT hi, if_neg (show ¬ nI (T (dE T n q)) < 48 from nI_nlt (b := 48) (by omega) (by omega)), if_pos (show (57 : Int32) < nI (T (dE T n q)) from nI_lt (a := 57) z (by omega))]
        · rw [if_pos (bS_hi _ hT (by omega))]
    · rw [if_pos (nI_le (by omega) (by omega))]
/-- behind the digits -/
theorem c_numS {T : Nat → Nat} {n p : Nat} {M : Mem} (h : CT T n M) (hp : p ≤ n) (e : M 1 0 3 = nI p) (x1 x2 : Int32) : ∃ M6, f_X10_number x1 x2 M = (if (M6 1 0 3) = (M6 1 0 4) then (if (f_X10_isFaulty (f_X10_blame (1 : Int32) (M6 1 0 3) M6)) = 0 then some (nI (min (nV T (sk T n p) (dE T n (sk T n p) - sk T n p)) 1000000), (f_X10_blame (1 : Int32) (M6 1 0 3) M6)) else some ((-1 : Int32), (f_X10_blame (1 : Int32) (M6 1 0 3) M6))) else (if nI (min (nV T (sk T n p) (dE T n (sk T n p) - sk T n p)) 1000000) < x1 then (if (f_X10_isFaulty (f_X10_blame (2 : Int32) (M6 1 0 4) M6)) = 0 then some (nI (min (nV T (sk T n p) (dE T n (sk T n p) - sk T n p)) 1000000), (f_X10_blame (2 : Int32) (M6 1 0 4) M6)) else some ((-1 : Int32), (f_X10_blame (2 : Int32) (M6 1 0 4) M6))) else (if nI (min (nV T (sk T n p) (dE T n (sk T n p) - sk T n p)) 1000000) ≤ x2 then (if (f_X10_isFaulty M6) = 0 then some (nI (min (nV T (sk T n p) (dE T n (sk T n p) - sk T n p)) 1000000), M6) else some ((-1 : Int32), M6)) else (if (f_X10_isFaulty (f_X10_blame (2 : Int32) (M6 1 0 4) M6)) = 0 then some (nI (min (nV T (sk T n p) (dE T n (sk T n p) - sk T n p)) 1000000), (f_X10_blame (2 : Int32) (M6 1 0 4) M6)) else some ((-1 : Int32), (f_X10_blame (2 : Int32) (M6 1 0 4) M6)))))) ∧ M6 1 0 3 = nI (dE T n (sk T n p)) ∧ M6 1 0 4 = nI (sk T n p) ∧ M6 1 0 5 = M 1 0 5 ∧ M6 1 0 6 = M 1 0 6 ∧ cmv M M6 := by
  have hs := sk_f (T := T) hp
  refine ⟨am_u3 (am_u3 (am_u3 M 1 0 3 (nI (sk T n p))) 1 0 4 (nI (sk T n p))) 1 0 3 (nI (dE T n (sk T n p))), ?_, u3_e _ _ _ _ _, ?_, ?_, ?_, cmv_u (cmv_u (cmv_u cmv_rfl (by decide)) (by decide)) (by decide)⟩
  · unfold f_X10_number
    rw [c_next0 h hp e]
    simp only [Option.bind]
    rw [u3_e, c_numL (T := T) (n := n) (q := sk T n p) (CT_m h (cmv_u (cmv_u cmv_rfl (by decide)) (by decide))) hs.2.1 (by rw [u3_j (by omega), u3_e])]
  · rw [u3_j (by omega), u3_e]
  · rw [u3_j (by omega), u3_j (by omega), u3_j (by omega)]
  · rw [u3_j (by omega), u3_j (by omega), u3_j (by omega)]
def CN (T : Nat → Nat) (n : Nat) (x : (Nat × Nat) ⊕ (Nat × Nat)) (v : Int32) (M : Mem) : Prop := match x with
  | Sum.inl p => v = nI p.2 ∧ CS T n p.1 M
  | Sum.inr f => v = -1 ∧ CF T n f.1 f.2 M
def MN (T : Nat → Nat) (n : Nat) (x : (Nat × Nat) ⊕ (Nat × Nat)) (v : Int32) (M : Mem) : Prop := match x with
  | Sum.inl p => v = nI p.2 ∧ MS T n p.1 M
  | Sum.inr f => v = 0 ∧ MF T n f.1 f.2 M
theorem le_pred {b : Nat} {x : Int32} (hb : b < 2 ^ 31) : x ≤ nI b - 1 ↔ x < nI b := by
  have := lt_pred (n := b) (x := x) hb
  rw [← Int32.not_lt, this, Int32.not_le]
theorem c_num {T : Nat → Nat} {n a b p : Nat} {M : Mem} (h : CS T n p M) (ha : a ≤ 1000) (hb : b ≤ 1000) : ok (f_X10_number (nI a) (nI b - 1) M) (fun r => CN T n (num T n a b p) r.1 r.2 ∧ cmv M r.2 ∧ r.2 1 0 4 = nI (sk T n p)) := by
  obtain ⟨h1, h2, h3, h4, h5⟩ := h
  have hs := sk_f (T := T) h2
  have hd := dE_f (T := T) hs.2.1
  have h6 := h1.2.1
  obtain ⟨M6, e0, e3, e4, e5, e6, mv⟩ := c_numS h1 h2 h3 (nI a) (nI b - 1)
  rw [e0, e3, e4]
  unfold num
  have s6 : CS T n (dE T n (sk T n p)) M6 := ⟨CT_m h1 mv, hd.2.1, e3, e5.trans h4, e6.trans h5⟩
  generalize nV T (sk T n p) (dE T n (sk T n p) - sk T n p) = V
  have bl : ∀ k, 1 ≤ k ∧ k ≤ 3 → ok (if f_X10_isFaulty (f_X10_blame (nI k) (nI (sk T n p)) M6) = 0 then some (nI (min V 1000000), f_X10_blame (nI k) (nI (sk T n p)) M6) else some ((-1 : Int32), f_X10_blame (nI k) (nI (sk T n p)) M6)) (fun r => (r.1 = -1 ∧ CF T n k (sk T n p) r.2) ∧ cmv M r.2 ∧ r.2 1 0 4 = nI (sk T n p)) := by
    intro k hk
    obtain ⟨b1, b2, b3⟩ := CS_b (k := k) (q := sk T n p) s6 hk
    exact ok_ifn (fty1 b1) (ok_some ⟨⟨rfl, b1⟩, cmv_tr mv b2, b3.trans e4⟩)
  by_cases hc : dE T n (sk T n p) = sk T n p
  · rw [if_pos (show nI (dE T n (sk T n p)) = nI (sk T n p) by rw [hc]), if_pos hc, hc]
    exact bl 1 (by decide)
  · rw [if_neg (fun z => hc ((nI_eq (by omega) (by omega)).mp z)), if_neg hc]
    by_cases hlo : V < a
    · rw [if_pos (nI_lt (by omega) (by omega)), if_neg (show ¬ (a ≤ V ∧ V < b) by omega)]
      exact bl 2 (by decide)
    · rw [if_neg (nI_nlt (by omega) (by omega))]
      by_cases hhi : V < b
      · rw [if_pos ((le_pred (by omega)).mpr (nI_lt (by omega) (by omega))), if_pos (show a ≤ V ∧ V < b from ⟨by omega, hhi⟩)]
        refine ok_ifp (fty0 s6) (ok_some ⟨⟨?_, s6⟩, mv, e4⟩)
        show nI (min V 1000000) = nI V
        rw [Nat.min_eq_left (by omega)]
      · rw [if_neg (fun z => nI_nlt (show b ≤ min V 1000000 by omega) (by omega) ((le_pred (by omega)).mp z)), if_neg (show ¬ (a ≤ V ∧ V < b) by omega)]
        exact bl 2 (by decide)
theorem c_numF {T : Nat → Nat} {n k q : Nat} {x1 x2 : Int32} {M : Mem} (h : CF T n k q M) : ok (f_X10_number x1 x2 M) (fun r => r.1 = -1 ∧ CF T n k q r.2 ∧ cmv M r.2) := by
  obtain ⟨h1, ⟨p, h2, h3⟩, h4, h5, h6⟩ := h
  have hs := sk_f (T := T) h2
  have hd := dE_f (T := T) hs.2.1
  obtain ⟨M6, e0, e3, e4, e5, e6, mv⟩ := c_numS h1 h2 h3 x1 x2
  have s6 : CF T n k q M6 := ⟨CT_m h1 mv, ⟨_, hd.2.1, e3⟩, e5.trans h4, h5, e6.trans h6⟩
  rw [e0, CF_b s6, CF_b s6]
  have fin : ok (if f_X10_isFaulty M6 = 0 then some (nI (min (nV T (sk T n p) (dE T n (sk T n p) - sk T n p)) 1000000), M6) else some ((-1 : Int32), M6)) (fun r => r.1 = -1 ∧ CF T n k q r.2 ∧ cmv M r.2) := ok_ifn (fty1 s6) (ok_some ⟨rfl, s6, mv⟩)
  exact ok_if (fun _ => fin) (fun _ => ok_if (fun _ => fin) (fun _ => ok_if (fun _ => fin) (fun _ => fin)))
theorem dig_n {t : Nat} (ht : t < 256) : f_X12_isDigit (nI t) = if 48 ≤ t ∧ t ≤ 57 then 1 else 0 := by
  unfold f_X12_isDigit
  by_cases h1 : t < 48
  · rw [if_pos (show nI t < 48 from nI_lt (b := 48) h1 (by decide)), if_neg (by omega)]
  · rw [if_neg (show ¬ nI t < 48 from nI_nlt (b := 48) (by omega) (by omega))]
    by_cases h2 : 57 < t
    · rw [if_pos (show (57 : Int32) < nI t from nI_lt (a := 57) h2 (by omega)), if_neg (by omega)]
    · rw [if_neg (show ¬ (57 : Int32) < nI t from nI_nlt (a := 57) (by omega) (by decide)), if_pos (by omega)]
theorem digT {T : Nat → Nat} {n p : Nat} (h4 : ∀ j, j < n → T j < 256) : f_X12_isDigit (if p < n then nI (T p) else -1) = if cD T n p = true then 1 else 0 := by
  unfold cD
  by_cases hl : p < n
  · rw [if_pos hl, dig_n (h4 p hl), decide_eq_true hl, Bool.true_and]
    by_cases h2 : 48 ≤ T p ∧ T p ≤ 57
    · rw [if_pos h2, decide_eq_true h2.1, decide_eq_true h2.2]; rfl
    · rw [if_neg h2, if_neg]
      intro z
      rw [Bool.and_eq_true, decide_eq_true_eq, decide_eq_true_eq] at z
      exact h2 z
  · rw [if_neg hl, decide_eq_false hl]; rfl
theorem m_numL {T : Nat → Nat} {n q : Nat} {M : Mem} (h : MT T n M) (hq : q ≤ n) (e : M 54 0 4 = nI q) : wh L_X12_number_44 FU ((0 : Int32), M) = some (nI (min (nV T q (dE T n q - q)) 100000), am_u3 M 54 0 4 (nI (dE T n q))) := by
  have h4 : ∀ j, j < n → T j < 256 := fun j hj => (h.2.2.2 j hj).2
  have h2 := h.2.1
  obtain ⟨d1, d2, d3, d4⟩ := dE_f (T := T) hq
  have e0 : ((0 : Int32), M) = (nI (min (nV T q 0) 100000), am_u3 M 54 0 4 (nI (q + 0))) := by
    rw [Nat.add_zero, ← e, u3_self rfl]; rfl
  rw [e0]
  refine wh_for (fun k => (nI (min (nV T q k) 100000), am_u3 M 54 0 4 (nI (q + k)))) (dE T n q - q) _ (by omega) ?_ ?_
  · intro k hk
    have cd := d3 (q + k) (by omega) (by omega)
    obtain ⟨c1, c2, c3⟩ := cD_t cd
    unfold L_X12_number_44
    simp only []
    rw [u3_e, byT (MT_m h (mmv_u mmv_rfl (by decide))) (by omega)]
    simp only [Option.bind]
    rw [digT h4, cd, ifb1, if_pos c1, u3_u, nI_1]
    have ev : 10 * nI (min (nV T q k) 100000) + nI (T (q + k)) - 48 = nI (min (nV T q k) 100000 * 10 + (T (q + k) - 48)) := by
      rw [show (10 : Int32) = nI 10 from rfl, nI_mul, nI_add, show (48 : Int32) = nI 48 from rfl, nI_sub (by omega)]
      congr 1
      omega
    rw [ev, nV_s, Nat.add_assoc]
    by_cases hc : min (nV T q k) 100000 * 10 + (T (q + k) - 48) ≤ 100000
    · rw [if_pos (show _ ≤ (100000 : Int32) from nI_le (b := 100000) hc (by decide)), show min (nV T q k) 100000 * 10 + (T (q + k) - 48) = min (10 * nV T q k + (T (q + k) - 48)) 100000 by omega]
    · rw [if_neg (show ¬ _ ≤ (100000 : Int32) from nI_ge (a := 100000) (by omega) (by omega)), show min (10 * nV T q k + (T (q + k) - 48)) 100000 = 100000 by omega]
      rfl
  · unfold L_X12_number_44
    simp only []
    rw [u3_e, show q + (dE T n q - q) = dE T n q by omega, byT (MT_m h (mmv_u mmv_rfl (by decide))) d2]
    simp only [Option.bind]
    rw [digT h4, d4, ifb0]
theorem m_num {T : Nat → Nat} {n a b p : Nat} {M : Mem} (h : MS T n p M) (ha : a ≤ 1000) (hb : b ≤ 1000) : ok (f_X12_number (nI a) (nI b - 1) M) (fun r => MN T n (num T n a b p) r.1 r.2 ∧ mmv M r.2) := by
  obtain ⟨h1, h2, h3, h4⟩ := h
  have hs := sk_f (T := T) h2
  have hd := dE_f (T := T) hs.2.1
  have h6 := h1.2.1
  have hT : ∀ j, j < n → T j < 256 := fun j hj => (h1.2.2.2 j hj).2
  have mv : mmv M (am_u3 M 54 0 4 (nI (sk T n p))) := mmv_u mmv_rfl (by decide)
  have s1 : MS T n (sk T n p) (am_u3 M 54 0 4 (nI (sk T n p))) := ⟨MT_m h1 mv, hs.2.1, u3_e _ _ _ _ _, (u3_j (by omega)).trans h4⟩
  unfold f_X12_number
  refine ok_ifp h4 (ok_bindE (m_blanks h1 h2 h3) ?_)
  rw [u3_e]
  refine ok_bindE (byT s1.1 hs.2.1) ?_
  rw [digT hT]
  unfold num
  by_cases hc : dE T n (sk T n p) = sk T n p
  · have cd : cD T n (sk T n p) = false := by have := hd.2.2.2; rw [hc] at this; exact this
    rw [cd, if_pos hc]
    obtain ⟨b1, b2, b3⟩ := MS_b (k := 1) (q := sk T n p) s1 (by decide)
    have e3 : f_X12_wrong (nI 1) (nI (sk T n p)) (am_u3 M 54 0 4 (nI (sk T n p))) 54 0 4 = nI (sk T n p) := b3.trans (u3_e _ _ _ _ _)
    refine ok_ifp rfl (ok_bindE (m_numL b1.1 hs.2.1 e3) ?_)
    have es : am_u3 (f_X12_wrong 1 (nI (sk T n p)) (am_u3 M 54 0 4 (nI (sk T n p)))) 54 0 4 (nI (dE T n (sk T n p))) = f_X12_wrong 1 (nI (sk T n p)) (am_u3 M 54 0 4 (nI (sk T n p))) := u3_self (by rw [hc]; exact e3.symm)
    have b1 : MF T n 1 (sk T n p) (f_X12_wrong 1 (nI (sk T n p)) (am_u3 M 54 0 4 (nI (sk T n p)))) := b1
    rw [es]
    refine ok_if (fun _ => ?_) (fun _ => ?_)
    · rw [MF_b b1]
      exact ok_ifn (MF_ne b1) (ok_some ⟨⟨rfl, b1⟩, mmv_tr mv b2⟩)
    · exact ok_ifn (MF_ne b1) (ok_some ⟨⟨rfl, b1⟩, mmv_tr mv b2⟩)
  · have cd : cD T n (sk T n p) = true := hd.2.2.1 _ (Nat.le_refl _) (by omega)
    rw [cd, if_neg hc]
    refine ok_ifn (by decide) (ok_bindE (m_numL s1.1 hs.2.1 s1.2.2.1) ?_)
    rw [u3_u]
    have mv2 : mmv M (am_u3 M 54 0 4 (nI (dE T n (sk T n p)))) := mmv_u mmv_rfl (by decide)
    have s2 : MS T n (dE T n (sk T n p)) (am_u3 M 54 0 4 (nI (dE T n (sk T n p)))) := ⟨MT_m h1 mv2, hd.2.1, u3_e _ _ _ _ _, (u3_j (by omega)).trans h4⟩
    generalize nV T (sk T n p) (dE T n (sk T n p) - sk T n p) = V
    have hin : f_X12_in (nI (min V 100000)) (nI a) (nI b - 1) = 0 ↔ ¬ (a ≤ V ∧ V < b) := by
      rw [in_eq, lt_pred (by omega), nI_ltI (by omega) (by omega), nI_leI (by omega) (by omega)]
      omega
    by_cases hv : a ≤ V ∧ V < b
    · rw [if_pos hv]
      refine ok_ifn (fun z => hin.mp z hv) (ok_ifp s2.2.2.2 (ok_some ⟨⟨?_, s2⟩, mv2⟩))
      show nI (min V 100000) = nI V
      rw [Nat.min_eq_left (by omega)]
    · rw [if_neg hv]
      obtain ⟨b1, b2, -⟩ := MS_b (k := 2) (q := sk T n p) s2 (by decide)
      exact ok_ifp (hin.mpr hv) (ok_ifn (MF_ne b1) (ok_some ⟨⟨rfl, b1⟩, mmv_tr mv2 b2⟩))
theorem m_numF {T : Nat → Nat} {n k q : Nat} {x y : Int32} {M : Mem} (h : MF T n k q M) : f_X12_number x y M = some (0, M) := by
  unfold f_X12_number
  rw [if_neg (MF_ne h)]
theorem num_f {T : Nat → Nat} {n a b p e v : Nat} (hp : p ≤ n) (h : num T n a b p = Sum.inl (e, v)) : a ≤ v ∧ v < b ∧ p < e ∧ e ≤ n := by
  have hs := sk_f (T := T) hp
  have hd := dE_f (T := T) hs.2.1
  unfold num at h
  split at h
  · cases h
  · split at h
    · rename_i h1 h2
      injection h with h
      obtain ⟨rfl, rfl⟩ := Prod.mk.inj h
      exact ⟨h2.1, h2.2, by omega, hd.2.1⟩
    · cases h
