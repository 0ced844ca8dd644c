/-! walk, reach -/
/-- BOARDS that bear w and are not open -/
def frm (qc : Nat) (M : Mem) (w : Int32) : Int32 := bitsN (fun b => decide (¬ M 5 0 b < w)) (nB M) &&& (openA qc M (M 30 0) 0 ^^^ (-1))
theorem c_bear {M : Mem} {w : Int32} {n : Nat} (e : M 3 0 0 = nI n) (h16 : n ≤ 16) : f_X1_bearing w M = some (bitsN (fun b => decide (¬ M 5 0 b < w)) n) := by
  unfold f_X1_bearing
  have key : wh (L_X1_bearing_4 w M) FU ((0 : Int32), (0 : Int32)) = some (bitsN (fun b => decide (¬ M 5 0 b < w)) n) := by
    refine wh_for (fun k => (bitsN (fun b => decide (¬ M 5 0 b < w)) k, nI k)) n _ (by omega) ?_ ?_
    · intro k hk
      unfold L_X1_bearing_4
      simp only []
      rw [e, if_neg (nI_ge hk (by omega)), if_pos (inb_n (by omega) (by decide)), nI_clamp (by omega), nI_1, bitsN_s]
      by_cases hc : M 5 0 k < w
      · rw [if_pos hc, if_neg (by simp [hc])]
      · rw [if_neg hc, if_pos (by simp [hc])]
    · unfold L_X1_bearing_4
      simp only []
      rw [e, if_pos (nI_le (Nat.le_refl _) (by omega))]
  rw [key]; rfl
theorem frm_b {qc : Nat} {M : Mem} {w : Int32} (hn : nB M ≤ 16) {b : Nat} (hb : b < 32) : bt (frm qc M w) b = (decide (b < nB M) && decide (¬ M 5 0 b < w) && !(bt (openA qc M (M 30 0) 0) b)) := by
  unfold frm
  rw [b_and, bt_bitsN _ (by omega) hb, b_not _ hb]
theorem neg1_mul (x : Int32) : (-1 : Int32) * x = -x := by grind
theorem one_mul' (x : Int32) : (1 : Int32) * x = x := by grind
theorem k_walk {qc qs qd : Nat} {M : Mem} {a b w : Nat} (h : Rel qc qs M) (ha : a < nB M) (hb : b < nB M) (hw : w ≤ 20) : ok (f_X11_walk qc qd (nI a) (nI b) (nI w) M) (fun r => r.1 = .inl (enc (tw (bt (frm qc M (nI w))) a b)) ∧ asks M r.2 ∧ cch qc r.2) := by
  have hn := R_n16 h
  unfold f_X11_walk
  refine ok_bindE (bdT (bd_n (R_eB h) (by omega) ha)) (ok_bindE (bdT (bd_n (R_eB h) (by omega) hb)) (ok_bindE (fitT (fit_n (n := 20) (by decide) hw)) (ok_bindE (c_bear (R_eB h) hn) (ok_bind (c_openNow h.1 (R_cch h)) ?_))))
  rintro ⟨v, M1⟩ ⟨rfl, f1, c1⟩
  simp only at f1 c1
  have o1 : OL qc M M1 := ⟨f1, c1⟩
  show ok (if nI a ≤ nI b then (if f_X11_isBitOf (frm qc M (nI w)) (nI a) = 0 then _ else _) else (if f_X11_isBitOf (frm qc M (nI w)) (nI a) = 0 then _ else _)) _
  have st : ∀ F : Nat → Bool, F 0 = bt (frm qc M (nI w)) a → enc (dw F 0) = if bt (frm qc M (nI w)) a = true then 1 else -1 := by
    intro F hF
    unfold dw dwp
    rw [hF]
    cases bt (frm qc M (nI w)) a <;> rfl
  rw [isBit_bt _ (show a < 32 by omega)]
  by_cases hab : a ≤ b
  · refine ok_ifp (nI_le hab (by omega)) ?_
    have efar : (if 0 ≤ nI b - nI a then nI b - nI a else 0 - (nI b - nI a)) = nI (b - a) := by rw [nI_sub hab, if_pos (nI_pos' (by omega))]
    have key := c_way (qc := qc) (qd := qd) (x1 := nI a) (x4 := frm qc M (nI w)) (x5 := 1) (F := fR (bt (frm qc M (nI w))) a) (far := b - a) (by omega) (fun k h1 h2 => by rw [one_mul', nI_add, isBit_bt _ (by omega)]; rfl)
    have et : tw (bt (frm qc M (nI w))) a b = dw (fR (bt (frm qc M (nI w))) a) (b - a) := by unfold tw; rw [if_pos hab]
    rw [← efar, st (fR (bt (frm qc M (nI w))) a) rfl] at key
    cases hh : bt (frm qc M (nI w)) a
    · rw [hh] at key
      exact ok_ifp rfl (ok_bindE key (ok_some ⟨by rw [et], OL_end o1⟩))
    · rw [hh] at key
      exact ok_ifn (by decide) (ok_bindE key (ok_some ⟨by rw [et], OL_end o1⟩))
  · refine ok_ifn (nI_ge (by omega) (by omega)) ?_
    have efar : (if 0 ≤ nI b - nI a then nI b - nI a else 0 - (nI b - nI a)) = nI (a - b) := by
      have e1 : nI b - nI a = - nI (a - b) := by rw [← nI_sub (by omega : b ≤ a)]; grind
      have : ∀ d, d < 17 → 0 < d → ¬ (0 : Int32) ≤ - nI d := by decide +kernel
      rw [e1, if_neg (this (a - b) (by omega) (by omega))]
      grind
    have key := c_way (qc := qc) (qd := qd) (x1 := nI a) (x4 := frm qc M (nI w)) (x5 := -1) (F := fL (bt (frm qc M (nI w))) a) (far := a - b) (by omega) (fun k h1 h2 => by
      have : nI a + -1 * nI k = nI (a - k) := by rw [neg1_mul, ← Int32.sub_eq_add_neg, nI_sub (by omega)]
      rw [this, isBit_bt _ (by omega)]
      unfold fL
      rw [decide_eq_true (show k ≤ a by omega), Bool.true_and])
    have et : tw (bt (frm qc M (nI w))) a b = dw (fL (bt (frm qc M (nI w))) a) (a - b) := by unfold tw; rw [if_neg hab]
    rw [← efar, st (fL (bt (frm qc M (nI w))) a) (by unfold fL; simp)] at key
    cases hh : bt (frm qc M (nI w)) a
    · rw [hh] at key
      exact ok_ifp rfl (ok_bindE key (ok_some ⟨by rw [et], OL_end o1⟩))
    · rw [hh] at key
      exact ok_ifn (by decide) (ok_bindE key (ok_some ⟨by rw [et], OL_end o1⟩))
/-- what has been trodden by round m, ahead of BOARD b -/
def trd (fm : Nat → Bool) (a m b x : Nat) : Int32 := if tw fm a x ≠ 0 ∧ tw fm a x ≤ (if x < b then m + 1 else m) then nI (tw fm a x) else -1
theorem trd_m {fm : Nat → Bool} {a m b x : Nat} (hm : 1 ≤ m) (hm2 : m < 100) (ht : tw fm a x < 100) : trd fm a m b x = nI m ↔ tw fm a x = m := by
  unfold trd
  constructor
  · intro z
    by_cases hc : tw fm a x ≠ 0 ∧ tw fm a x ≤ (if x < b then m + 1 else m)
    · rw [if_pos hc] at z
      exact (nI_eq (by omega) (by omega)).mp z
    · rw [if_neg hc] at z
      exact absurd z.symm (nI_m1 (by omega))
  · intro z
    rw [if_pos (show tw fm a x ≠ 0 ∧ tw fm a x ≤ (if x < b then m + 1 else m) from ⟨by omega, by split <;> omega⟩), z]
def hitP (fm : Nat → Bool) (a m lo up : Nat) (v : Int32) : Prop := (v = nI (m + 1) ∧ ∃ x, lo ≤ x ∧ x < up ∧ tw fm a x = m) ∨ (v = -1 ∧ ∀ x, lo ≤ x → x < up → tw fm a x ≠ m)
theorem m_round {fm : Nat → Bool} {M : Mem} {a b m n : Nat} (eN : M 58 0 0 = nI n) (hn : n ≤ 16) (ha : a < n) (hb : b < n) (hm : 1 ≤ m) (hm2 : m ≤ 16) (hfb : fm b = true) (hv : ∀ x, x < n → M 81 0 x = trd fm a m b x) (hnb : M 81 0 b = -1) : ok (wh (L_X12_walks_135 (nI m) (nI b)) FU (f_X12_more 0 (nI b - 2), M)) (fun M' => fr [81] M M' ∧ ∀ x, x < n → M' 81 0 x = trd fm a m (b + 1) x) := by
  have hbd : ∀ x, x < n → tw fm a x < 100 := fun x hx => by have := tw_bound fm ha hx; omega
  have e0 : f_X12_more 0 (nI b - 2) = nI (b - 2) := by
    have : ∀ b, b < 16 → f_X12_more 0 (nI b - 2) = nI (b - 2) := by decide +kernel
    exact this b (by omega)
  have e1 : f_X12_less (nI n - 1) (nI b + 2) = nI (min (n - 1) (b + 2)) := by
    have : ∀ n, n < 17 → ∀ b, b < 16 → b < n → f_X12_less (nI n - 1) (nI b + 2) = nI (min (n - 1) (b + 2)) := by decide +kernel
    exact this n (by omega) b (by omega) hb
  obtain ⟨hi, ehi, hi1, hi2, hi3⟩ : ∃ hi, min (n - 1) (b + 2) = hi ∧ hi ≤ n - 1 ∧ hi ≤ b + 2 ∧ (hi = n - 1 ∨ hi = b + 2) := ⟨_, rfl, Nat.min_le_left _ _, Nat.min_le_right _ _, by omega⟩
  rw [ehi] at e1
  have htb : tw fm a b = 0 ∨ m < tw fm a b := by
    have := hv b hb
    rw [hnb] at this
    unfold trd at this
    rw [if_neg (show ¬ b < b by omega)] at this
    by_cases h0 : tw fm a b = 0
    · exact Or.inl h0
    · right
      rcases Nat.lt_or_ge m (tw fm a b) with z | z
      · exact z
      · rw [if_pos ⟨h0, z⟩] at this
        exact absurd this.symm (nI_m1 (by have := hbd b hb; omega))
  have oth : ∀ x, x < n → x ≠ b → trd fm a m (b + 1) x = trd fm a m b x := by
    intro x hx hxb
    unfold trd
    by_cases hlt : x < b
    · rw [if_pos hlt, if_pos (show x < b + 1 by omega)]
    · rw [if_neg hlt, if_neg (show ¬ x < b + 1 by omega)]
  rw [e0]
  refine ok_wh (fun k s => s.1 = nI (b - 2 + k) ∧ fr [81] M s.2 ∧ (∀ x, x ≠ b → s.2 81 0 x = M 81 0 x) ∧ hitP fm a m (b - 2) (b - 2 + k) (s.2 81 0 b)) (hi + 1 - (b - 2)) ⟨rfl, fr_rfl, fun _ _ => rfl, Or.inr ⟨hnb, fun x h1 h2 => by omega⟩⟩ (by omega) ?_ ?_
  · rintro k ⟨y, M1⟩ hk ⟨e2, f1, o1, d1⟩
    simp only at e2 f1 o1 d1
    subst e2
    have hxn : b - 2 + k < n := by omega
    unfold L_X12_walks_135
    simp only [f1 58 (by decide), eN, e1, nI_clamp (show b - 2 + k < 2 ^ 31 by omega), nI_clamp (show b < 2 ^ 31 by omega)]
    refine ok_ifn (nI_nlt (by omega) (by omega)) (ok_ifp (inb_n (by omega) (by decide)) ?_)
    have hit : M1 81 0 (b - 2 + k) = nI m ↔ tw fm a (b - 2 + k) = m := by
      by_cases hxb : b - 2 + k = b
      · rw [hxb]
        constructor
        · intro z
          rcases d1 with ⟨d, -⟩ | ⟨d, -⟩
          · rw [d] at z
            have := (nI_eq (by omega) (by omega)).mp z
            omega
          · rw [d] at z
            exact absurd z.symm (nI_m1 (by omega))
        · intro z; omega
      · rw [o1 _ hxb, hv _ hxn]
        exact trd_m hm (by omega) (hbd _ hxn)
    by_cases hc : M1 81 0 (b - 2 + k) = nI m
    · refine ok_ifp hc (ok_ifp (inb_n (by omega) (by decide)) (ok_some ⟨?_, fr_u3 f1 (by decide), fun x hx => ?_, Or.inl ⟨?_, b - 2 + k, by omega, by omega, hit.mp hc⟩⟩))
      · show nI (b - 2 + k) + 1 = _
        rw [nI_1, Nat.add_assoc]
      · show am_u3 M1 81 0 b (nI m + 1) 81 0 x = _
        rw [u3_j (by omega)]; exact o1 x hx
      · show am_u3 M1 81 0 b (nI m + 1) 81 0 b = _
        rw [u3_e, nI_1]
    · have es : am_u3 M1 81 0 b (M1 81 0 b) = M1 := u3_self rfl
      rw [es]
      refine ok_ifn hc (ok_ifp (inb_n (by omega) (by decide)) (ok_some ⟨?_, f1, o1, ?_⟩))
      · show nI (b - 2 + k) + 1 = _
        rw [nI_1, Nat.add_assoc]
      · rcases d1 with ⟨d, x, x1, x2, x3⟩ | ⟨d, dx⟩
        · exact Or.inl ⟨d, x, x1, by omega, x3⟩
        · refine Or.inr ⟨d, fun x x1 x2 => ?_⟩
          by_cases hxk : x = b - 2 + k
          · rw [hxk]; exact fun z => hc (hit.mpr z)
          · exact dx x x1 (by omega)
  · rintro ⟨y, M1⟩ ⟨e2, f1, o1, d1⟩
    simp only at e2 f1 o1 d1
    subst e2
    unfold L_X12_walks_135
    simp only [f1 58 (by decide), eN, e1]
    refine ok_ifp (nI_lt (by omega) (by omega)) (ok_some ⟨f1, fun x hx => ?_⟩)
    by_cases hxb : x = b
    · subst hxb
      unfold trd
      rw [if_pos (show x < x + 1 by omega)]
      rcases d1 with ⟨d, y, y1, y2, y3⟩ | ⟨d, dx⟩
      · have g1 : y ≤ x + 2 := by omega
        have g2 : x ≤ y + 2 := by omega
        have g3 : y < n := by omega
        have := (tw_next (m := m) ha hb hfb htb hm).mp ⟨y, g1, g2, g3, y3⟩
        rw [d, if_pos ⟨by omega, by omega⟩, this]
      · have : ¬ tw fm a x = m + 1 := by
          intro z
          obtain ⟨y, y1, y2, y3, y4⟩ := (tw_next (m := m) ha hb hfb htb hm).mpr z
          exact dx y (by omega) (by omega) y4
        rw [d, if_neg (by omega)]
    · rw [oth x hx hxb, o1 x hxb]; exact hv x hx
