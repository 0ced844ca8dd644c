/-! HOW MANY BITS -/
theorem bt_nI (a : Nat) {i : Nat} (hi : i < 32) : bt (nI a) i = a.testBit i := by
  unfold bt nI
  rw [Int32.toBitVec_ofNat', BitVec.getLsbD_ofNat, decide_eq_true hi, Bool.true_and]
theorem nI_and (a b : Nat) : nI a &&& nI b = nI (a &&& b) := by
  apply b_ext
  intro i hi
  rw [b_and, bt_nI _ hi, bt_nI _ hi, bt_nI _ hi, Nat.testBit_and]
theorem nI_ush {m n : Nat} (hm : m < 2 ^ 31) (hn : n < 32) : ((nI m).toUInt32 >>> ((nI n).toUInt32 &&& Int32.toUInt32 31)).toInt32 = nI (m >>> n) := by
  apply b_ext
  intro i hi
  rw [b_ushr n hn, bt_nI _ hi, Nat.testBit_shiftRight]
  by_cases h : n + i < 32
  · rw [bt_nI _ h]
  · rw [b_big (by omega)]
    symm
    apply Nat.testBit_lt_two_pow
    exact Nat.lt_of_lt_of_le hm (Nat.pow_le_pow_right (by decide) (by omega))
def s1 (n : Nat) : Nat := n - (n >>> 1 &&& 1431655765)
def s2 (y : Nat) : Nat := (y &&& 858993459) + (y >>> 2 &&& 858993459)
def s3 (y : Nat) : Nat := y + y >>> 4 &&& 252645135
def s4 (y : Nat) : Nat := y + y >>> 8
def s5 (y : Nat) : Nat := y + y >>> 16 &&& 63
theorem land_split (a m : Nat) : a &&& m = 256 * ((a / 256) &&& (m / 256)) + ((a % 256) &&& (m % 256)) := by
  have h1 : (a &&& m) / 2 ^ 8 = (a / 2 ^ 8) &&& (m / 2 ^ 8) := Nat.and_div_two_pow
  have h2 : (a &&& m) % 2 ^ 8 = (a % 2 ^ 8) &&& (m % 2 ^ 8) := Nat.and_mod_two_pow
  have h3 := Nat.div_add_mod (a &&& m) (2 ^ 8)
  rw [h1, h2] at h3
  exact h3.symm
theorem k1 : ∀ z, z < 256 → z &&& 5592405 = z &&& 85 := by decide +kernel
theorem k2 : ∀ z, z < 256 → z &&& 3355443 = z &&& 51 := by decide +kernel
theorem k3 : ∀ z, z < 256 → z &&& 986895 = z &&& 15 := by decide +kernel
theorem k4 : ∀ z, z < 256 → z &&& 85 = (z % 128) &&& 85 := by decide +kernel
theorem k5 : ∀ z, z < 256 → z &&& 51 = (z % 64) &&& 51 := by decide +kernel
theorem p1_le : ∀ z, z < 256 → z / 2 &&& 85 ≤ z := by decide +kernel
/-- of a byte -/
def q1b (l : Nat) : Nat := l - (l / 2 &&& 85)
def q2b (y : Nat) : Nat := (y &&& 51) + (y / 4 &&& 51)
def q3b (y : Nat) : Nat := (y + y / 16) &&& 15
def pcb (l : Nat) : Nat := q3b (q2b (q1b l))
def pcN (n : Nat) : Nat → Nat
  | 0 => 0
  | k + 1 => pcN n k + (if n.testBit k = true then 1 else 0)
theorem pcb_eq : ∀ l, l < 256 → pcb l = pcN l 8 := by decide +kernel
theorem q1_lt : ∀ l, l < 256 → q1b l < 256 := by decide +kernel
theorem q2_lt : ∀ l, l < 256 → q2b (q1b l) < 119 := by decide +kernel
theorem q3_le : ∀ l, l < 256 → pcb l ≤ 8 := by decide +kernel
theorem k6 : ∀ y, y < 119 → (y + y / 16) &&& 15 = (y + y / 16) % 16 := by decide +kernel
theorem s1_eq {h l : Nat} (hh : h < 256) (hl : l < 256) : s1 (256 * h + l) = 256 * q1b h + q1b l := by
  unfold s1 q1b
  rw [Nat.shiftRight_eq_div_pow, land_split, show (256 * h + l) / 2 ^ 1 / 256 = h / 2 by omega, show (1431655765 : Nat) / 256 = 5592405 by decide, show (1431655765 : Nat) % 256 = 85 by decide, k1 _ (by omega), k4 ((256 * h + l) / 2 ^ 1 % 256) (by omega), show (256 * h + l) / 2 ^ 1 % 256 % 128 = l / 2 by omega]
  have a1 := p1_le h hh
  have a2 := p1_le l hl
  omega
theorem s2_eq {h l : Nat} (hh : h < 256) (hl : l < 256) : s2 (256 * h + l) = 256 * q2b h + q2b l := by
  unfold s2 q2b
  rw [Nat.shiftRight_eq_div_pow, land_split (256 * h + l), land_split ((256 * h + l) / 2 ^ 2), show (256 * h + l) / 2 ^ 2 / 256 = h / 4 by omega, show (256 * h + l) / 256 = h by omega, show (256 * h + l) % 256 = l by omega, show (858993459 : Nat) / 256 = 3355443 by decide, show (858993459 : Nat) % 256 = 51 by decide, k2 _ (by omega), k2 _ (by omega), k5 ((256 * h + l) / 2 ^ 2 % 256) (by omega), show (256 * h + l) / 2 ^ 2 % 256 % 64 = l / 4 by omega]
  omega
theorem k7 : ∀ l, l < 256 → q2b (q1b l) % 16 ≤ 4 ∧ q2b (q1b l) / 16 ≤ 4 := by decide +kernel
theorem s3_eq {h l : Nat} (hh : h < 256) (hl : l < 256) : s3 (256 * q2b (q1b h) + q2b (q1b l)) = 256 * pcb h + pcb l := by
  have a1 := k7 h hh
  have a2 := k7 l hl
  have b1 := q2_lt h hh
  have b2 := q2_lt l hl
  have c1 := k6 _ b1
  have c2 := k6 _ b2
  unfold s3 pcb q3b
  rw [Nat.shiftRight_eq_div_pow]
  generalize q2b (q1b h) = H at *
  generalize q2b (q1b l) = L at *
  rw [land_split, show (252645135 : Nat) / 256 = 986895 by decide, show (252645135 : Nat) % 256 = 15 by decide, k3 _ (by omega)]
  have e1 : ((256 * H + L + (256 * H + L) / 2 ^ 4) / 256) &&& 15 = (H + H / 16) &&& 15 := by
    rw [show (256 * H + L + (256 * H + L) / 2 ^ 4) / 256 = H + H / 16 by omega]
  have e2 : ((256 * H + L + (256 * H + L) / 2 ^ 4) % 256) &&& 15 = (L + L / 16) &&& 15 := by
    have f1 : ∀ z, z < 256 → z &&& 15 = z % 16 := by decide +kernel
    rw [f1 _ (Nat.mod_lt _ (by decide)), c2]
    omega
  rw [e1, e2]
theorem pop_eq {h l : Nat} (hh : h < 256) (hl : l < 256) : s5 (s4 (s3 (s2 (s1 (256 * h + l))))) = pcb h + pcb l := by
  rw [s1_eq hh hl, s2_eq (q1_lt h hh) (q1_lt l hl), s3_eq hh hl]
  have a1 := q3_le h hh
  have a2 := q3_le l hl
  unfold s4 s5
  rw [Nat.shiftRight_eq_div_pow, Nat.shiftRight_eq_div_pow]
  generalize pcb h = H at *
  generalize pcb l = L at *
  rw [show (256 * H + L) / 2 ^ 8 = H by omega, show (256 * H + L + H) / 2 ^ 16 = 0 by omega, Nat.add_zero, land_split, show (63 : Nat) / 256 = 0 by decide, show (63 : Nat) % 256 = 63 by decide, Nat.and_zero, show (256 * H + L + H) % 256 = L + H by omega]
  have f1 : ∀ z, z < 64 → z &&& 63 = z := by decide +kernel
  rw [f1 _ (by omega)]
  omega
theorem pcN_split {h l : Nat} (hl : l < 256) : pcN (256 * h + l) 16 = pcN h 8 + pcN l 8 := by
  have t1 : ∀ k, k < 8 → (256 * h + l).testBit k = l.testBit k := by
    intro k hk
    rw [show 256 * h + l = 2 ^ 8 * h + l from rfl, Nat.testBit_two_pow_mul_add h hl, if_pos hk]
  have t2 : ∀ k, (256 * h + l).testBit (k + 8) = h.testBit k := by
    intro k
    rw [show 256 * h + l = 2 ^ 8 * h + l from rfl, Nat.testBit_two_pow_mul_add h hl, if_neg (by omega), show k + 8 - 8 = k by omega]
  have a : ∀ k, k ≤ 8 → pcN (256 * h + l) k = pcN l k := by
    intro k
    induction k with
    | zero => intro _; rfl
    | succ k ih => intro hk; rw [pcN, pcN, ih (by omega), t1 k (by omega)]
  have b : ∀ k, pcN (256 * h + l) (k + 8) = pcN h k + pcN l 8 := by
    intro k
    induction k with
    | zero => rw [Nat.zero_add, a 8 (by omega)]; simp [pcN]
    | succ k ih => rw [show k + 1 + 8 = (k + 8) + 1 by omega, pcN, ih, t2 k, show pcN h (k + 1) = pcN h k + (if h.testBit k = true then 1 else 0) from rfl]; omega
  exact b 8
theorem bcI_nI {n : Nat} (hn : n < 65536) : bcI (nI n) = nI (pcN n 16) := by
  obtain ⟨h, l, hh, hl, rfl⟩ : ∃ h l, h < 256 ∧ l < 256 ∧ n = 256 * h + l := ⟨n / 256, n % 256, by omega, by omega, by omega⟩
  have e := pop_eq hh hl
  have g1 := s1_eq hh hl
  have g2 := s2_eq (q1_lt h hh) (q1_lt l hl)
  have g3 := s3_eq hh hl
  have b1 := q1_lt h hh
  have b2 := q1_lt l hl
  have b3 := q2_lt h hh
  have b4 := q2_lt l hl
  have b5 := q3_le h hh
  have b6 := q3_le l hl
  rw [pcN_split hl, ← pcb_eq h hh, ← pcb_eq l hl, ← e]
  have le1 : (256 * h + l) >>> 1 &&& 1431655765 ≤ 256 * h + l := Nat.le_trans Nat.and_le_left (by rw [Nat.shiftRight_eq_div_pow]; omega)
  have z1 : nI (256 * h + l) - (((nI (256 * h + l)).toUInt32 >>> ((1 : Int32).toUInt32 &&& Int32.toUInt32 31)).toInt32 &&& 1431655765) = nI (s1 (256 * h + l)) := by
    rw [show ((nI (256 * h + l)).toUInt32 >>> ((1 : Int32).toUInt32 &&& Int32.toUInt32 31)).toInt32 = nI ((256 * h + l) >>> 1) from nI_ush (n := 1) (by omega) (by decide), show (1431655765 : Int32) = nI 1431655765 from rfl, nI_and, nI_sub le1]
    rfl
  have z2 : ∀ y, y < 2 ^ 31 → (nI y &&& 858993459) + (((nI y).toUInt32 >>> ((2 : Int32).toUInt32 &&& Int32.toUInt32 31)).toInt32 &&& 858993459) = nI (s2 y) := by
    intro y hy
    rw [show ((nI y).toUInt32 >>> ((2 : Int32).toUInt32 &&& Int32.toUInt32 31)).toInt32 = nI (y >>> 2) from nI_ush (n := 2) hy (by decide), show (858993459 : Int32) = nI 858993459 from rfl, nI_and, nI_and, nI_add]
    rfl
  have z3 : ∀ y, y < 2 ^ 31 → (nI y + ((nI y).toUInt32 >>> ((4 : Int32).toUInt32 &&& Int32.toUInt32 31)).toInt32) &&& 252645135 = nI (s3 y) := by
    intro y hy
    rw [show ((nI y).toUInt32 >>> ((4 : Int32).toUInt32 &&& Int32.toUInt32 31)).toInt32 = nI (y >>> 4) from nI_ush (n := 4) hy (by decide), show (252645135 : Int32) = nI 252645135 from rfl, nI_add, nI_and]
    rfl
  have z4 : ∀ y, y < 2 ^ 31 → nI y + ((nI y).toUInt32 >>> ((8 : Int32).toUInt32 &&& Int32.toUInt32 31)).toInt32 = nI (s4 y) := by
    intro y hy
    rw [show ((nI y).toUInt32 >>> ((8 : Int32).toUInt32 &&& Int32.toUInt32 31)).toInt32 = nI (y >>> 8) from nI_ush (n := 8) hy (by decide), nI_add]
    rfl
  have z5 : ∀ y, y < 2 ^ 31 → (nI y + ((nI y).toUInt32 >>> ((16 : Int32).toUInt32 &&& Int32.toUInt32 31)).toInt32) &&& 63 = nI (s5 y) := by
    intro y hy
    rw [show ((nI y).toUInt32 >>> ((16 : Int32).toUInt32 &&& Int32.toUInt32 31)).toInt32 = nI (y >>> 16) from nI_ush (n := 16) hy (by decide), show (63 : Int32) = nI 63 from rfl, nI_add, nI_and]
    rfl
  unfold bcI
  rw [z1, z2 _ (by rw [g1]; omega), z3 _ (by rw [g1, g2]; omega), z4 _ (by rw [g1, g2, g3]; omega), z5 _ (by rw [g1, g2, g3]; unfold s4; rw [Nat.shiftRight_eq_div_pow]; omega)]
theorem sum_pcN (n : Nat) : ∀ k, k ≤ 32 → sumN (fun j => if bt (nI n) j = true then 1 else 0) k = nI (pcN n k)
  | 0, _ => rfl
  | k + 1, hk => by
    rw [sumN_s, sum_pcN n k (by omega), pcN, bt_nI n (by omega)]
    split
    · exact nI_1 _
    · exact add00 _
theorem ones_eq (x : Int32) : f_X12_ones x = some (sumN (fun j => if bt x j = true then 1 else 0) 16) := by
  unfold f_X12_ones
  have key : wh (L_X12_ones_4 x) FU ((0 : Int32), (0 : Int32)) = some (sumN (fun j => if bt x j = true then 1 else 0) 16) := by
    refine wh_for (fun k => (sumN (fun j => if bt x j = true then 1 else 0) k, nI k)) 16 _ (by decide) ?_ ?_
    · intro k hk
      unfold L_X12_ones_4
      simp only []
      rw [if_neg (show ¬ (16 : Int32) ≤ nI k from nI_ge (b := 16) hk (by decide)), bit1_bt x (by omega), nI_1, sumN_s]
    · rfl
  rw [key]
  rfl
/-- few bits are a small number -/
theorem small_bits {x : Int32} {n : Nat} (hn : n ≤ 30) (h : ∀ j, n ≤ j → j < 32 → bt x j = false) : ∃ m, m < 2 ^ n ∧ x = nI m := by
  refine ⟨x.toBitVec.toNat, ?_, ?_⟩
  · apply Nat.lt_pow_two_of_testBit
    intro i hi
    by_cases h32 : i < 32
    · exact h i hi h32
    · exact Nat.testBit_lt_two_pow (Nat.lt_of_lt_of_le x.toBitVec.isLt (Nat.pow_le_pow_right (by decide) (by omega)))
  · apply b_ext
    intro i hi
    rw [bt_nI _ hi]
    rfl
theorem bc_ones {x : Int32} (h : ∀ j, 16 ≤ j → j < 32 → bt x j = false) : bcI x = sumN (fun j => if bt x j = true then 1 else 0) 16 := by
  obtain ⟨m, hm, rfl⟩ := small_bits (n := 16) (by decide) h
  rw [bcI_nI hm, sum_pcN m 16 (by decide)]
