/-! sums, bits, copies as functions -/
def sumN (f : Nat → Int32) : Nat → Int32
  | 0 => 0
  | k + 1 => sumN f k + f k
theorem sumN_s (f : Nat → Int32) (k : Nat) : sumN f (k + 1) = sumN f k + f k := rfl
theorem sumN_cong {f g : Nat → Int32} : ∀ {n : Nat}, (∀ k, k < n → f k = g k) → sumN f n = sumN g n
  | 0, _ => rfl
  | n + 1, h => by rw [sumN_s, sumN_s, sumN_cong (fun k hk => h k (by omega)), h n (by omega)]
def bitsN (f : Nat → Bool) : Nat → Int32
  | 0 => 0
  | k + 1 => bitsN f k ||| (if f k = true then (1 : Int32) <<< (nI k &&& 31) else 0)
theorem bitsN_s (f : Nat → Bool) (k : Nat) : bitsN f (k + 1) = bitsN f k ||| (if f k = true then (1 : Int32) <<< (nI k &&& 31) else 0) := rfl
theorem bitsN_cong {f g : Nat → Bool} : ∀ {n : Nat}, (∀ k, k < n → f k = g k) → bitsN f n = bitsN g n
  | 0, _ => rfl
  | n + 1, h => by rw [bitsN_s, bitsN_s, bitsN_cong (fun k hk => h k (by omega)), h n (by omega)]
def bt (x : Int32) (i : Nat) : Bool := x.toBitVec.getLsbD i
theorem b_ext {x y : Int32} (h : ∀ i, i < 32 → bt x i = bt y i) : x = y := Int32.toBitVec_inj.mp (BitVec.eq_of_getLsbD_eq (fun i hi => h i hi))
theorem b_or (x y : Int32) (i : Nat) : bt (x ||| y) i = (bt x i || bt y i) := by unfold bt; rw [Int32.toBitVec_or, BitVec.getLsbD_or]
theorem b_and (x y : Int32) (i : Nat) : bt (x &&& y) i = (bt x i && bt y i) := by unfold bt; rw [Int32.toBitVec_and, BitVec.getLsbD_and]
theorem b_xor (x y : Int32) (i : Nat) : bt (x ^^^ y) i = (bt x i ^^ bt y i) := by unfold bt; rw [Int32.toBitVec_xor, BitVec.getLsbD_xor]
theorem b_big {x : Int32} {i : Nat} (h : 32 ≤ i) : bt x i = false := BitVec.getLsbD_of_ge _ _ h
theorem b_255 (i : Nat) : bt 255 i = decide (i < 8) := by
  rcases Nat.lt_or_ge i 32 with h | h
  · exact (by decide +kernel : ∀ i, i < 32 → bt 255 i = decide (i < 8)) i h
  · rw [b_big h, decide_eq_false (by omega)]
theorem b_65535 (i : Nat) : bt 65535 i = decide (i < 16) := by
  rcases Nat.lt_or_ge i 32 with h | h
  · exact (by decide +kernel : ∀ i, i < 32 → bt 65535 i = decide (i < 16)) i h
  · rw [b_big h, decide_eq_false (by omega)]
theorem b_m1 : ∀ i, i < 32 → bt (-1) i = true := by decide +kernel
theorem b_0 (i : Nat) : bt 0 i = false := BitVec.getLsbD_zero
theorem s_l : ∀ n, n < 32 → ((nI n &&& 31).toBitVec.smod 32).toNat = n := by decide +kernel
theorem s_u : ∀ n, n < 32 → (((nI n).toUInt32 &&& Int32.toUInt32 31).toBitVec % 32).toNat = n := by decide +kernel
theorem b_shl (n : Nat) (hn : n < 32) (x : Int32) {i : Nat} (hi : i < 32) : bt (x <<< (nI n &&& 31)) i = (decide (n ≤ i) && bt x (i - n)) := by
  unfold bt
  rw [Int32.toBitVec_shiftLeft]
  show (x.toBitVec <<< ((nI n &&& 31).toBitVec.smod 32).toNat).getLsbD i = _
  rw [s_l n hn, BitVec.getLsbD_shiftLeft]
  rcases Nat.lt_or_ge i n with h | h
  · simp [h, Nat.not_le.mpr h]
  · simp [hi, h, Nat.not_lt.mpr h]
theorem b_ushr (n : Nat) (hn : n < 32) (x : Int32) (i : Nat) : bt ((x.toUInt32 >>> ((nI n).toUInt32 &&& Int32.toUInt32 31)).toInt32) i = bt x (n + i) := by
  show (x.toUInt32 >>> ((nI n).toUInt32 &&& Int32.toUInt32 31)).toBitVec.getLsbD i = x.toUInt32.toBitVec.getLsbD (n + i)
  rw [UInt32.toBitVec_shiftRight]
  show (x.toUInt32.toBitVec >>> (((nI n).toUInt32 &&& Int32.toUInt32 31).toBitVec % 32).toNat).getLsbD i = _
  rw [s_u n hn, BitVec.getLsbD_ushiftRight]
theorem b_sshr (n : Nat) (hn : n < 32) (x : Int32) {i : Nat} (hi : i < 32) : bt (x >>> (nI n &&& 31)) i = if n + i < 32 then bt x (n + i) else bt x 31 := by
  unfold bt
  rw [Int32.toBitVec_shiftRight]
  show (x.toBitVec.sshiftRight ((nI n &&& 31).toBitVec.smod 32).toNat).getLsbD i = _
  rw [s_l n hn, BitVec.getLsbD_sshiftRight, BitVec.msb_eq_getLsbD_last]
  simp [hi]
theorem b_1 (i : Nat) : bt 1 i = decide (i = 0) := by
  rcases Nat.lt_or_ge i 32 with h | h
  · exact (by decide +kernel : ∀ i, i < 32 → bt 1 i = decide (i = 0)) i h
  · rw [b_big h, decide_eq_false (by omega)]
/-- one bit -/
theorem b_one {k i : Nat} (hk : k < 32) (hi : i < 32) : bt ((1 : Int32) <<< (nI k &&& 31)) i = decide (i = k) := by
  rw [b_shl k hk 1 hi, b_1]
  by_cases h : i = k
  · simp [h]
  · by_cases h2 : k ≤ i
    · simp [h, h2]; omega
    · simp [h, h2]
theorem bt_bitsN (f : Nat → Bool) : ∀ {n i : Nat}, n ≤ 32 → i < 32 → bt (bitsN f n) i = (decide (i < n) && f i)
  | 0, i, _, hi => by simp [bitsN, b_0]
  | n + 1, i, hn, hi => by
    rw [bitsN_s, b_or, bt_bitsN f (by omega) hi]
    by_cases hf : f n = true
    · rw [if_pos hf, b_one (by omega) hi]
      by_cases h : i = n
      · subst h; simp [hf]
      · have : (decide (i < n + 1)) = decide (i < n) := by simp; omega
        simp [h, this]
    · rw [if_neg hf, b_0]
      by_cases h : i = n
      · subst h; simp [hf]
      · have : (decide (i < n + 1)) = decide (i < n) := by simp; omega
        simp [this]
theorem isBit_bt (x : Int32) {k : Nat} (hk : k < 32) : f_X11_isBitOf x (nI k) = if bt x k = true then 1 else 0 := by
  unfold f_X11_isBitOf
  have key : ((x >>> (nI k &&& 31)) &&& 1 = 1) ↔ bt x k = true := by
    constructor
    · intro h
      have h1 : bt ((x >>> (nI k &&& 31)) &&& 1) 0 = bt 1 0 := by rw [h]
      rw [b_and, b_sshr k hk x (by omega), b_1] at h1
      simpa [hk] using h1
    · intro h
      apply b_ext
      intro i hi
      rw [b_and, b_1]
      by_cases h0 : i = 0
      · subst h0
        rw [b_sshr k hk x (by omega)]
        simp [hk, h]
      · simp [h0]
  by_cases h : bt x k = true
  · rw [if_pos (key.mpr h), if_pos h]
  · rw [if_neg (fun z => h (key.mp z)), if_neg h]
theorem bit1_bt (x : Int32) {k : Nat} (hk : k < 32) : (x >>> (nI k &&& 31)) &&& 1 = if bt x k = true then 1 else 0 := by
  apply b_ext
  intro i hi
  rw [b_and, b_1]
  by_cases h0 : i = 0
  · subst h0
    rw [b_sshr k hk x (by omega)]
    by_cases h : bt x k = true
    · rw [if_pos h, b_1]; simp [hk, h]
    · rw [if_neg h, b_0]; simp [hk, h]
  · by_cases h : bt x k = true
    · rw [if_pos h, b_1]; simp [h0]
    · rw [if_neg h, b_0]; simp [h0]
/-- a bit set, a bit cleared -/
theorem bitsN_set (f : Nat → Bool) {n k : Nat} (hn : n ≤ 32) (hk : k < n) : bitsN f n ||| ((1 : Int32) <<< (nI k &&& 31)) = bitsN (fun b => if b = k then true else f b) n := by
  apply b_ext
  intro i hi
  rw [b_or, bt_bitsN f hn hi, b_one (by omega) hi, bt_bitsN _ hn hi]
  by_cases h : i = k
  · subst h; simp [hk]
  · simp [h]
theorem bitsN_clear (f : Nat → Bool) {n k : Nat} (hn : n ≤ 32) (hk : k < n) : bitsN f n &&& (((1 : Int32) <<< (nI k &&& 31)) ^^^ (-1)) = bitsN (fun b => if b = k then false else f b) n := by
  apply b_ext
  intro i hi
  rw [b_and, bt_bitsN f hn hi, b_xor, b_one (by omega) hi, b_m1 i hi, bt_bitsN _ hn hi]
  by_cases h : i = k
  · subst h; simp
  · simp [h]
theorem has_bt (x : Int32) {k : Nat} (hk : k < 32) : f_X12_has x (nI k) = if bt x k = true then 1 else 0 := isBit_bt x hk
theorem isBit0 (x : Int32) {k : Nat} (hk : k < 32) : f_X11_isBitOf x (nI k) = 0 ↔ bt x k = false := by
  rw [isBit_bt x hk]
  cases bt x k <;> decide
theorem has0 (x : Int32) {k : Nat} (hk : k < 32) : f_X12_has x (nI k) = 0 ↔ bt x k = false := isBit0 x hk
theorem b_not (x : Int32) {i : Nat} (hi : i < 32) : bt (x ^^^ (-1)) i = !(bt x i) := by rw [b_xor, b_m1 i hi, Bool.xor_true]
theorem bitsN_eq {f : Nat → Bool} {n : Nat} {x : Int32} (hn : n ≤ 32) (h : ∀ i, i < n → bt x i = f i) (h2 : ∀ i, n ≤ i → i < 32 → bt x i = false) : x = bitsN f n := by
  apply b_ext
  intro i hi
  rw [bt_bitsN f hn hi]
  by_cases h3 : i < n
  · rw [h i h3, decide_eq_true h3, Bool.true_and]
  · rw [h2 i (by omega) hi, decide_eq_false h3, Bool.false_and]
theorem bitsN_sf (f : Nat → Bool) (k : Nat) (h : f k = false) : bitsN f (k + 1) = bitsN f k ||| 0 := by rw [bitsN_s, if_neg (by rw [h]; decide)]
theorem bitsN_st (f : Nat → Bool) (k : Nat) (h : f k = true) : bitsN f (k + 1) = bitsN f k ||| ((1 : Int32) <<< (nI k &&& 31)) := by rw [bitsN_s, if_pos h]
