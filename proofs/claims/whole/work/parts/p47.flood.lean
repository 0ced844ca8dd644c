/-! FLOOD: sets as numbers -/
theorem pc_s (m k : Nat) : pcN m (k + 1) = pcN m k + (if m.testBit k = true then 1 else 0) := rfl
/-- what a set drains of a street's boards below d -/
def wN (dr : Nat → Nat) (f t m : Nat) : Nat → Nat
  | 0 => 0
  | d + 1 => wN dr f t m d + (if f ≤ d ∧ d ≤ t ∧ m.testBit d = true then dr d else 0)
def aN (dr : Nat → Nat) (f t : Nat) : Nat → Nat
  | 0 => 0
  | d + 1 => aN dr f t d + (if f ≤ d ∧ d ≤ t then dr d else 0)
def xN (dr : Nat → Nat) (f t : Nat) : Nat → Nat
  | 0 => 0
  | d + 1 => if f ≤ d ∧ d ≤ t ∧ xN dr f t d < dr d then dr d else xN dr f t d
theorem wN_s (dr : Nat → Nat) (f t m d : Nat) : wN dr f t m (d + 1) = wN dr f t m d + (if f ≤ d ∧ d ≤ t ∧ m.testBit d = true then dr d else 0) := rfl
theorem aN_s (dr : Nat → Nat) (f t d : Nat) : aN dr f t (d + 1) = aN dr f t d + (if f ≤ d ∧ d ≤ t then dr d else 0) := rfl
theorem xN_s (dr : Nat → Nat) (f t d : Nat) : xN dr f t (d + 1) = if f ≤ d ∧ d ≤ t ∧ xN dr f t d < dr d then dr d else xN dr f t d := rfl
theorem wN_c {dr : Nat → Nat} {f t m m' : Nat} : ∀ {d : Nat}, (∀ b, b < d → m.testBit b = m'.testBit b) → wN dr f t m d = wN dr f t m' d
  | 0, _ => rfl
  | d + 1, h => by rw [wN_s, wN_s, wN_c (fun b hb => h b (by omega)), h d (by omega)]
theorem pc_c {m m' : Nat} : ∀ {d : Nat}, (∀ b, b < d → m.testBit b = m'.testBit b) → pcN m d = pcN m' d
  | 0, _ => rfl
  | d + 1, h => by rw [pc_s, pc_s, pc_c (fun b hb => h b (by omega)), h d (by omega)]
theorem wN_lo {dr : Nat → Nat} {f t m d : Nat} (h : m < 2 ^ d) : wN dr f t m (d + 1) = wN dr f t m d := by
  rw [wN_s, Nat.testBit_lt_two_pow h, if_neg (fun z => by cases z.2.2)]
  rfl
theorem pc_lo {m d : Nat} (h : m < 2 ^ d) : pcN m (d + 1) = pcN m d := by
  rw [pc_s, Nat.testBit_lt_two_pow h]
  rfl
theorem hi_b {m d : Nat} (b : Nat) (hb : b < d) : (2 ^ d + m).testBit b = m.testBit b := Nat.testBit_two_pow_add_gt hb m
theorem hi_d {m d : Nat} (h : m < 2 ^ d) : (2 ^ d + m).testBit d = true := by rw [Nat.testBit_two_pow_add_eq, Nat.testBit_lt_two_pow h]; rfl
theorem wN_hi {dr : Nat → Nat} {f t m d : Nat} (h : m < 2 ^ d) : wN dr f t (2 ^ d + m) (d + 1) = wN dr f t m d + (if f ≤ d ∧ d ≤ t then dr d else 0) := by
  rw [wN_s, wN_c (m' := m) (fun b hb => hi_b b hb), hi_d h]
  simp
theorem pc_hi {m d : Nat} (h : m < 2 ^ d) : pcN (2 ^ d + m) (d + 1) = pcN m d + 1 := by
  rw [pc_s, pc_c (m' := m) (fun b hb => hi_b b hb), hi_d h]
  simp
theorem pc_ge {m d : Nat} (h : m < 2 ^ d) : ∀ e, pcN m (d + e) = pcN m d
  | 0 => rfl
  | e + 1 => by
    rw [show d + (e + 1) = (d + e) + 1 by omega, pc_lo (Nat.lt_of_lt_of_le h (Nat.pow_le_pow_right (by decide) (by omega)))]
    exact pc_ge h e
theorem pc_z (d : Nat) : pcN 0 d = 0 := by
  induction d with
  | zero => rfl
  | succ d ih => rw [pc_s, ih, Nat.zero_testBit]; rfl
theorem pc_0 {m : Nat} : ∀ {d : Nat}, m < 2 ^ d → pcN m d = 0 → m = 0
  | 0, h, _ => by omega
  | d + 1, h, e => by
    by_cases hm : m < 2 ^ d
    · rw [pc_lo hm] at e; exact pc_0 hm e
    · obtain ⟨m', rfl⟩ := Nat.exists_eq_add_of_le (Nat.not_lt.mp hm)
      rw [pc_hi (by rw [Nat.pow_succ] at h; omega)] at e
      omega
theorem pc_d (m : Nat) : ∀ d, pcN m d ≤ d
  | 0 => Nat.le_refl _
  | d + 1 => by
    rw [pc_s]
    have := pc_d m d
    split <;> omega
theorem wN_a (dr : Nat → Nat) (f t m : Nat) : ∀ d, wN dr f t m d ≤ aN dr f t d
  | 0 => Nat.le_refl _
  | d + 1 => by
    rw [wN_s, aN_s]
    have := wN_a dr f t m d
    split
    · rename_i h; rw [if_pos ⟨h.1, h.2.1⟩]; omega
    · omega
theorem wN_x (dr : Nat → Nat) (f t m : Nat) : ∀ d, wN dr f t m d ≤ pcN m d * xN dr f t d
  | 0 => Nat.zero_le _
  | d + 1 => by
    rw [wN_s, pc_s]
    have ih := wN_x dr f t m d
    have hx : xN dr f t d ≤ xN dr f t (d + 1) := by rw [xN_s]; split <;> omega
    have h1 : pcN m d * xN dr f t d ≤ pcN m d * xN dr f t (d + 1) := Nat.mul_le_mul_left _ hx
    by_cases h : f ≤ d ∧ d ≤ t ∧ m.testBit d = true
    · rw [if_pos h, if_pos h.2.2, Nat.add_mul, Nat.one_mul]
      have h2 : dr d ≤ xN dr f t (d + 1) := by
        rw [xN_s]
        by_cases hh : xN dr f t d < dr d
        · rw [if_pos ⟨h.1, h.2.1, hh⟩]; exact Nat.le_refl _
        · rw [if_neg (fun z => hh z.2.2)]; omega
      omega
    · rw [if_neg h, Nat.add_mul]
      omega
theorem aN_b {dr : Nat → Nat} {f t : Nat} (h : ∀ b, dr b ≤ 9) : ∀ d, aN dr f t d ≤ 9 * d
  | 0 => Nat.le_refl _
  | d + 1 => by
    rw [aN_s]
    have := aN_b (f := f) (t := t) h d
    have := h d
    split <;> omega
theorem xN_b {dr : Nat → Nat} {f t : Nat} (h : ∀ b, dr b ≤ 9) : ∀ d, xN dr f t d ≤ 9
  | 0 => Nat.zero_le _
  | d + 1 => by
    rw [xN_s]
    have := xN_b (f := f) (t := t) h d
    have := h d
    split <;> omega
theorem aN_out {dr : Nat → Nat} {f t lo : Nat} : ∀ e, (∀ b, lo ≤ b → b < lo + e → ¬ (f ≤ b ∧ b ≤ t)) → aN dr f t (lo + e) = aN dr f t lo
  | 0, _ => rfl
  | e + 1, h => by
    rw [show lo + (e + 1) = (lo + e) + 1 by omega, aN_s, if_neg (h (lo + e) (by omega) (by omega)), aN_out e (fun b h1 h2 => h b h1 (by omega))]
    rfl
theorem xN_out {dr : Nat → Nat} {f t lo : Nat} : ∀ e, (∀ b, lo ≤ b → b < lo + e → ¬ (f ≤ b ∧ b ≤ t)) → xN dr f t (lo + e) = xN dr f t lo
  | 0, _ => rfl
  | e + 1, h => by
    rw [show lo + (e + 1) = (lo + e) + 1 by omega, xN_s, if_neg (fun z => h (lo + e) (by omega) (by omega) ⟨z.1, z.2.1⟩), xN_out e (fun b h1 h2 => h b h1 (by omega))]
theorem wN_out {dr : Nat → Nat} {f t m lo : Nat} : ∀ e, (∀ b, lo ≤ b → b < lo + e → ¬ (f ≤ b ∧ b ≤ t)) → wN dr f t m (lo + e) = wN dr f t m lo
  | 0, _ => rfl
  | e + 1, h => by
    rw [show lo + (e + 1) = (lo + e) + 1 by omega, wN_s, if_neg (fun z => h (lo + e) (by omega) (by omega) ⟨z.1, z.2.1⟩), wN_out e (fun b h1 h2 => h b h1 (by omega))]
    rfl
/-- k of d BOARDS do for what lacks -/
def Gd (ns : Nat) (dr f t : Nat → Nat) (la : Nat → Int) (d k m : Nat) : Prop := m < 2 ^ d ∧ pcN m d = k ∧ ∀ s, s < ns → la s ≤ (wN dr (f s) (t s) m d : Int)
def Bst (ns : Nat) (dr f t : Nat → Nat) (la : Nat → Int) (d k m : Nat) : Prop := Gd ns dr f t la d k m ∧ ∀ m', Gd ns dr f t la d k m' → m ≤ m'
/-- what lacks, BOARD d chosen -/
def laD (dr f t : Nat → Nat) (d : Nat) (la : Nat → Int) : Nat → Int := fun s => la s - (if f s ≤ d ∧ d ≤ t s then (dr d : Int) else 0)
theorem Gd_lo {ns : Nat} {dr f t : Nat → Nat} {la : Nat → Int} {d k m : Nat} (h : m < 2 ^ d) : Gd ns dr f t la (d + 1) k m ↔ Gd ns dr f t la d k m := by
  unfold Gd
  rw [pc_lo h]
  constructor
  · rintro ⟨-, h2, h3⟩
    exact ⟨h, h2, fun s hs => by rw [← wN_lo h]; exact h3 s hs⟩
  · rintro ⟨-, h2, h3⟩
    exact ⟨by rw [Nat.pow_succ]; omega, h2, fun s hs => by rw [wN_lo h]; exact h3 s hs⟩
theorem Gd_hi {ns : Nat} {dr f t : Nat → Nat} {la : Nat → Int} {d k m : Nat} (h : m < 2 ^ d) (hk : 1 ≤ k) : Gd ns dr f t la (d + 1) k (2 ^ d + m) ↔ Gd ns dr f t (laD dr f t d la) d (k - 1) m := by
  unfold Gd laD
  rw [pc_hi h]
  constructor
  · rintro ⟨-, h2, h3⟩
    refine ⟨h, by omega, fun s hs => ?_⟩
    have := h3 s hs
    rw [wN_hi h] at this
    split
    · rename_i hc; rw [if_pos hc] at this; omega
    · rename_i hc; rw [if_neg hc] at this; omega
  · rintro ⟨-, h2, h3⟩
    refine ⟨by rw [Nat.pow_succ]; omega, by omega, fun s hs => ?_⟩
    have := h3 s hs
    rw [wN_hi h]
    split at this
    · rename_i hc; rw [if_pos hc]; omega
    · rename_i hc; rw [if_neg hc]; omega
theorem Bst_lo {ns : Nat} {dr f t : Nat → Nat} {la : Nat → Int} {d k m : Nat} (h : Bst ns dr f t la d k m) : Bst ns dr f t la (d + 1) k m := by
  refine ⟨(Gd_lo h.1.1).mpr h.1, fun m' h' => ?_⟩
  by_cases hm : m' < 2 ^ d
  · exact h.2 m' ((Gd_lo hm).mp h')
  · have := h.1.1; omega
theorem Bst_hi {ns : Nat} {dr f t : Nat → Nat} {la : Nat → Int} {d k m : Nat} (hk : 1 ≤ k) (h0 : ∀ m, ¬ Gd ns dr f t la d k m) (h : Bst ns dr f t (laD dr f t d la) d (k - 1) m) : Bst ns dr f t la (d + 1) k (2 ^ d + m) := by
  refine ⟨(Gd_hi h.1.1 hk).mpr h.1, fun m' h' => ?_⟩
  by_cases hm : m' < 2 ^ d
  · exact absurd ((Gd_lo hm).mp h') (h0 m')
  · obtain ⟨m'', rfl⟩ := Nat.exists_eq_add_of_le (Nat.not_lt.mp hm)
    have h2 : m'' < 2 ^ d := by have := h'.1; rw [Nat.pow_succ] at this; omega
    have := h.2 m'' ((Gd_hi h2 hk).mp h')
    omega
theorem Gd_no {ns : Nat} {dr f t : Nat → Nat} {la : Nat → Int} {d k : Nat} (hk : 1 ≤ k) (h0 : ∀ m, ¬ Gd ns dr f t la d k m) (h1 : ∀ m, ¬ Gd ns dr f t (laD dr f t d la) d (k - 1) m) : ∀ m, ¬ Gd ns dr f t la (d + 1) k m := by
  intro m h
  by_cases hm : m < 2 ^ d
  · exact h0 m ((Gd_lo hm).mp h)
  · obtain ⟨m'', rfl⟩ := Nat.exists_eq_add_of_le (Nat.not_lt.mp hm)
    have h2 : m'' < 2 ^ d := by have := h.1; rw [Nat.pow_succ] at this; omega
    exact h1 m'' ((Gd_hi h2 hk).mp h)
