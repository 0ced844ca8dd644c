/-! OPENERS: counting sets by windows -/
def cn (p : Nat → Bool) : Nat → Nat
  | 0 => 0
  | N + 1 => cn p N + (if p N = true then 1 else 0)
def nsm (f : Nat → Nat) : Nat → Nat
  | 0 => 0
  | N + 1 => nsm f N + f N
theorem cn_s (p : Nat → Bool) (N : Nat) : cn p (N + 1) = cn p N + (if p N = true then 1 else 0) := rfl
theorem nsm_s (f : Nat → Nat) (N : Nat) : nsm f (N + 1) = nsm f N + f N := rfl
theorem cn_c {p q : Nat → Bool} : ∀ {N : Nat}, (∀ m, m < N → p m = q m) → cn p N = cn q N
  | 0, _ => rfl
  | N + 1, h => by rw [cn_s, cn_s, cn_c (fun m hm => h m (by omega)), h N (by omega)]
theorem nsm_c {f g : Nat → Nat} : ∀ {N : Nat}, (∀ m, m < N → f m = g m) → nsm f N = nsm g N
  | 0, _ => rfl
  | N + 1, h => by rw [nsm_s, nsm_s, nsm_c (fun m hm => h m (by omega)), h N (by omega)]
theorem nsm_a (f g : Nat → Nat) : ∀ N, nsm (fun v => f v + g v) N = nsm f N + nsm g N
  | 0 => rfl
  | N + 1 => by rw [nsm_s, nsm_s, nsm_s, nsm_a f g N]; omega
theorem nsm_0 {f : Nat → Nat} : ∀ {N : Nat}, (∀ m, m < N → f m = 0) → nsm f N = 0
  | 0, _ => rfl
  | N + 1, h => by rw [nsm_s, nsm_0 (fun m hm => h m (by omega)), h N (by omega)]
theorem nsm_1 {f : Nat → Nat} {c : Nat} : ∀ {N : Nat}, c < N → (∀ m, m < N → m ≠ c → f m = 0) → nsm f N = f c
  | 0, h, _ => by omega
  | N + 1, h, h0 => by
    rw [nsm_s]
    by_cases e : c = N
    · subst e
      rw [nsm_0 (fun m hm => h0 m (by omega) (by omega)), Nat.zero_add]
    · rw [nsm_1 (show c < N by omega) (fun m hm hc => h0 m (by omega) hc), h0 N (by omega) (by omega)]
      rfl
theorem cn_add (p : Nat → Bool) (a : Nat) : ∀ c, cn p (a + c) = cn p a + cn (fun m => p (a + m)) c
  | 0 => rfl
  | c + 1 => by rw [← Nat.add_assoc, cn_s, cn_add p a c, cn_s]; omega
theorem cn_0 {p : Nat → Bool} : ∀ {N : Nat}, (∀ m, m < N → p m = false) → cn p N = 0
  | 0, _ => rfl
  | N + 1, h => by rw [cn_s, cn_0 (fun m hm => h m (by omega)), h N (by omega)]; rfl
theorem cn_le (p : Nat → Bool) : ∀ N, cn p N ≤ N
  | 0 => Nat.le_refl _
  | N + 1 => by
    rw [cn_s]
    have := cn_le p N
    split <;> omega
theorem cn_mono {p q : Nat → Bool} : ∀ {N : Nat}, (∀ m, m < N → p m = true → q m = true) → cn p N ≤ cn q N
  | 0, _ => Nat.le_refl _
  | N + 1, h => by
    rw [cn_s, cn_s]
    have h1 := cn_mono (p := p) (q := q) (N := N) (fun m hm => h m (by omega))
    by_cases hp : p N = true
    · rw [if_pos hp, if_pos (h N (by omega) hp)]; omega
    · rw [if_neg hp]; omega
theorem cn_pos {p : Nat → Bool} : ∀ {N : Nat}, 0 < cn p N ↔ ∃ m, m < N ∧ p m = true
  | 0 => ⟨fun h => (by cases h), fun ⟨m, hm, _⟩ => (by cases hm)⟩
  | N + 1 => by
    rw [cn_s]
    constructor
    · intro h
      by_cases hp : p N = true
      · exact ⟨N, by omega, hp⟩
      · rw [if_neg hp] at h
        obtain ⟨m, h1, h2⟩ := cn_pos.mp h
        exact ⟨m, by omega, h2⟩
    · rintro ⟨m, h1, h2⟩
      by_cases e : m = N
      · subst e; rw [if_pos h2]; omega
      · have := cn_pos.mpr ⟨m, show m < N by omega, h2⟩
        omega
theorem cn_z {p : Nat → Bool} {N : Nat} : cn p N = 0 ↔ ∀ m, m < N → p m = false := by
  constructor
  · intro h m hm
    cases hp : p m
    · rfl
    · have := cn_pos.mpr ⟨m, hm, hp⟩
      omega
  · exact cn_0
/-- two counts are one if nothing is left out -/
theorem cn_eq {p q : Nat → Bool} : ∀ {N : Nat}, (∀ m, m < N → p m = true → q m = true) → (cn p N = cn q N ↔ ∀ m, m < N → q m = true → p m = true)
  | 0, _ => ⟨fun _ m hm => (by cases hm), fun _ => rfl⟩
  | N + 1, h => by
    have ih := cn_eq (p := p) (q := q) (N := N) (fun m hm => h m (by omega))
    have mo := cn_mono (p := p) (q := q) (N := N) (fun m hm => h m (by omega))
    rw [cn_s, cn_s]
    constructor
    · intro e
      have h1 : cn p N = cn q N ∧ (q N = true → p N = true) := by
        by_cases hp : p N = true
        · rw [if_pos hp, if_pos (h N (by omega) hp)] at e
          exact ⟨by omega, fun _ => hp⟩
        · rw [if_neg hp] at e
          by_cases hq : q N = true
          · rw [if_pos hq] at e; omega
          · rw [if_neg hq] at e; exact ⟨by omega, fun z => absurd z hq⟩
      intro m hm hq
      by_cases em : m = N
      · subst em; exact h1.2 hq
      · exact ih.mp h1.1 m (by omega) hq
    · intro hh
      have e1 := ih.mpr (fun m hm => hh m (by omega))
      by_cases hp : p N = true
      · rw [if_pos hp, if_pos (h N (by omega) hp), e1]
      · rw [if_neg hp, if_neg (fun z => hp (hh N (by omega) z)), e1]
theorem cn_bit (p c : Nat → Bool) : ∀ N, cn p N = cn (fun m => p m && !(c m)) N + cn (fun m => p m && c m) N
  | 0 => rfl
  | N + 1 => by
    rw [cn_s, cn_s, cn_s, cn_bit p c N]
    cases p N <;> cases c N <;> simp <;> omega
/-- a count, by the values of g -/
theorem cn_part {A G : Nat → Bool} {g : Nat → Nat} {W : Nat} : ∀ {N : Nat}, (∀ m, m < N → g m < W) → cn (fun m => A m && G (g m)) N = nsm (fun v => if G v = true then cn (fun m => A m && decide (g m = v)) N else 0) W
  | 0, _ => by
    rw [nsm_0]
    · rfl
    · intro m _; split <;> rfl
  | N + 1, h => by
    have hg := h N (by omega)
    rw [cn_s, cn_part (fun m hm => h m (by omega))]
    have e : nsm (fun v => if G v = true then cn (fun m => A m && decide (g m = v)) (N + 1) else 0) W = nsm (fun v => (if G v = true then cn (fun m => A m && decide (g m = v)) N else 0) + (if G v = true ∧ A N = true ∧ g N = v then 1 else 0)) W := by
      refine nsm_c (fun v hv => ?_)
      by_cases hG : G v = true
      · rw [if_pos hG, if_pos hG, cn_s]
        by_cases hA : A N = true ∧ g N = v
        · rw [if_pos (show (A N && decide (g N = v)) = true by rw [hA.1, decide_eq_true hA.2]; rfl), if_pos (show G v = true ∧ A N = true ∧ g N = v from ⟨hG, hA⟩)]
        · rw [if_neg (show ¬ (A N && decide (g N = v)) = true from fun z => hA (by simpa using z)), if_neg (show ¬ (G v = true ∧ A N = true ∧ g N = v) from fun z => hA z.2)]
      · rw [if_neg hG, if_neg hG, if_neg (fun z => hG z.1)]
    rw [e, nsm_a]
    congr 1
    rw [nsm_1 hg (fun v hv hne => if_neg (fun z => hne z.2.2.symm))]
    cases A N <;> cases G (g N) <;> simp
/-- the window of the K + 1 BOARDS below c -/
def wd (K c m : Nat) : Nat := m * 2 ^ (K + 1) / 2 ^ c
def bh (K v o : Nat) : Nat := v / 2 + o * 2 ^ K
theorem wd_lt {K c m : Nat} (h : m < 2 ^ c) : wd K c m < 2 ^ (K + 1) := by
  unfold wd
  rw [Nat.div_lt_iff_lt_mul (Nat.two_pow_pos c), Nat.mul_comm]
  exact Nat.mul_lt_mul_of_pos_left h (Nat.two_pow_pos _)
theorem wd_hi {K b m o : Nat} : wd K (b + 1) (m + 2 ^ b * o) = bh K (wd K b m) o := by
  unfold wd bh
  have e1 : (m + 2 ^ b * o) * 2 ^ (K + 1) = m * 2 ^ (K + 1) + 2 ^ (b + 1) * (o * 2 ^ K) := by
    rw [Nat.add_mul, Nat.pow_succ, Nat.pow_succ]
    congr 1
    rw [Nat.mul_assoc, Nat.mul_assoc, Nat.mul_comm (2 ^ K) 2, ← Nat.mul_assoc o 2, Nat.mul_comm o 2, Nat.mul_assoc]
  rw [e1, Nat.add_mul_div_left _ _ (Nat.two_pow_pos _), Nat.div_div_eq_div_mul, Nat.pow_succ 2 b]
theorem wd_lo {K b m : Nat} : wd K (b + 1) m = bh K (wd K b m) 0 := by
  have := wd_hi (K := K) (b := b) (m := m) (o := 0)
  rw [Nat.mul_zero, Nat.add_zero] at this
  exact this
theorem wd_h1 {K b m : Nat} : wd K (b + 1) (2 ^ b + m) = bh K (wd K b m) 1 := by
  have := wd_hi (K := K) (b := b) (m := m) (o := 1)
  rw [Nat.mul_one, Nat.add_comm m] at this
  exact this
theorem wd_mod {K b m : Nat} : wd K (b + 1) (m % 2 ^ (b + 1)) = bh K (wd K b (m % 2 ^ b)) (m / 2 ^ b % 2) := by rw [Nat.mod_pow_succ, wd_hi]
def opP (K : Nat) (rg : Nat → Nat → Bool) : Nat → Nat → Bool
  | 0, _ => true
  | b + 1, m => opP K rg b m && rg b (wd K (b + 1) (m % 2 ^ (b + 1)))
theorem opP_s (K : Nat) (rg : Nat → Nat → Bool) (b m : Nat) : opP K rg (b + 1) m = (opP K rg b m && rg b (wd K (b + 1) (m % 2 ^ (b + 1)))) := rfl
theorem opP_c {K : Nat} {rg : Nat → Nat → Bool} {m m' : Nat} : ∀ {b : Nat}, m % 2 ^ b = m' % 2 ^ b → opP K rg b m = opP K rg b m'
  | 0, _ => rfl
  | b + 1, h => by
    rw [opP_s, opP_s, h]
    congr 1
    refine opP_c ?_
    have := congrArg (· % 2 ^ b) h
    simp only [Nat.pow_succ, Nat.mod_mul_right_mod] at this
    exact this
theorem opP_iff {K : Nat} {rg : Nat → Nat → Bool} {m : Nat} : ∀ {n : Nat}, opP K rg n m = true ↔ ∀ b, b < n → rg b (wd K (b + 1) (m % 2 ^ (b + 1))) = true
  | 0 => ⟨fun _ b hb => (by cases hb), fun _ => rfl⟩
  | n + 1 => by
    rw [opP_s, Bool.and_eq_true, opP_iff]
    constructor
    · rintro ⟨h1, h2⟩ b hb
      by_cases e : b = n
      · subst e; exact h2
      · exact h1 b (by omega)
    · intro h
      exact ⟨fun b hb => h b (by omega), h n (by omega)⟩
theorem opP_lo {K : Nat} {rg : Nat → Nat → Bool} {b m : Nat} (h : m < 2 ^ b) : opP K rg (b + 1) m = (opP K rg b m && rg b (bh K (wd K b m) 0)) := by
  rw [opP_s, Nat.mod_eq_of_lt (by rw [Nat.pow_succ]; omega), wd_lo]
theorem opP_h1 {K : Nat} {rg : Nat → Nat → Bool} {b m : Nat} (h : m < 2 ^ b) : opP K rg (b + 1) (2 ^ b + m) = (opP K rg b m && rg b (bh K (wd K b m) 1)) := by
  rw [opP_s, Nat.mod_eq_of_lt (by rw [Nat.pow_succ]; omega), wd_h1]
  congr 1
  exact opP_c (by rw [Nat.add_mod_left])
/-- sets below BOARD b that are right, by their window -/
def tO (K : Nat) (rg : Nat → Nat → Bool) (b v : Nat) : Nat := cn (fun m => opP K rg b m && decide (wd K b m = v)) (2 ^ b)
theorem tO_0 (K : Nat) (rg : Nat → Nat → Bool) (v : Nat) : tO K rg 0 v = if v = 0 then 1 else 0 := by
  unfold tO
  rw [Nat.pow_zero, cn_s]
  show 0 + (if (opP K rg 0 0 && decide (wd K 0 0 = v)) = true then 1 else 0) = _
  have : wd K 0 0 = 0 := by unfold wd; rw [Nat.zero_mul, Nat.zero_div]
  rw [this]
  by_cases h : v = 0
  · rw [if_pos h, decide_eq_true h.symm]; rfl
  · rw [if_neg h, decide_eq_false (fun z => h z.symm)]; rfl
def tF (K : Nat) (rg : Nat → Nat → Bool) (b u v : Nat) : Nat := (if bh K v 0 = u ∧ rg b u = true then tO K rg b v else 0) + (if bh K v 1 = u ∧ rg b u = true then tO K rg b v else 0)
theorem tO_s (K : Nat) (rg : Nat → Nat → Bool) (b u : Nat) : tO K rg (b + 1) u = nsm (tF K rg b u) (2 ^ (K + 1)) := by
  have half : ∀ o, cn (fun m => opP K rg b m && (rg b (bh K (wd K b m) o) && decide (bh K (wd K b m) o = u))) (2 ^ b) = nsm (fun v => if bh K v o = u ∧ rg b u = true then tO K rg b v else 0) (2 ^ (K + 1)) := by
    intro o
    rw [cn_part (A := fun m => opP K rg b m) (G := fun v => rg b (bh K v o) && decide (bh K v o = u)) (g := fun m => wd K b m) (W := 2 ^ (K + 1)) (fun m hm => wd_lt hm)]
    refine nsm_c (fun v hv => ?_)
    by_cases hc : bh K v o = u ∧ rg b u = true
    · rw [if_pos hc, if_pos (by rw [hc.1, hc.2]; simp)]; rfl
    · rw [if_neg hc, if_neg]
      intro z
      rw [Bool.and_eq_true, decide_eq_true_eq] at z
      exact hc ⟨z.2, by rw [← z.2]; exact z.1⟩
  unfold tF
  rw [nsm_a, ← half 0, ← half 1]
  unfold tO
  rw [show (2 : Nat) ^ (b + 1) = 2 ^ b + 2 ^ b by rw [Nat.pow_succ]; omega, cn_add]
  congr 1
  · refine cn_c (fun m hm => ?_)
    rw [opP_lo hm, wd_lo, Bool.and_assoc]
  · refine cn_c (fun m hm => ?_)
    rw [opP_h1 hm, wd_h1, Bool.and_assoc]
/-- ways to go on over r BOARDS from b on -/
def eX (K : Nat) (rg : Nat → Nat → Bool) : Nat → Nat → Nat → Nat
  | 0, _, _ => 1
  | r + 1, b, v => (if rg b (bh K v 0) = true then eX K rg r (b + 1) (bh K v 0) else 0) + (if rg b (bh K v 1) = true then eX K rg r (b + 1) (bh K v 1) else 0)
theorem eX_s (K : Nat) (rg : Nat → Nat → Bool) (r b v : Nat) : eX K rg (r + 1) b v = (if rg b (bh K v 0) = true then eX K rg r (b + 1) (bh K v 0) else 0) + (if rg b (bh K v 1) = true then eX K rg r (b + 1) (bh K v 1) else 0) := rfl
theorem eX_cn (K : Nat) (rg : Nat → Nat → Bool) : ∀ (r b w : Nat) (q : Nat → Bool), cn (fun m => opP K rg (b + r) m && (q (m % 2 ^ b) && decide (wd K b (m % 2 ^ b) = w))) (2 ^ (b + r)) = cn (fun m => opP K rg b m && (q m && decide (wd K b m = w))) (2 ^ b) * eX K rg r b w
  | 0, b, w, q => by
    show _ = _ * 1
    rw [Nat.mul_one, Nat.add_zero]
    refine cn_c (fun m hm => ?_)
    rw [Nat.mod_eq_of_lt hm]
  | r + 1, b, w, q => by
    rw [show b + (r + 1) = b + 1 + r by omega, eX_s, Nat.mul_add, cn_bit _ (fun m => decide (m / 2 ^ b % 2 = 1))]
    have step : ∀ o, o < 2 → cn (fun m => opP K rg (b + 1 + r) m && ((q (m % 2 ^ (b + 1) % 2 ^ b) && decide (wd K b (m % 2 ^ (b + 1) % 2 ^ b) = w) && decide (m % 2 ^ (b + 1) / 2 ^ b % 2 = o)) && decide (wd K (b + 1) (m % 2 ^ (b + 1)) = bh K w o))) (2 ^ (b + 1 + r)) = cn (fun m => opP K rg b m && (q m && decide (wd K b m = w))) (2 ^ b) * (if rg b (bh K w o) = true then eX K rg r (b + 1) (bh K w o) else 0) := by
      intro o ho
      rw [eX_cn K rg r (b + 1) (bh K w o) (fun m => q (m % 2 ^ b) && decide (wd K b (m % 2 ^ b) = w) && decide (m / 2 ^ b % 2 = o))]
      have half : cn (fun m => opP K rg (b + 1) m && ((q (m % 2 ^ b) && decide (wd K b (m % 2 ^ b) = w) && decide (m / 2 ^ b % 2 = o)) && decide (wd K (b + 1) m = bh K w o))) (2 ^ (b + 1)) = if rg b (bh K w o) = true then cn (fun m => opP K rg b m && (q m && decide (wd K b m = w))) (2 ^ b) else 0 := by
        rw [show (2 : Nat) ^ (b + 1) = 2 ^ b + 2 ^ b by rw [Nat.pow_succ]; omega, cn_add]
        have part : ∀ i, i < 2 → ∀ f : Nat → Nat, (∀ m, m < 2 ^ b → f m % 2 ^ b = m ∧ f m / 2 ^ b % 2 = i ∧ opP K rg (b + 1) (f m) = (opP K rg b m && rg b (bh K (wd K b m) i)) ∧ wd K (b + 1) (f m) = bh K (wd K b m) i) → cn (fun m => opP K rg (b + 1) (f m) && ((q (f m % 2 ^ b) && decide (wd K b (f m % 2 ^ b) = w) && decide (f m / 2 ^ b % 2 = o)) && decide (wd K (b + 1) (f m) = bh K w o))) (2 ^ b) = if i = o ∧ rg b (bh K w o) = true then cn (fun m => opP K rg b m && (q m && decide (wd K b m = w))) (2 ^ b) else 0 := by
          intro i hi f hf
          by_cases hio : i = o ∧ rg b (bh K w o) = true
          · rw [if_pos hio]
            refine cn_c (fun m hm => ?_)
            obtain ⟨f1, f2, f3, f4⟩ := hf m hm
            rw [f1, f2, f3, f4, hio.1]
            by_cases hw : wd K b m = w
            · rw [hw, hio.2]; simp
            · rw [decide_eq_false hw]; simp
          · rw [if_neg hio]
            refine cn_0 (fun m hm => ?_)
            obtain ⟨f1, f2, f3, f4⟩ := hf m hm
            rw [f1, f2, f3, f4]
            by_cases hw : wd K b m = w
            · rw [hw]
              by_cases hi2 : i = o
              · have hr : rg b (bh K w o) = false := by
                  cases h : rg b (bh K w o)
                  · rfl
                  · exact absurd ⟨hi2, h⟩ hio
                rw [hi2, hr]; simp
              · rw [decide_eq_false hi2]; simp
            · rw [decide_eq_false hw]; simp
        have p0 := part 0 (by decide) (fun m => m) (fun m hm => ⟨Nat.mod_eq_of_lt hm, by rw [Nat.div_eq_of_lt hm], opP_lo hm, wd_lo⟩)
        have p1 := part 1 (by decide) (fun m => 2 ^ b + m) (fun m hm => ⟨by rw [Nat.add_mod_left, Nat.mod_eq_of_lt hm], by rw [Nat.add_div_left _ (Nat.two_pow_pos b), Nat.div_eq_of_lt hm], opP_h1 hm, wd_h1⟩)
        rw [p0, p1]
        have : o = 0 ∨ o = 1 := by omega
        rcases this with rfl | rfl
        · by_cases hr : rg b (bh K w 0) = true
          · rw [if_pos ⟨rfl, hr⟩, if_neg (fun z => by cases z.1), if_pos hr]; rfl
          · rw [if_neg (fun z => hr z.2), if_neg (fun z => by cases z.1), if_neg hr]
        · by_cases hr : rg b (bh K w 1) = true
          · rw [if_neg (fun z => by cases z.1), if_pos ⟨rfl, hr⟩, if_pos hr, Nat.zero_add]
          · rw [if_neg (fun z => by cases z.1), if_neg (fun z => hr z.2), if_neg hr]
      rw [half]
      split
      · rfl
      · rw [Nat.zero_mul, Nat.mul_zero]
    rw [← step 0 (by decide), ← step 1 (by decide)]
    have dm : ∀ m, m % 2 ^ (b + 1) / 2 ^ b % 2 = m / 2 ^ b % 2 := by
      intro m
      rw [Nat.mod_pow_succ, Nat.add_comm, Nat.mul_add_div (Nat.two_pow_pos b), Nat.div_eq_of_lt (Nat.mod_lt _ (Nat.two_pow_pos b)), Nat.add_zero, Nat.mod_mod]
    have mm : ∀ m, m % 2 ^ (b + 1) % 2 ^ b = m % 2 ^ b := by
      intro m
      rw [Nat.pow_succ, Nat.mod_mul_right_mod]
    congr 1
    · refine cn_c (fun m hm => ?_)
      rw [mm, dm, wd_mod]
      have h2 : m / 2 ^ b % 2 = 0 ∨ m / 2 ^ b % 2 = 1 := by omega
      by_cases hw : wd K b (m % 2 ^ b) = w
      · rcases h2 with h2 | h2
        · rw [h2, hw]; simp
        · rw [h2]; simp
      · rw [decide_eq_false hw]; simp
    · refine cn_c (fun m hm => ?_)
      rw [mm, dm, wd_mod]
      have h2 : m / 2 ^ b % 2 = 0 ∨ m / 2 ^ b % 2 = 1 := by omega
      by_cases hw : wd K b (m % 2 ^ b) = w
      · rcases h2 with h2 | h2
        · rw [h2]; simp
        · rw [h2, hw]; simp
      · rw [decide_eq_false hw]; simp
/-- all sets that are right, by their window below BOARD b -/
theorem tO_eX (K : Nat) (rg : Nat → Nat → Bool) (b r w : Nat) : tO K rg b w * eX K rg r b w = cn (fun m => opP K rg (b + r) m && decide (wd K b (m % 2 ^ b) = w)) (2 ^ (b + r)) := by
  have := eX_cn K rg r b w (fun _ => true)
  simp only [Bool.true_and] at this
  rw [this]
  rfl
