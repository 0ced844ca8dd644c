/-! ANGLERS: who rests -/
/-- the least that one has, the most that one could get -/
def mnH (fi S : Nat → Nat) : Nat → Nat
  | 0 => 40
  | k + 1 => if S k ≠ 0 ∧ fi k / S k < mnH fi S k then fi k / S k else mnH fi S k
def mxH (fi S : Nat → Nat) : Nat → Nat
  | 0 => 0
  | k + 1 => if mxH fi S k < fi k / (S k + 1) then fi k / (S k + 1) else mxH fi S k
theorem mnH_s (fi S : Nat → Nat) (k : Nat) : mnH fi S (k + 1) = if S k ≠ 0 ∧ fi k / S k < mnH fi S k then fi k / S k else mnH fi S k := rfl
theorem mxH_s (fi S : Nat → Nat) (k : Nat) : mxH fi S (k + 1) = if mxH fi S k < fi k / (S k + 1) then fi k / (S k + 1) else mxH fi S k := rfl
theorem mnH_le (fi S : Nat → Nat) : ∀ n c, c ≤ mnH fi S n ↔ c ≤ 40 ∧ ∀ b, b < n → S b ≠ 0 → c ≤ fi b / S b
  | 0, c => ⟨fun h => ⟨h, fun b hb => by cases hb⟩, fun h => h.1⟩
  | n + 1, c => by
    have ih := mnH_le fi S n c
    rw [mnH_s]
    constructor
    · intro h
      have h1 : c ≤ mnH fi S n ∧ (S n ≠ 0 → c ≤ fi n / S n) := by
        split at h
        · rename_i hc; exact ⟨by omega, fun _ => h⟩
        · rename_i hc
          refine ⟨h, fun hs => ?_⟩
          rcases Nat.lt_or_ge (fi n / S n) (mnH fi S n) with z | z
          · exact absurd ⟨hs, z⟩ hc
          · omega
      have h2 := ih.mp h1.1
      refine ⟨h2.1, fun b hb hs => ?_⟩
      by_cases e : b = n
      · subst e; exact h1.2 hs
      · exact h2.2 b (by omega) hs
    · intro h
      have h2 := ih.mpr ⟨h.1, fun b hb => h.2 b (by omega)⟩
      split
      · rename_i hc; exact h.2 n (by omega) hc.1
      · exact h2
theorem mxH_le (fi S : Nat → Nat) : ∀ n c, mxH fi S n ≤ c ↔ ∀ x, x < n → fi x / (S x + 1) ≤ c
  | 0, c => ⟨fun _ b hb => (by cases hb), fun _ => Nat.zero_le _⟩
  | n + 1, c => by
    have ih := mxH_le fi S n c
    rw [mxH_s]
    constructor
    · intro h
      have h1 : mxH fi S n ≤ c ∧ fi n / (S n + 1) ≤ c := by
        split at h
        · rename_i hc; exact ⟨by omega, h⟩
        · rename_i hc; exact ⟨h, by omega⟩
      have h2 := ih.mp h1.1
      intro x hx
      by_cases e : x = n
      · subst e; exact h1.2
      · exact h2 x (by omega)
    · intro h
      have h2 := ih.mpr (fun x hx => h x (by omega))
      split
      · exact h n (by omega)
      · exact h2
def rst (fi : Nat → Nat) (n : Nat) (S : Nat → Nat) : Bool := decide (mxH fi S n ≤ mnH fi S n)
theorem rst_iff {fi : Nat → Nat} {n : Nat} {S : Nat → Nat} (hfi : ∀ b, b < n → fi b ≤ 40) : rst fi n S = true ↔ ∀ b, b < n → S b ≠ 0 → ∀ x, x < n → x ≠ b → fi x / (S x + 1) ≤ fi b / S b := by
  unfold rst
  rw [decide_eq_true_eq, mnH_le]
  constructor
  · intro h b hb hs x hx _
    exact (mxH_le fi S n _).mp (h.2 b hb hs) x hx
  · intro h
    refine ⟨(mxH_le fi S n _).mpr (fun x hx => Nat.le_trans (Nat.div_le_self _ _) (hfi x hx)), fun b hb hs => (mxH_le fi S n _).mpr (fun x hx => ?_)⟩
    by_cases e : x = b
    · subst e
      exact Nat.div_le_div_left (by omega) (by omega)
    · exact h b hb hs x hx e
theorem c_isRest {M : Mem} {n : Nat} {fi S : Nat → Nat} (e : M 3 0 0 = nI n) (hn : n ≤ 16) (hS : ∀ j, j < n → M 52 0 j = nI (S j) ∧ S j ≤ 4) (hf : ∀ j, j < n → M 7 0 j = nI (fi j) ∧ fi j ≤ 40) : f_X0_isRest M = some (if rst fi n S = true then 1 else 0) := by
  have b1 : ∀ k, mnH fi S k ≤ 40 := fun k => ((mnH_le fi S k _).mp (Nat.le_refl _)).1
  have b2 : ∀ k, k ≤ n → mxH fi S k ≤ 40 := fun k hk => (mxH_le fi S k 40).mpr (fun x hx => Nat.le_trans (Nat.div_le_self _ _) (hf x (by omega)).2)
  have key : wh (L_X0_isRest_7 M) FU ((40 : Int32), (0 : Int32), (0 : Int32)) = some (nI (mnH fi S n), nI (mxH fi S n)) := by
    refine wh_for (fun k => (nI (mnH fi S k), nI (mxH fi S k), nI k)) n _ (by omega) ?_ ?_
    · intro k hk
      have c1 := b1 k
      have c2 := b2 k (by omega)
      obtain ⟨s1, s2⟩ := hS k hk
      obtain ⟨f1, f2⟩ := hf k hk
      have d1 : fi k / (S k + 1) ≤ 40 := Nat.le_trans (Nat.div_le_self _ _) f2
      have d2 : fi k / S k ≤ 40 := Nat.le_trans (Nat.div_le_self _ _) f2
      unfold L_X0_isRest_7
      simp only []
      rw [e, if_neg (nI_ge hk (by omega)), if_pos (inb_n (by omega) (by decide)), nI_clamp (by omega), s1, f1]
      simp only [nI_1]
      rw [nI_div (by omega) (by omega), nI_div (by omega) (by omega), if_pos (nI_ne0 (show 0 < S k + 1 by omega) (by omega))]
      have emx : (if nI (mxH fi S k) < nI (fi k / (S k + 1)) then nI (fi k / (S k + 1)) else nI (mxH fi S k)) = nI (mxH fi S (k + 1)) := by
        rw [mxH_s]
        by_cases h : mxH fi S k < fi k / (S k + 1)
        · rw [if_pos (nI_lt h (by omega)), if_pos h]
        · rw [if_neg (nI_nlt (by omega) (by omega)), if_neg h]
      rw [emx]
      by_cases hs : S k = 0
      · rw [if_pos (show nI (S k) ≤ 0 by rw [hs]; decide), mnH_s, if_neg (fun z => z.1 hs)]
      · rw [if_neg (nI_nle (by omega) (by omega)), if_pos (nI_ne0 (by omega) (by omega)), if_pos (nI_ne0 (show 0 < S k + 1 by omega) (by omega)), mnH_s]
        by_cases h : fi k / S k < mnH fi S k
        · rw [if_pos (nI_lt h (by omega)), if_pos ⟨hs, h⟩]
        · rw [if_neg (nI_nlt (by omega) (by omega)), if_neg (fun z => h z.2)]
    · unfold L_X0_isRest_7
      simp only []
      rw [e, if_pos (nI_le (Nat.le_refl _) (by omega))]
  unfold f_X0_isRest
  rw [key]
  show (if nI (mnH fi S n) < nI (mxH fi S n) then some 0 else some 1) = _
  have c1 := b1 n
  have c2 := b2 n (Nat.le_refl _)
  unfold rst
  by_cases h : mxH fi S n ≤ mnH fi S n
  · rw [if_neg (nI_nlt h (by omega)), decide_eq_true h]; rfl
  · rw [if_pos (nI_lt (by omega) (by omega)), decide_eq_false h]; rfl
theorem m_isRest {M : Mem} {n : Nat} {fi S : Nat → Nat} (e : M 58 0 0 = nI n) (hn : n ≤ 16) (hS : ∀ j, j < n → M 79 0 j = nI (S j) ∧ S j ≤ 4) (hf : ∀ j, j < n → M 60 (j + 1) 3 = nI (fi j) ∧ fi j ≤ 40) : ok (f_X12_isRest M) (fun v => v = if rst fi n S = true then 1 else 0) := by
  unfold f_X12_isRest
  have inner : ∀ b c, b < n → c ≤ 40 → ok (wh (L_X12_isRest_42 (nI b) (nI c) M) FU (0 : Int32)) (fun t => (t = Sum.inr () ∧ ∀ x, x < n → x ≠ b → fi x / (S x + 1) ≤ c) ∨ (t = Sum.inl () ∧ ∃ x, x < n ∧ x ≠ b ∧ ¬ fi x / (S x + 1) ≤ c)) := by
    intro b c hb hc
    refine ok_wh (fun k s => s = nI k ∧ ∀ x, x < k → x ≠ b → fi x / (S x + 1) ≤ c) n ⟨rfl, fun x hx => by cases hx⟩ (by omega) ?_ ?_
    · rintro k s hk ⟨rfl, hx⟩
      obtain ⟨s1, s2⟩ := hS k hk
      obtain ⟨f1, f2⟩ := hf k hk
      have d1 : fi k / (S k + 1) ≤ 40 := Nat.le_trans (Nat.div_le_self _ _) f2
      unfold L_X12_isRest_42
      simp only [e, nI_clamp (show k < 2 ^ 31 by omega), s1, f1, nI_1]
      rw [nI_div (by omega) (by omega)]
      refine ok_ifn (nI_ge hk (by omega)) ?_
      by_cases hkb : k = b
      · refine ok_ifp (by rw [hkb]) (ok_some ⟨rfl, fun x h1 h2 => hx x (by omega) h2⟩)
      · refine ok_ifn (fun z => hkb ((nI_eq (by omega) (by omega)).mp z)) (ok_ifp (inb_n (by omega) (by decide)) (ok_ifp (nI_ne0 (by omega) (by omega)) ?_))
        by_cases hle : fi k / (S k + 1) ≤ c
        · refine ok_ifp (nI_le hle (by omega)) (ok_some ⟨rfl, fun x h1 h2 => ?_⟩)
          by_cases hxk : x = k
          · rw [hxk]; exact hle
          · exact hx x (by omega) h2
        · exact ok_ifn (nI_ge (by omega) (by omega)) (ok_some (Or.inr ⟨rfl, k, hk, hkb, hle⟩))
    · rintro s ⟨rfl, hx⟩
      unfold L_X12_isRest_42
      simp only [e]
      exact ok_ifp (nI_le (Nat.le_refl _) (by omega)) (ok_some (Or.inl ⟨rfl, hx⟩))
  refine ok_bind (P := fun t => (t = Sum.inr () ∧ rst fi n S = true) ∨ (t = Sum.inl () ∧ ¬ rst fi n S = true)) ?_ ?_
  · refine ok_wh (fun k s => s = nI k ∧ ∀ b, b < k → S b ≠ 0 → ∀ x, x < n → x ≠ b → fi x / (S x + 1) ≤ fi b / S b) n ⟨rfl, fun x hx => by cases hx⟩ (by omega) ?_ ?_
    · rintro k s hk ⟨rfl, hx⟩
      obtain ⟨s1, s2⟩ := hS k hk
      obtain ⟨f1, f2⟩ := hf k hk
      unfold L_X12_isRest_2
      simp only [e, nI_clamp (show k < 2 ^ 31 by omega), s1, f1, nI_1]
      rw [nI_div (by omega) (by omega)]
      refine ok_ifn (nI_ge hk (by omega)) (ok_ifp (inb_n (by omega) (by decide)) ?_)
      by_cases hs : S k = 0
      · refine ok_ifp (by rw [hs]; rfl) (ok_some ⟨rfl, fun b hb h2 => ?_⟩)
        by_cases hbk : b = k
        · rw [hbk] at h2; exact absurd hs h2
        · exact hx b (by omega) h2
      · refine ok_ifn (nI_ne0 (by omega) (by omega)) (ok_ifp (nI_ne0 (by omega) (by omega)) (ok_bind (inner k _ hk (Nat.le_trans (Nat.div_le_self _ _) f2)) ?_))
        rintro t (⟨rfl, ht⟩ | ⟨rfl, x, x1, x2, x3⟩)
        · refine ok_some ⟨rfl, fun b hb h2 => ?_⟩
          by_cases hbk : b = k
          · rw [hbk]; exact ht
          · exact hx b (by omega) h2
        · refine ok_some (Or.inr ⟨rfl, fun z => ?_⟩)
          exact x3 ((rst_iff (fun b hb => (hf b hb).2)).mp z k hk hs x x1 x2)
    · rintro s ⟨rfl, hx⟩
      unfold L_X12_isRest_2
      simp only [e]
      exact ok_ifp (nI_le (Nat.le_refl _) (by omega)) (ok_some (Or.inl ⟨rfl, (rst_iff (fun b hb => (hf b hb).2)).mpr hx⟩))
  · rintro t (⟨rfl, ht⟩ | ⟨rfl, ht⟩)
    · exact ok_some (by rw [if_pos ht])
    · exact ok_some (by rw [if_neg ht])
