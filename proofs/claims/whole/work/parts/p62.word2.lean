/-! TEXTS: the model's words -/
def cdf (f : Nat → Nat) : Nat → Nat
  | 0 => 0
  | k + 1 => 27 * cdf f k + f k
theorem cdf_s (f : Nat → Nat) (k : Nat) : cdf f (k + 1) = 27 * cdf f k + f k := rfl
theorem cdf_b {f : Nat → Nat} : ∀ {k : Nat}, (∀ i, i < k → f i ≤ 26) → cdf f k < 27 ^ k
  | 0, _ => by show 0 < 27 ^ 0; decide
  | k + 1, h => by
    rw [cdf_s, Nat.pow_succ]
    have := cdf_b (f := f) (k := k) (fun i hi => h i (by omega))
    have := h k (by omega)
    omega
theorem cdf_c {f g : Nat → Nat} : ∀ {k : Nat}, (∀ i, i < k → f i = g i) → cdf f k = cdf g k
  | 0, _ => rfl
  | k + 1, h => by rw [cdf_s, cdf_s, cdf_c (fun i hi => h i (by omega)), h k (by omega)]
theorem cdf_i {f g : Nat → Nat} : ∀ {k l : Nat}, (∀ i, i < k → 1 ≤ f i ∧ f i ≤ 26) → (∀ i, i < l → 1 ≤ g i ∧ g i ≤ 26) → cdf f k = cdf g l → k = l ∧ ∀ i, i < k → f i = g i
  | 0, 0, _, _, _ => ⟨rfl, fun i hi => by cases hi⟩
  | 0, l + 1, _, hg, e => by
    rw [cdf_s] at e
    have := hg l (by omega)
    have : cdf f 0 = 0 := rfl
    omega
  | k + 1, 0, hf, _, e => by
    rw [cdf_s] at e
    have := hf k (by omega)
    have : cdf g 0 = 0 := rfl
    omega
  | k + 1, l + 1, hf, hg, e => by
    rw [cdf_s, cdf_s] at e
    have h1 := hf k (by omega)
    have h2 := hg l (by omega)
    obtain ⟨a, b⟩ := cdf_i (f := f) (g := g) (k := k) (l := l) (fun i hi => hf i (by omega)) (fun i hi => hg i (by omega)) (by omega)
    refine ⟨by omega, fun i hi => ?_⟩
    by_cases ei : i = k
    · rw [ei]
      have : k = l := a
      subst this
      omega
    · exact b i (by omega)
def lt1 (T : Nat → Nat) (q i : Nat) : Nat := T (q + i) - 96
def wl1 (w : List Nat) (i : Nat) : Nat := w.getD i 0 - 96
theorem cL_t {T : Nat → Nat} {n j : Nat} (h : cL T n j = true) : j < n ∧ 97 ≤ T j ∧ T j ≤ 122 := by unfold cL at h; simpa using h
theorem cd_eq {T : Nat → Nat} {n q : Nat} {w : List Nat} (hq : q ≤ n) (hw : ∀ i, i < w.length → 97 ≤ w.getD i 0 ∧ w.getD i 0 ≤ 122) : cdf (lt1 T q) (lE T n q - q) = cdf (wl1 w) w.length ↔ eqw w T q (lE T n q) = true := by
  obtain ⟨d1, d2, d3, d4⟩ := lE_f (T := T) hq
  rw [eqw_iff]
  constructor
  · intro e
    obtain ⟨a, b⟩ := cdf_i (fun i hi => by have := cL_t (d3 (q + i) (by omega) (by omega)); unfold lt1; omega) (fun i hi => by have := hw i hi; unfold wl1; omega) e
    refine ⟨by omega, fun i hi => ?_⟩
    have h1 := b i (by omega)
    have h2 := cL_t (d3 (q + i) (by omega) (by omega))
    have h3 := hw i hi
    unfold lt1 wl1 at h1
    omega
  · rintro ⟨a, b⟩
    rw [show lE T n q - q = w.length by omega]
    refine cdf_c (fun i hi => ?_)
    unfold lt1 wl1
    rw [b i hi]
theorem sml_n {t : Nat} (ht : t < 256) : f_X12_isSmall (nI t) = if 97 ≤ t ∧ t ≤ 122 then 1 else 0 := by
  unfold f_X12_isSmall
  by_cases h1 : t < 97
  · rw [if_pos (show nI t < 97 from nI_lt (b := 97) h1 (by decide)), if_neg (by omega)]
  · rw [if_neg (show ¬ nI t < 97 from nI_nlt (b := 97) (by omega) (by omega))]
    by_cases h2 : 122 < t
    · rw [if_pos (show (122 : Int32) < nI t from nI_lt (a := 122) h2 (by omega)), if_neg (by omega)]
    · rw [if_neg (show ¬ (122 : Int32) < nI t from nI_nlt (a := 122) (by omega) (by decide)), if_pos (by omega)]
theorem smlT {T : Nat → Nat} {n p : Nat} (h4 : ∀ j, j < n → T j < 256) : f_X12_isSmall (if p < n then nI (T p) else -1) = if cL T n p = true then 1 else 0 := by
  unfold cL
  by_cases hl : p < n
  · rw [if_pos hl, sml_n (h4 p hl), decide_eq_true hl, Bool.true_and]
    by_cases h2 : 97 ≤ T p ∧ T p ≤ 122
    · rw [if_pos h2, decide_eq_true h2.1, decide_eq_true h2.2]; rfl
    · rw [if_neg h2, if_neg]
      intro z
      rw [Bool.and_eq_true, decide_eq_true_eq, decide_eq_true_eq] at z
      exact h2 z
  · rw [if_neg hl, decide_eq_false hl]; rfl
theorem m_skipW {T : Nat → Nat} {n q : Nat} {M : Mem} (h : MT T n M) (hq : q ≤ n) (e : M 54 0 4 = nI q) : f_X12_skipWord M = some (am_u3 M 54 0 4 (nI (lE T n q))) := by
  have key : wh L_X12_skipWord_0 FU M = some (am_u3 M 54 0 4 (nI (lE T n q))) := by
    refine wh_scan h.2.1 hq cL_n e (fun r hr => ?_)
    unfold L_X12_skipWord_0
    rw [u3_e, byT (MT_m h (mmv_u mmv_rfl (by decide))) hr]
    simp only [Option.bind]
    rw [smlT (fun j hj => (h.2.2.2 j hj).2)]
    cases hc : cL T n r
    · rw [ifb0]; rfl
    · rw [ifb1, nI_1, u3_u]; rfl
  unfold f_X12_skipWord
  rw [key]; rfl
theorem p27 {k : Nat} (h : k ≤ 6) : 27 ^ k ≤ 387420489 := Nat.pow_le_pow_right (n := 27) (by decide) h
theorem m_whL {T : Nat → Nat} {n q : Nat} {M : Mem} (h : MT T n M) (hq : q ≤ n) (e : M 54 0 4 = nI q) : wh (L_X12_wordHere_8 M) FU ((0 : Int32), (0 : Int32)) = some (nI (cdf (lt1 T q) (min (lE T n q - q) 6)), nI (lE T n q - q)) := by
  have h4 : ∀ j, j < n → T j < 256 := fun j hj => (h.2.2.2 j hj).2
  have h600 := h.2.1
  obtain ⟨d1, d2, d3, d4⟩ := lE_f (T := T) hq
  refine wh_for (fun k => (nI (cdf (lt1 T q) (min k 6)), nI k)) (lE T n q - q) _ (by omega) ?_ ?_
  · intro k hk
    have cl := d3 (q + k) (by omega) (by omega)
    obtain ⟨c1, c2, c3⟩ := cL_t cl
    unfold L_X12_wordHere_8
    simp only []
    rw [e, nI_add, byT h (by omega)]
    simp only [Option.bind]
    rw [smlT h4, cl, ifb1, if_pos c1, nI_1]
    by_cases h6 : 6 ≤ k
    · rw [if_pos (show (6 : Int32) ≤ nI k from nI_le (a := 6) h6 (by omega)), Nat.min_eq_right h6, Nat.min_eq_right (by omega)]
    · rw [if_neg (show ¬ (6 : Int32) ≤ nI k from nI_ge (b := 6) (by omega) (by decide)), Nat.min_eq_left (show k ≤ 6 by omega), Nat.min_eq_left (show k + 1 ≤ 6 by omega), cdf_s]
      have ev : 27 * nI (cdf (lt1 T q) k) + nI (T (q + k)) - 97 + 1 = nI (27 * cdf (lt1 T q) k + lt1 T q k) := by
        rw [show (27 : Int32) = nI 27 from rfl, nI_mul, nI_add, show (97 : Int32) = nI 97 from rfl, nI_sub (by omega), nI_1]
        unfold lt1
        congr 1
        omega
      rw [ev]
  · unfold L_X12_wordHere_8
    simp only []
    rw [e, nI_add, show q + (lE T n q - q) = lE T n q by omega, byT h d2]
    simp only [Option.bind]
    rw [smlT h4, d4, ifb0]
/-- is it this word -/
theorem m_isWord {T : Nat → Nat} {n p : Nat} {w : List Nat} {a b c d e f : Int32} {M : Mem} (h : MS T n p M) (hw : ∀ i, i < w.length → 97 ≤ w.getD i 0 ∧ w.getD i 0 ≤ 122) (hl : w.length ≤ 6) (hs : f_X12_six a b c d e f = nI (cdf (wl1 w) w.length)) : f_X12_isWord a b c d e f M = some (if eqw w T (sk T n p) (lE T n (sk T n p)) = true then 1 else 0, am_u3 M 54 0 4 (nI (sk T n p))) := by
  obtain ⟨h1, h2, h3, h4⟩ := h
  have h600 := h1.2.1
  have sf := sk_f (T := T) h2
  obtain ⟨d1, d2, d3, d4⟩ := lE_f (T := T) sf.2.1
  have hT : MT T n (am_u3 M 54 0 4 (nI (sk T n p))) := MT_m h1 (mmv_u mmv_rfl (by decide))
  have wb : cdf (wl1 w) w.length < 387420489 := Nat.lt_of_lt_of_le (cdf_b (fun i hi => by have := hw i hi; unfold wl1; omega)) (p27 hl)
  have eW : f_X12_wordHere M = some (if lE T n (sk T n p) - sk T n p ≤ 6 then nI (cdf (lt1 T (sk T n p)) (lE T n (sk T n p) - sk T n p)) else -1, am_u3 M 54 0 4 (nI (sk T n p))) := by
    unfold f_X12_wordHere
    rw [m_blanks h1 h2 h3]
    simp only [Option.bind]
    rw [m_whL hT sf.2.1 (u3_e _ _ _ _ _)]
    simp only []
    by_cases h6 : lE T n (sk T n p) - sk T n p ≤ 6
    · rw [if_pos (show nI (lE T n (sk T n p) - sk T n p) ≤ 6 from nI_le (b := 6) h6 (by decide)), if_pos h6, Nat.min_eq_left h6]
    · rw [if_neg (show ¬ nI (lE T n (sk T n p) - sk T n p) ≤ 6 from nI_ge (a := 6) (by omega) (by omega)), if_neg h6]
  unfold f_X12_isWord
  rw [if_pos h4, eW]
  simp only [Option.bind]
  rw [hs]
  have iff := cd_eq (T := T) (w := w) sf.2.1 hw
  by_cases h6 : lE T n (sk T n p) - sk T n p ≤ 6
  · have tb : cdf (lt1 T (sk T n p)) (lE T n (sk T n p) - sk T n p) < 387420489 := Nat.lt_of_lt_of_le (cdf_b (fun i hi => by have := cL_t (d3 (sk T n p + i) (by omega) (by omega)); unfold lt1; omega)) (p27 h6)
    rw [if_pos h6]
    cases hz : eqw w T (sk T n p) (lE T n (sk T n p))
    · rw [if_neg (fun z => by rw [iff.mp ((nI_eq (by omega) (by omega)).mp z)] at hz; cases hz)]; rfl
    · rw [if_pos (by rw [iff.mpr hz])]; rfl
  · rw [if_neg h6, if_neg (fun z => absurd z.symm (nI_m1 (by omega)))]
    have : eqw w T (sk T n p) (lE T n (sk T n p)) = false := by
      cases hz : eqw w T (sk T n p) (lE T n (sk T n p))
      · rfl
      · have := (eqw_iff.mp hz).1; omega
    rw [this]; rfl
theorem m_isWordF {T : Nat → Nat} {n k q : Nat} {a b c d e f : Int32} {M : Mem} (h : MF T n k q M) : f_X12_isWord a b c d e f M = some (0, M) := by
  unfold f_X12_isWord
  rw [if_neg (MF_ne h)]
/-- behind the blanks once more -/
theorem m_again {T : Nat → Nat} {n p : Nat} {M : Mem} (h : MS T n p M) : MS T n (sk T n p) (am_u3 M 54 0 4 (nI (sk T n p))) ∧ mmv M (am_u3 M 54 0 4 (nI (sk T n p))) ∧ am_u3 (am_u3 M 54 0 4 (nI (sk T n p))) 54 0 4 (nI (sk T n (sk T n p))) = am_u3 M 54 0 4 (nI (sk T n p)) := by
  have mv : mmv M (am_u3 M 54 0 4 (nI (sk T n p))) := mmv_u mmv_rfl (by decide)
  exact ⟨⟨MT_m h.1 mv, sk_le h.2.1, u3_e _ _ _ _ _, (u3_j (by omega)).trans h.2.2.2⟩, mv, by rw [sk_sk h.2.1, u3_u]⟩
theorem ifw {α : Type} {b : Bool} {A B : α} : (if (if b = true then (1 : Int32) else 0) = 0 then A else B) = if b = true then B else A := by cases b <;> rfl
def kI (T : Nat → Nat) (q e : Nat) : Int32 := if eqw [98, 111, 97, 114, 100] T q e = true then 0 else if eqw [98, 97, 114, 103, 101] T q e = true then 1 else if eqw [115, 116, 114, 101, 101, 116] T q e = true then 2 else if eqw [102, 108, 111, 119] T q e = true then 3 else if eqw [115, 109, 101, 108, 108] T q e = true then 4 else if eqw [102, 105, 115, 104] T q e = true then 5 else -1
theorem ite_some {α β : Type} {c : Prop} {i : Decidable c} {a b : α} {m : β} : @ite _ c i (some (a, m)) (some (b, m)) = some (@ite _ c i a b, m) := by split <;> rfl
theorem m_kind {T : Nat → Nat} {n p : Nat} {M : Mem} (h : MS T n p M) : f_X12_kindHere M = some (kI T (sk T n p) (lE T n (sk T n p)), am_u3 M 54 0 4 (nI (sk T n p))) := by
  obtain ⟨s1, -, u⟩ := m_again h
  have sk2 := sk_sk (T := T) h.2.1
  unfold f_X12_kindHere kI
  rw [m_isWord (w := [98, 111, 97, 114, 100]) h (by decide) (by decide) (by decide)]
  simp only [Option.bind, ifw]
  rw [m_isWord (w := [98, 97, 114, 103, 101]) s1 (by decide) (by decide) (by decide), sk2, u3_u]
  simp only [ifw]
  rw [m_isWord (w := [115, 116, 114, 101, 101, 116]) s1 (by decide) (by decide) (by decide), sk2, u3_u]
  simp only [ifw]
  rw [m_isWord (w := [102, 108, 111, 119]) s1 (by decide) (by decide) (by decide), sk2, u3_u]
  simp only [ifw]
  rw [m_isWord (w := [115, 109, 101, 108, 108]) s1 (by decide) (by decide) (by decide), sk2, u3_u]
  simp only [ifw]
  rw [m_isWord (w := [102, 105, 115, 104]) s1 (by decide) (by decide) (by decide), sk2, u3_u]
  simp only [ifw, ite_some]
def sI (T : Nat → Nat) (q e : Nat) : Int32 := wI T q e nm5 0
theorem m_step {T : Nat → Nat} {n p : Nat} {M : Mem} (h : MS T n p M) : f_X12_stepHere M = some (wrd T n nm5 p, am_u3 M 54 0 4 (nI (sk T n p))) := by
  obtain ⟨s1, -, u⟩ := m_again h
  have sk2 := sk_sk (T := T) h.2.1
  unfold f_X12_stepHere wrd nm5 wI wI wI wI wI wI
  rw [m_isWord (w := [108, 105, 102, 116]) h (by decide) (by decide) (by decide)]
  simp only [Option.bind, ifw]
  rw [m_isWord (w := [115, 104, 117, 116]) s1 (by decide) (by decide) (by decide), sk2, u3_u]
  simp only [ifw]
  rw [m_isWord (w := [108, 101, 97, 118, 101]) s1 (by decide) (by decide) (by decide), sk2, u3_u]
  simp only [ifw]
  rw [m_isWord (w := [104, 111, 117, 114]) s1 (by decide) (by decide) (by decide), sk2, u3_u]
  simp only [ifw]
  rw [m_isWord (w := [97, 103, 97, 105, 110]) s1 (by decide) (by decide) (by decide), sk2, u3_u]
  simp only [ifw, ite_some]
  rfl
/-- the class's kind of a CLAUSE, and the model's -/
theorem kI_w {T : Nat → Nat} {n p : Nat} : (wrd T n nm0 p = -1 ∧ kI T (sk T n p) (lE T n (sk T n p)) = -1) ∨ (wrd T n nm0 p = nI 0 ∧ kI T (sk T n p) (lE T n (sk T n p)) = 0) ∨ (wrd T n nm0 p = nI 1 ∧ kI T (sk T n p) (lE T n (sk T n p)) = 1) ∨ (wrd T n nm0 p = nI 2 ∧ kI T (sk T n p) (lE T n (sk T n p)) = 3) ∨ (wrd T n nm0 p = nI 3 ∧ kI T (sk T n p) (lE T n (sk T n p)) = 2) ∨ (wrd T n nm0 p = nI 4 ∧ kI T (sk T n p) (lE T n (sk T n p)) = 5) ∨ (wrd T n nm0 p = nI 5 ∧ kI T (sk T n p) (lE T n (sk T n p)) = 4) := by
  unfold wrd nm0 kI wI wI wI wI wI wI wI
  generalize sk T n p = q
  generalize lE T n q = e
  cases h0 : eqw [98, 111, 97, 114, 100] T q e
  · cases h1 : eqw [98, 97, 114, 103, 101] T q e
    · cases h2 : eqw [102, 108, 111, 119] T q e
      · cases h3 : eqw [115, 116, 114, 101, 101, 116] T q e
        · cases h4 : eqw [102, 105, 115, 104] T q e
          · cases h5 : eqw [115, 109, 101, 108, 108] T q e
            · exact Or.inl ⟨rfl, rfl⟩
            · exact Or.inr (Or.inr (Or.inr (Or.inr (Or.inr (Or.inr ⟨rfl, rfl⟩)))))
          · rw [eqw_n h4 (show [102, 105, 115, 104] ≠ [115, 109, 101, 108, 108] by decide)]
            exact Or.inr (Or.inr (Or.inr (Or.inr (Or.inr (Or.inl ⟨rfl, rfl⟩)))))
        · exact Or.inr (Or.inr (Or.inr (Or.inr (Or.inl ⟨rfl, rfl⟩))))
      · rw [eqw_n h2 (show [102, 108, 111, 119] ≠ [115, 116, 114, 101, 101, 116] by decide)]
        exact Or.inr (Or.inr (Or.inr (Or.inl ⟨rfl, rfl⟩)))
    · exact Or.inr (Or.inr (Or.inl ⟨rfl, rfl⟩))
  · exact Or.inr (Or.inl ⟨rfl, rfl⟩)
