/-! RIVERS: the model reads CLAUSES -/
def MB (B : Bd) (M : Mem) : Prop := (∀ k, k < 5 → M 57 0 k = nI (B 0 k)) ∧ (∀ j, j < B 0 0 → M 59 (j + 1) 0 = nI (B 1 j) ∧ M 59 (j + 1) 1 = nI (B 2 j) ∧ M 59 (j + 1) 2 = nI (B 3 j) ∧ M 59 (j + 1) 3 = nI (B 4 j)) ∧ (∀ j, j < B 0 1 → M 61 (j + 1) 0 = nI (B 5 j) ∧ M 61 (j + 1) 1 = nI (B 6 j)) ∧ (∀ j, j < B 0 2 → M 63 (j + 1) 0 = nI (B 7 j) ∧ M 63 (j + 1) 1 = nI (B 8 j) ∧ M 63 (j + 1) 2 = nI (B 9 j))
theorem MB_o {B : Bd} {M M' : Mem} (h : MB B M) (e57 : M' 57 = M 57) (e59 : M' 59 = M 59) (e61 : M' 61 = M 61) (e63 : M' 63 = M 63) : MB B M' := by
  unfold MB at *
  rw [e57, e59, e61, e63]; exact h
theorem MS_o {T : Nat → Nat} {n p : Nat} {M M' : Mem} (h : MS T n p M) (e1 : M' 54 = M 54) (e2 : M' 55 = M 55) : MS T n p M' := by
  unfold MS MT at *
  rw [e1, e2]; exact h
theorem MF_o {T : Nat → Nat} {n k q : Nat} {M M' : Mem} (h : MF T n k q M) (e1 : M' 54 = M 54) (e2 : M' 55 = M 55) : MF T n k q M' := by
  unfold MF MT at *
  rw [e1, e2]; exact h
def k4567 : List Nat := [4, 5, 6, 7]
def pC : List Nat := [54, 57, 59, 61, 63]
def pmv (M M' : Mem) : Prop := fr pC M M' ∧ ∀ j, j ∉ k4567 → M' 54 0 j = M 54 0 j
theorem pmv_rfl {M : Mem} : pmv M M := ⟨fr_rfl, fun _ _ => rfl⟩
theorem k47 : ∀ j, j ∈ k456 → j ∈ k4567 := by decide
theorem pmv_m {M M' : Mem} (a : mmv M M') : pmv M M' := ⟨fr_mono a.1 (by decide), fun j h => a.2 j (fun z => h (k47 j z))⟩
theorem pmv_tr {M M1 M2 : Mem} (a : pmv M M1) (b : pmv M1 M2) : pmv M M2 := ⟨fr_tr a.1 b.1, fun j h => (b.2 j h).trans (a.2 j h)⟩
theorem pmv_u {M M' : Mem} {c r j : Nat} {v : Int32} (a : pmv M M') (h : c ∈ pC) (h54 : c ≠ 54) : pmv M (am_u3 M' c r j v) := ⟨fr_u3 a.1 h, fun i hi => by rw [u3_c (Ne.symm h54)]; exact a.2 i hi⟩
theorem pmv_7 {M M' : Mem} {v : Int32} (a : pmv M M') : pmv M (am_u3 M' 54 0 7 v) := ⟨fr_u3 a.1 (by decide), fun i hi => by rw [u3_j (fun z => hi (by rw [z.2]; decide))]; exact a.2 i hi⟩
/-- behind a CLAUSE -/
def QM (T : Nat → Nat) (n c : Nat) (x : (Nat × Bd) ⊕ (Nat × Nat)) (M : Mem) : Prop := match x with
  | Sum.inl y => MS T n y.1 M ∧ MB y.2 M ∧ WB y.2 ∧ M 54 0 7 = nI c
  | Sum.inr f => MF T n f.1 f.2 M
def exB (T : Nat → Nat) (n : Nat) (y : Nat × Bd) : (Nat × Bd) ⊕ (Nat × Nat) := bd (exq T n 59 y.1) (fun e => Sum.inl (e, y.2))
/-- the sign behind it -/
theorem m_semi {T : Nat → Nat} {n c p : Nat} {B : Bd} {M0 M : Mem} (h : MS T n p M) (hB : MB B M) (hW : WB B) (h7 : M 54 0 7 = nI c) (m : pmv M0 M) : ok (Option.bind (f_X12_sign (59 : Int32) M) (fun (M' : Mem) => some M')) (fun M' => pmv M0 M' ∧ QM T n c (exB T n (p, B)) M') := by
  refine ok_bind (m_sign (c := 59) h (by decide)) ?_
  rintro M1 ⟨h1, m1⟩
  refine ok_some ⟨pmv_tr m (pmv_m m1), ?_⟩
  unfold exB
  generalize exq T n 59 p = Y at h1
  rcases Y with e | f
  · refine ⟨h1, MB_o hB (m1.1 57 (by decide)) (m1.1 59 (by decide)) (m1.1 61 (by decide)) (m1.1 63 (by decide)), hW, ?_⟩
    rw [m1.2 7 (by decide)]; exact h7
  · exact h1
theorem m_semiF {T : Nat → Nat} {n k q : Nat} {M0 M : Mem} (h : MF T n k q M) (m : pmv M0 M) : ok (Option.bind (f_X12_sign (59 : Int32) M) (fun (M' : Mem) => some M')) (fun M' => pmv M0 M' ∧ MF T n k q M') := ok_bindE (m_signF h) (ok_some ⟨m, h⟩)
theorem MN_l {T : Nat → Nat} {n e v : Nat} {x : Int32} {M : Mem} (h : MN T n (Sum.inl (e, v)) x M) : x = nI v ∧ MS T n e M := h
theorem MB_B {B : Bd} {M : Mem} {a b d : Nat} (h : MB B M) (M' : Mem) (e61 : M' 61 = M 61) (e63 : M' 63 = M 63) (e57 : ∀ j, M' 57 0 j = if j = 0 then nI (B 0 0 + 1) else M 57 0 j) (e59 : ∀ r, r ≠ B 0 0 + 1 → M' 59 r = M 59 r) (x0 : M' 59 (B 0 0 + 1) 0 = nI a) (x1 : M' 59 (B 0 0 + 1) 1 = nI b) (x2 : M' 59 (B 0 0 + 1) 2 = nI d) (x3 : M' 59 (B 0 0 + 1) 3 = 0) : MB (bB B a b d) M' := by
  obtain ⟨h0, h1, h2, h3⟩ := h
  have e0 : bB B a b d 0 0 = B 0 0 + 1 := ub_e _ _ _ _
  have eo : ∀ f j, f ≠ 1 → f ≠ 2 → f ≠ 3 → f ≠ 4 → ¬ (f = 0 ∧ j = 0) → bB B a b d f j = B f j := by
    intro f j g1 g2 g3 g4 g0
    unfold bB
    rw [ub_n g0, ub_n (fun z => g4 z.1), ub_n (fun z => g3 z.1), ub_n (fun z => g2 z.1), ub_n (fun z => g1 z.1)]
  refine ⟨fun k hk => ?_, fun j hj => ?_, ?_, ?_⟩
  · rw [e57]
    by_cases ek : k = 0
    · rw [if_pos ek, ek, e0]
    · rw [if_neg ek, eo 0 k (by decide) (by decide) (by decide) (by decide) (by omega)]; exact h0 k hk
  · rw [e0] at hj
    unfold bB
    by_cases e : j = B 0 0
    · subst e
      rw [x0, x1, x2, x3, ub_n (by omega), ub_n (by omega), ub_n (by omega), ub_n (by omega), ub_e, ub_n (by omega), ub_n (by omega), ub_n (by omega), ub_e, ub_n (by omega), ub_n (by omega), ub_e, ub_n (by omega), ub_e]
      exact ⟨rfl, rfl, rfl, rfl⟩
    · rw [e59 _ (by omega), ub_n (by omega), ub_n (by omega), ub_n (by omega), ub_n (by omega), ub_n (by omega), ub_n (by omega), ub_n (by omega), ub_n (by omega), ub_n (by omega), ub_n (by omega), ub_n (by omega), ub_n (by omega), ub_n (by omega), ub_n (by omega), ub_n (by omega), ub_n (by omega), ub_n (by omega), ub_n (by omega), ub_n (by omega), ub_n (by omega)]
      exact h1 j (by omega)
  · rw [eo 0 1 (by decide) (by decide) (by decide) (by decide) (by decide), e61]
    intro j hj
    rw [eo 5 j (by decide) (by decide) (by decide) (by decide) (by omega), eo 6 j (by decide) (by decide) (by decide) (by decide) (by omega)]
    exact h2 j hj
  · rw [eo 0 2 (by decide) (by decide) (by decide) (by decide) (by decide), e63]
    intro j hj
    rw [eo 7 j (by decide) (by decide) (by decide) (by decide) (by omega), eo 8 j (by decide) (by decide) (by decide) (by decide) (by omega), eo 9 j (by decide) (by decide) (by decide) (by decide) (by omega)]
    exact h3 j hj
theorem MB_G {B : Bd} {M : Mem} {a b : Nat} (h : MB B M) (M' : Mem) (e59 : M' 59 = M 59) (e63 : M' 63 = M 63) (e57 : ∀ j, M' 57 0 j = if j = 1 then nI (B 0 1 + 1) else M 57 0 j) (e61 : ∀ r, r ≠ B 0 1 + 1 → M' 61 r = M 61 r) (x0 : M' 61 (B 0 1 + 1) 0 = nI a) (x1 : M' 61 (B 0 1 + 1) 1 = nI b) : MB (bG B a b) M' := by
  obtain ⟨h0, h1, h2, h3⟩ := h
  have e1 : bG B a b 0 1 = B 0 1 + 1 := ub_e _ _ _ _
  have eo : ∀ f j, f ≠ 5 → f ≠ 6 → ¬ (f = 0 ∧ j = 1) → bG B a b f j = B f j := by
    intro f j g1 g2 g0
    unfold bG
    rw [ub_n g0, ub_n (fun z => g2 z.1), ub_n (fun z => g1 z.1)]
  refine ⟨fun k hk => ?_, ?_, fun j hj => ?_, ?_⟩
  · rw [e57]
    by_cases ek : k = 1
    · rw [if_pos ek, ek, e1]
    · rw [if_neg ek, eo 0 k (by decide) (by decide) (by omega)]; exact h0 k hk
  · rw [eo 0 0 (by decide) (by decide) (by decide), e59]
    intro j hj
    rw [eo 1 j (by decide) (by decide) (by omega), eo 2 j (by decide) (by decide) (by omega), eo 3 j (by decide) (by decide) (by omega), eo 4 j (by decide) (by decide) (by omega)]
    exact h1 j hj
  · rw [e1] at hj
    unfold bG
    by_cases e : j = B 0 1
    · subst e
      rw [x0, x1, ub_n (by omega), ub_n (by omega), ub_e, ub_n (by omega), ub_e]; exact ⟨rfl, rfl⟩
    · rw [e61 _ (by omega), ub_n (by omega), ub_n (by omega), ub_n (by omega), ub_n (by omega), ub_n (by omega), ub_n (by omega)]
      exact h2 j (by omega)
  · rw [eo 0 2 (by decide) (by decide) (by decide), e63]
    intro j hj
    rw [eo 7 j (by decide) (by decide) (by omega), eo 8 j (by decide) (by decide) (by omega), eo 9 j (by decide) (by decide) (by omega)]
    exact h3 j hj
theorem MB_T {B : Bd} {M : Mem} {a b d : Nat} (h : MB B M) (M' : Mem) (e59 : M' 59 = M 59) (e61 : M' 61 = M 61) (e57 : ∀ j, M' 57 0 j = if j = 2 then nI (B 0 2 + 1) else M 57 0 j) (e63 : ∀ r, r ≠ B 0 2 + 1 → M' 63 r = M 63 r) (x0 : M' 63 (B 0 2 + 1) 0 = nI a) (x1 : M' 63 (B 0 2 + 1) 1 = nI b) (x2 : M' 63 (B 0 2 + 1) 2 = nI d) : MB (bT B a b d) M' := by
  obtain ⟨h0, h1, h2, h3⟩ := h
  have e1 : bT B a b d 0 2 = B 0 2 + 1 := ub_e _ _ _ _
  have eo : ∀ f j, f ≠ 7 → f ≠ 8 → f ≠ 9 → ¬ (f = 0 ∧ j = 2) → bT B a b d f j = B f j := by
    intro f j g1 g2 g3 g0
    unfold bT
    rw [ub_n g0, ub_n (fun z => g3 z.1), ub_n (fun z => g2 z.1), ub_n (fun z => g1 z.1)]
  refine ⟨fun k hk => ?_, ?_, ?_, fun j hj => ?_⟩
  · rw [e57]
    by_cases ek : k = 2
    · rw [if_pos ek, ek, e1]
    · rw [if_neg ek, eo 0 k (by decide) (by decide) (by decide) (by omega)]; exact h0 k hk
  · rw [eo 0 0 (by decide) (by decide) (by decide) (by decide), e59]
    intro j hj
    rw [eo 1 j (by decide) (by decide) (by decide) (by omega), eo 2 j (by decide) (by decide) (by decide) (by omega), eo 3 j (by decide) (by decide) (by decide) (by omega), eo 4 j (by decide) (by decide) (by decide) (by omega)]
    exact h1 j hj
  · rw [eo 0 1 (by decide) (by decide) (by decide) (by decide), e61]
    intro j hj
    rw [eo 5 j (by decide) (by decide) (by decide) (by omega), eo 6 j (by decide) (by decide) (by decide) (by omega)]
    exact h2 j hj
  · rw [e1] at hj
    unfold bT
    by_cases e : j = B 0 2
    · subst e
      rw [x0, x1, x2, ub_n (by omega), ub_n (by omega), ub_n (by omega), ub_e, ub_n (by omega), ub_n (by omega), ub_e, ub_n (by omega), ub_e]; exact ⟨rfl, rfl, rfl⟩
    · rw [e63 _ (by omega), ub_n (by omega), ub_n (by omega), ub_n (by omega), ub_n (by omega), ub_n (by omega), ub_n (by omega), ub_n (by omega), ub_n (by omega), ub_n (by omega), ub_n (by omega), ub_n (by omega), ub_n (by omega)]
      exact h3 j (by omega)
theorem MB_57 {B : Bd} {M M' : Mem} {j v : Nat} (h : MB B M) (hj : j = 3 ∨ j = 4) (e : M' = am_u3 M 57 0 j (nI v)) : MB (ub B 0 j v) M' := by
  obtain ⟨h0, h1, h2, h3⟩ := h
  subst e
  have c0 : ∀ k, k < 3 → ub B 0 j v 0 k = B 0 k := fun k hk => ub_n (by omega)
  have co : ∀ f' k, f' ≠ 0 → ub B 0 j v f' k = B f' k := fun f' k g1 => ub_n (by omega)
  refine ⟨fun k hk => ?_, ?_, ?_, ?_⟩
  · by_cases e : k = j
    · rw [e, u3_e, ub_e]
    · rw [u3_j (by omega), ub_n (by omega)]; exact h0 k hk
  · rw [c0 0 (by decide), u3_c (by decide)]
    intro k hk
    rw [co 1 k (by decide), co 2 k (by decide), co 3 k (by decide), co 4 k (by decide)]
    exact h1 k hk
  · rw [c0 1 (by decide), u3_c (by decide)]
    intro k hk
    rw [co 5 k (by decide), co 6 k (by decide)]
    exact h2 k hk
  · rw [c0 2 (by decide), u3_c (by decide)]
    intro k hk
    rw [co 7 k (by decide), co 8 k (by decide), co 9 k (by decide)]
    exact h3 k hk
theorem MB_f {B : Bd} {M M' : Mem} {j v : Nat} (h : MB B M) (e : M' = am_u3 M 59 (j + 1) 3 (nI v)) : MB (ub B 4 j v) M' := by
  obtain ⟨h0, h1, h2, h3⟩ := h
  subst e
  have co : ∀ f' k, f' ≠ 4 → ub B 4 j v f' k = B f' k := fun f' k g1 => ub_n (by omega)
  refine ⟨fun k hk => ?_, ?_, ?_, ?_⟩
  · rw [u3_c (by decide), co 0 k (by decide)]; exact h0 k hk
  · rw [co 0 0 (by decide)]
    intro k hk
    rw [co 1 k (by decide), co 2 k (by decide), co 3 k (by decide), u3_j (by omega), u3_j (by omega), u3_j (by omega)]
    refine ⟨(h1 k hk).1, (h1 k hk).2.1, (h1 k hk).2.2.1, ?_⟩
    by_cases e : k = j
    · rw [e, u3_e, ub_e]
    · rw [u3_j (by omega), ub_n (by omega)]; exact (h1 k hk).2.2.2
  · rw [co 0 1 (by decide), u3_c (by decide)]
    intro k hk
    rw [co 5 k (by decide), co 6 k (by decide)]
    exact h2 k hk
  · rw [co 0 2 (by decide), u3_c (by decide)]
    intro k hk
    rw [co 7 k (by decide), co 8 k (by decide), co 9 k (by decide)]
    exact h3 k hk
