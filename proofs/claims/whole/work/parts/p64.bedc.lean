/-! RIVERS: the class reads CLAUSES -/
def r3 (T : Nat → Nat) (n a1 b1 : Nat) (A2 : Nat → Nat) (b2 a3 b3 e : Nat) : (Nat × Nat × Nat × Nat) ⊕ (Nat × Nat) := bd (num T n a1 b1 e) (fun x => bd (num T n (A2 x.2) b2 x.1) (fun y => bd (num T n a3 b3 y.1) (fun z => Sum.inl (z.1, x.2, y.2, z.2))))
def r2 (T : Nat → Nat) (n a1 b1 a2 b2 e : Nat) : (Nat × Nat × Nat) ⊕ (Nat × Nat) := bd (num T n a1 b1 e) (fun x => bd (num T n a2 b2 x.1) (fun y => Sum.inl (y.1, x.2, y.2)))
theorem c_n3 {T : Nat → Nat} {n a1 b1 b2 a3 b3 e : Nat} {A2 : Nat → Nat} {lo hi : Int32 × Mem → Int32} {W : Int32 × Mem → Int32 × Mem → Int32 × Mem → Option Mem} {Q : Mem → Prop} {M : Mem} (h : CS T n e M) (k1 : a1 ≤ 1000 ∧ b1 ≤ 1000 ∧ b2 ≤ 1000 ∧ a3 ≤ 1000 ∧ b3 ≤ 1000) (h2 : ∀ e1 v M', num T n a1 b1 e = Sum.inl (e1, v) → cmv M M' → lo (nI v, M') = nI (A2 v) ∧ hi (nI v, M') = nI b2 - 1 ∧ A2 v ≤ 1000) (hF : ∀ f M', r3 T n a1 b1 A2 b2 a3 b3 e = Sum.inr f → CF T n f.1 f.2 M' → cmv M M' → Q M') (hS : ∀ p v1 v2 v3 M1 M2 M3, r3 T n a1 b1 A2 b2 a3 b3 e = Sum.inl (p, v1, v2, v3) → (a1 ≤ v1 ∧ v1 < b1) → (A2 v1 ≤ v2 ∧ v2 < b2) → (a3 ≤ v3 ∧ v3 < b3) → CS T n p M3 → cmv M M3 → ok (W (nI v1, M1) (nI v2, M2) (nI v3, M3)) Q) : ok (Option.bind (f_X10_number (nI a1) (nI b1 - 1) M) (fun x => Option.bind (f_X10_number (lo x) (hi x) x.2) (fun y => Option.bind (f_X10_number (nI a3) (nI b3 - 1) y.2) (fun z => if f_X10_isFaulty z.2 = 0 then W x y z else some z.2)))) Q := by
  refine ok_bind (c_num (a := a1) (b := b1) h k1.1 k1.2.1) ?_
  rintro ⟨v1, M1⟩ ⟨h1, m1, -⟩
  simp only at h1 m1
  generalize hn1 : num T n a1 b1 e = N1 at h1
  rcases N1 with ⟨e1, x1⟩ | f
  · obtain ⟨rfl, s1⟩ := h1
    simp only at s1
    have g1 := num_f h.2.1 hn1
    obtain ⟨l1, l2, l3⟩ := h2 e1 x1 M1 hn1 m1
    show ok (Option.bind (f_X10_number (lo (nI x1, M1)) (hi (nI x1, M1)) M1) _) Q
    rw [l1, l2]
    refine ok_bind (c_num (a := A2 x1) (b := b2) s1 l3 k1.2.2.1) ?_
    rintro ⟨v2, M2⟩ ⟨h2', m2, -⟩
    simp only at h2' m2
    generalize hn2 : num T n (A2 x1) b2 e1 = N2 at h2'
    rcases N2 with ⟨e2, x2⟩ | f
    · obtain ⟨rfl, s2⟩ := h2'
      simp only at s2
      have g2 := num_f g1.2.2.2 hn2
      refine ok_bind (c_num (a := a3) (b := b3) s2 k1.2.2.2.1 k1.2.2.2.2) ?_
      rintro ⟨v3, M3⟩ ⟨h3, m3, -⟩
      simp only at h3 m3
      have m := cmv_tr m1 (cmv_tr m2 m3)
      generalize hn3 : num T n a3 b3 e2 = N3 at h3
      rcases N3 with ⟨e3, x3⟩ | f
      · obtain ⟨rfl, s3⟩ := h3
        simp only at s3
        have g3 := num_f g2.2.2.2 hn3
        refine ok_ifp (fty0 s3) (hS e3 x1 x2 x3 M1 M2 M3 ?_ ⟨g1.1, g1.2.1⟩ ⟨g2.1, g2.2.1⟩ ⟨g3.1, g3.2.1⟩ s3 m)
        unfold r3
        rw [bd_l hn1, bd_l hn2, bd_l hn3]
      · obtain ⟨-, s3⟩ := h3
        exact ok_ifn (fty1 s3) (ok_some (hF f M3 (by unfold r3; rw [bd_l hn1, bd_l hn2, bd_r hn3]) s3 m))
    · obtain ⟨-, s2⟩ := h2'
      refine ok_bind (c_numF s2) ?_
      rintro ⟨v3, M3⟩ ⟨-, s3, m3⟩
      simp only at s3 m3
      exact ok_ifn (fty1 s3) (ok_some (hF f M3 (by unfold r3; rw [bd_l hn1, bd_r hn2]) s3 (cmv_tr m1 (cmv_tr m2 m3))))
  · obtain ⟨-, s1⟩ := h1
    refine ok_bind (c_numF s1) ?_
    rintro ⟨v2, M2⟩ ⟨-, s2, m2⟩
    simp only at s2 m2
    refine ok_bind (c_numF s2) ?_
    rintro ⟨v3, M3⟩ ⟨-, s3, m3⟩
    simp only at s3 m3
    exact ok_ifn (fty1 s3) (ok_some (hF f M3 (by unfold r3; rw [bd_r hn1]) s3 (cmv_tr m1 (cmv_tr m2 m3))))
theorem c_n3F {T : Nat → Nat} {n k q : Nat} {a1 b1 a3 b3 : Int32} {lo hi : Int32 × Mem → Int32} {W : Int32 × Mem → Int32 × Mem → Int32 × Mem → Option Mem} {Q : Mem → Prop} {M : Mem} (h : CF T n k q M) (hF : ∀ M', CF T n k q M' → cmv M M' → Q M') : ok (Option.bind (f_X10_number a1 b1 M) (fun x => Option.bind (f_X10_number (lo x) (hi x) x.2) (fun y => Option.bind (f_X10_number a3 b3 y.2) (fun z => if f_X10_isFaulty z.2 = 0 then W x y z else some z.2)))) Q := by
  refine ok_bind (c_numF h) ?_
  rintro ⟨v1, M1⟩ ⟨-, s1, m1⟩
  simp only at s1 m1
  refine ok_bind (c_numF s1) ?_
  rintro ⟨v2, M2⟩ ⟨-, s2, m2⟩
  simp only at s2 m2
  refine ok_bind (c_numF s2) ?_
  rintro ⟨v3, M3⟩ ⟨-, s3, m3⟩
  simp only at s3 m3
  exact ok_ifn (fty1 s3) (ok_some (hF M3 s3 (cmv_tr m1 (cmv_tr m2 m3))))
theorem c_n2 {T : Nat → Nat} {n a1 b1 a2 b2 e : Nat} {W : Int32 × Mem → Int32 × Mem → Option Mem} {Q : Mem → Prop} {M : Mem} (h : CS T n e M) (k1 : a1 ≤ 1000 ∧ b1 ≤ 1000 ∧ a2 ≤ 1000 ∧ b2 ≤ 1000) (hF : ∀ f M', r2 T n a1 b1 a2 b2 e = Sum.inr f → CF T n f.1 f.2 M' → cmv M M' → Q M') (hS : ∀ p v1 v2 M1 M2, r2 T n a1 b1 a2 b2 e = Sum.inl (p, v1, v2) → (a1 ≤ v1 ∧ v1 < b1) → (a2 ≤ v2 ∧ v2 < b2) → CS T n p M2 → cmv M M2 → ok (W (nI v1, M1) (nI v2, M2)) Q) : ok (Option.bind (f_X10_number (nI a1) (nI b1 - 1) M) (fun x => Option.bind (f_X10_number (nI a2) (nI b2 - 1) x.2) (fun z => if f_X10_isFaulty z.2 = 0 then W x z else some z.2))) Q := by
  refine ok_bind (c_num (a := a1) (b := b1) h k1.1 k1.2.1) ?_
  rintro ⟨v1, M1⟩ ⟨h1, m1, -⟩
  simp only at h1 m1
  generalize hn1 : num T n a1 b1 e = N1 at h1
  rcases N1 with ⟨e1, x1⟩ | f
  · obtain ⟨rfl, s1⟩ := h1
    simp only at s1
    have g1 := num_f h.2.1 hn1
    refine ok_bind (c_num (a := a2) (b := b2) s1 k1.2.2.1 k1.2.2.2) ?_
    rintro ⟨v2, M2⟩ ⟨h2', m2, -⟩
    simp only at h2' m2
    have m := cmv_tr m1 m2
    generalize hn2 : num T n a2 b2 e1 = N2 at h2'
    rcases N2 with ⟨e2, x2⟩ | f
    · obtain ⟨rfl, s2⟩ := h2'
      simp only at s2
      have g2 := num_f g1.2.2.2 hn2
      exact ok_ifp (fty0 s2) (hS e2 x1 x2 M1 M2 (by unfold r2; rw [bd_l hn1, bd_l hn2]) ⟨g1.1, g1.2.1⟩ ⟨g2.1, g2.2.1⟩ s2 m)
    · obtain ⟨-, s2⟩ := h2'
      exact ok_ifn (fty1 s2) (ok_some (hF f M2 (by unfold r2; rw [bd_l hn1, bd_r hn2]) s2 m))
  · obtain ⟨-, s1⟩ := h1
    refine ok_bind (c_numF s1) ?_
    rintro ⟨v2, M2⟩ ⟨-, s2, m2⟩
    simp only at s2 m2
    exact ok_ifn (fty1 s2) (ok_some (hF f M2 (by unfold r2; rw [bd_r hn1]) s2 (cmv_tr m1 m2)))
theorem c_n2F {T : Nat → Nat} {n k q : Nat} {a1 b1 a2 b2 : Int32} {W : Int32 × Mem → Int32 × Mem → Option Mem} {Q : Mem → Prop} {M : Mem} (h : CF T n k q M) (hF : ∀ M', CF T n k q M' → cmv M M' → Q M') : ok (Option.bind (f_X10_number a1 b1 M) (fun x => Option.bind (f_X10_number a2 b2 x.2) (fun z => if f_X10_isFaulty z.2 = 0 then W x z else some z.2))) Q := by
  refine ok_bind (c_numF h) ?_
  rintro ⟨v1, M1⟩ ⟨-, s1, m1⟩
  simp only at s1 m1
  refine ok_bind (c_numF s1) ?_
  rintro ⟨v2, M2⟩ ⟨-, s2, m2⟩
  simp only at s2 m2
  exact ok_ifn (fty1 s2) (ok_some (hF M2 s2 (cmv_tr m1 m2)))
theorem bdy_0 {T : Nat → Nat} {n e q : Nat} {B : Bd} (h : ¬ B 0 0 = 16) : bdy T n B 0 e q = bd (r3 T n 0 10 (fun _ => 0) 21 0 10 e) (fun x => Sum.inl (x.1, bB B x.2.1 x.2.2.1 x.2.2.2)) := by
  unfold bdy r3
  rw [if_pos rfl, if_neg h]
  cases num T n 0 10 e with
  | inr f => rfl
  | inl x =>
    show bd (num T n 0 21 x.1) _ = bd (bd (num T n 0 21 x.1) _) _
    cases num T n 0 21 x.1 with
    | inr f => rfl
    | inl y =>
      show bd (num T n 0 10 y.1) _ = bd (bd (num T n 0 10 y.1) _) _
      cases num T n 0 10 y.1 <;> rfl
theorem bdy_1 {T : Nat → Nat} {n e q : Nat} {B : Bd} (h : ¬ B 0 1 = 4) : bdy T n B 1 e q = bd (r2 T n 0 10 0 96 e) (fun x => Sum.inl (x.1, bG B x.2.1 x.2.2)) := by
  unfold bdy r2
  rw [if_neg (by decide), if_pos rfl, if_neg h]
  cases num T n 0 10 e with
  | inr f => rfl
  | inl x =>
    show bd (num T n 0 96 x.1) _ = bd (bd (num T n 0 96 x.1) _) _
    cases num T n 0 96 x.1 <;> rfl
theorem bdy_3 {T : Nat → Nat} {n e q : Nat} {B : Bd} (h : ¬ B 0 2 = 8) : bdy T n B 3 e q = bd (r3 T n 0 (B 0 0) (fun v => v) (B 0 0) 1 41 e) (fun x => Sum.inl (x.1, bT B x.2.1 x.2.2.1 x.2.2.2)) := by
  unfold bdy r3
  rw [if_neg (by decide), if_neg (by decide), if_neg (by decide), if_pos rfl, if_neg h]
  cases num T n 0 (B 0 0) e with
  | inr f => rfl
  | inl x =>
    show bd (num T n x.2 (B 0 0) x.1) _ = bd (bd (num T n x.2 (B 0 0) x.1) _) _
    cases num T n x.2 (B 0 0) x.1 with
    | inr f => rfl
    | inl y =>
      show bd (num T n 1 41 y.1) _ = bd (bd (num T n 1 41 y.1) _) _
      cases num T n 1 41 y.1 <;> rfl
theorem bdy_4 {T : Nat → Nat} {n e q : Nat} {B : Bd} : bdy T n B 4 e q = bd (r2 T n 0 (B 0 0) 0 41 e) (fun x => Sum.inl (x.1, ub B 4 x.2.1 x.2.2)) := by
  unfold bdy r2
  rw [if_neg (by decide), if_neg (by decide), if_neg (by decide), if_neg (by decide), if_pos rfl]
  cases num T n 0 (B 0 0) e with
  | inr f => rfl
  | inl x =>
    show bd (num T n 0 41 x.1) _ = bd (bd (num T n 0 41 x.1) _) _
    cases num T n 0 41 x.1 <;> rfl
theorem bdy_2 {T : Nat → Nat} {n e q : Nat} {B : Bd} : bdy T n B 2 e q = bd (num T n 1 5 e) (fun x => Sum.inl (x.1, ub B 0 3 x.2)) := rfl
theorem bdy_5 {T : Nat → Nat} {n e q : Nat} {B : Bd} : bdy T n B 5 e q = bd (num T n 0 5 e) (fun x => Sum.inl (x.1, ub B 0 4 x.2)) := rfl
theorem bdy_00 {T : Nat → Nat} {n e q : Nat} {B : Bd} (h : B 0 0 = 16) : bdy T n B 0 e q = Sum.inr (3, q) := by unfold bdy; rw [if_pos rfl, if_pos h]
theorem bdy_10 {T : Nat → Nat} {n e q : Nat} {B : Bd} (h : B 0 1 = 4) : bdy T n B 1 e q = Sum.inr (3, q) := by unfold bdy; rw [if_neg (by decide), if_pos rfl, if_pos h]
theorem bdy_30 {T : Nat → Nat} {n e q : Nat} {B : Bd} (h : B 0 2 = 8) : bdy T n B 3 e q = Sum.inr (3, q) := by unfold bdy; rw [if_neg (by decide), if_neg (by decide), if_neg (by decide), if_pos rfl, if_pos h]
theorem CB_B {B : Bd} {M : Mem} {a b d : Nat} (h : CB B M) (h16 : B 0 0 < 16) : CB (bB B a b d) (am_u3 (am_u3 (am_u3 (am_u3 M 14 0 (B 0 0) (nI a)) 15 0 (B 0 0) (nI b)) 16 0 (B 0 0) (nI d)) 13 0 0 (nI (B 0 0 + 1))) := by
  obtain ⟨h0, h1, h2, h3, h4, h5, h6, h7, h8⟩ := h
  have e0 : bB B a b d 0 0 = B 0 0 + 1 := ub_e _ _ _ _
  have eo : ∀ f j, f ≠ 1 → f ≠ 2 → f ≠ 3 → f ≠ 4 → ¬ (f = 0 ∧ j = 0) → bB B a b d f j = B f j := by
    intro f j g1 g2 g3 g4 g0
    unfold bB
    rw [ub_n g0, ub_n (fun z => g4 z.1), ub_n (fun z => g3 z.1), ub_n (fun z => g2 z.1), ub_n (fun z => g1 z.1)]
  refine ⟨by rw [e0, u3_e], ?_, ?_, ?_, ?_, fun j hj => ?_, fun j hj hj2 => ?_, fun j hj => ?_, fun j hj => ?_⟩
  · rw [eo 0 1 (by decide) (by decide) (by decide) (by decide) (by decide), u3_j (by omega), u3_c (by decide), u3_c (by decide), u3_c (by decide)]; exact h1
  · rw [eo 0 2 (by decide) (by decide) (by decide) (by decide) (by decide), u3_j (by omega), u3_c (by decide), u3_c (by decide), u3_c (by decide)]; exact h2
  · rw [eo 0 3 (by decide) (by decide) (by decide) (by decide) (by decide), u3_j (by omega), u3_c (by decide), u3_c (by decide), u3_c (by decide)]; exact h3
  · rw [eo 0 4 (by decide) (by decide) (by decide) (by decide) (by decide), u3_j (by omega), u3_c (by decide), u3_c (by decide), u3_c (by decide)]; exact h4
  · rw [e0] at hj
    have f1 : bB B a b d 1 j = if j = B 0 0 then a else B 1 j := by
      unfold bB
      rw [ub_n (by omega), ub_n (by omega), ub_n (by omega), ub_n (by omega)]
      unfold ub
      by_cases e : j = B 0 0
      · rw [if_pos ⟨rfl, e⟩, if_pos e]
      · rw [if_neg (fun z => e z.2), if_neg e]
    have f2 : bB B a b d 2 j = if j = B 0 0 then b else B 2 j := by
      unfold bB
      rw [ub_n (by omega), ub_n (by omega), ub_n (by omega)]
      by_cases e : j = B 0 0
      · rw [e, ub_e, if_pos rfl]
      · rw [ub_n (by omega), ub_n (by omega), if_neg e]
    have f3 : bB B a b d 3 j = if j = B 0 0 then d else B 3 j := by
      unfold bB
      rw [ub_n (by omega), ub_n (by omega)]
      by_cases e : j = B 0 0
      · rw [e, ub_e, if_pos rfl]
      · rw [ub_n (by omega), ub_n (by omega), ub_n (by omega), if_neg e]
    have f4 : bB B a b d 4 j = if j = B 0 0 then 0 else B 4 j := by
      unfold bB
      rw [ub_n (by omega)]
      by_cases e : j = B 0 0
      · rw [e, ub_e, if_pos rfl]
      · rw [ub_n (by omega), ub_n (by omega), ub_n (by omega), ub_n (by omega), if_neg e]
    rw [f1, f2, f3, f4]
    by_cases e : j = B 0 0
    · subst e
      rw [if_pos rfl, if_pos rfl, if_pos rfl, if_pos rfl, u3_c (by decide), u3_c (by decide), u3_c (by decide), u3_e, u3_c (by decide), u3_c (by decide), u3_e, u3_c (by decide), u3_e, u3_c (by decide), u3_c (by decide), u3_c (by decide), u3_c (by decide), h6 _ h16 (Nat.le_refl _)]
      exact ⟨rfl, rfl, rfl, rfl⟩
    · rw [if_neg e, if_neg e, if_neg e, if_neg e, u3_c (by decide), u3_c (by decide), u3_c (by decide), u3_j (by omega), u3_c (by decide), u3_c (by decide), u3_j (by omega), u3_c (by decide), u3_c (by decide), u3_j (by omega), u3_c (by decide), u3_c (by decide), u3_c (by decide), u3_c (by decide), u3_c (by decide), u3_c (by decide)]
      exact h5 j (by omega)
  · rw [e0] at hj2
    rw [u3_c (by decide), u3_c (by decide), u3_c (by decide), u3_c (by decide)]
    exact h6 j hj (by omega)
  · rw [eo 0 1 (by decide) (by decide) (by decide) (by decide) (by decide)] at hj
    rw [eo 5 j (by decide) (by decide) (by decide) (by decide) (by omega), eo 6 j (by decide) (by decide) (by decide) (by decide) (by omega), u3_c (by decide), u3_c (by decide), u3_c (by decide), u3_c (by decide), u3_c (by decide), u3_c (by decide), u3_c (by decide), u3_c (by decide)]
    exact h7 j hj
  · rw [eo 0 2 (by decide) (by decide) (by decide) (by decide) (by decide)] at hj
    rw [eo 7 j (by decide) (by decide) (by decide) (by decide) (by omega), eo 8 j (by decide) (by decide) (by decide) (by decide) (by omega), eo 9 j (by decide) (by decide) (by decide) (by decide) (by omega), u3_c (by decide), u3_c (by decide), u3_c (by decide), u3_c (by decide), u3_c (by decide), u3_c (by decide), u3_c (by decide), u3_c (by decide), u3_c (by decide), u3_c (by decide), u3_c (by decide), u3_c (by decide)]
    exact h8 j hj
