/-! RIVERS: what a text tells -/
def bd {α β : Type} (x : α ⊕ (Nat × Nat)) (f : α → β ⊕ (Nat × Nat)) : β ⊕ (Nat × Nat) := match x with
  | Sum.inl a => f a
  | Sum.inr z => Sum.inr z
theorem bd_l {α β : Type} {x : α ⊕ (Nat × Nat)} {a : α} {f : α → β ⊕ (Nat × Nat)} (e : x = Sum.inl a) : bd x f = f a := by rw [e]; rfl
theorem bd_r {α β : Type} {x : α ⊕ (Nat × Nat)} {z : Nat × Nat} {f : α → β ⊕ (Nat × Nat)} (e : x = Sum.inr z) : bd x f = Sum.inr z := by rw [e]; rfl
/-- fields: 0 how many (0 boards, 1 barges, 2 streets), 3 flow, 4 smell; 1 clear, 2 bears, 3 drains, 4 fish; 5 mast, 6 comes; 7 from, 8 to, 9 need -/
abbrev Bd : Type := Nat → Nat → Nat
def ub (B : Bd) (f j v : Nat) : Bd := fun f' j' => if f' = f ∧ j' = j then v else B f' j'
theorem ub_e (B : Bd) (f j v : Nat) : ub B f j v f j = v := by unfold ub; rw [if_pos ⟨rfl, rfl⟩]
theorem ub_n {B : Bd} {f j v f' j' : Nat} (h : ¬ (f' = f ∧ j' = j)) : ub B f j v f' j' = B f' j' := by unfold ub; rw [if_neg h]
def bB (B : Bd) (a b d : Nat) : Bd := ub (ub (ub (ub (ub B 1 (B 0 0) a) 2 (B 0 0) b) 3 (B 0 0) d) 4 (B 0 0) 0) 0 0 (B 0 0 + 1)
def bG (B : Bd) (a b : Nat) : Bd := ub (ub (ub B 5 (B 0 1) a) 6 (B 0 1) b) 0 1 (B 0 1 + 1)
def bT (B : Bd) (a b d : Nat) : Bd := ub (ub (ub (ub B 7 (B 0 2) a) 8 (B 0 2) b) 9 (B 0 2) d) 0 2 (B 0 2 + 1)
def WB (B : Bd) : Prop := B 0 0 ≤ 16 ∧ B 0 1 ≤ 4 ∧ B 0 2 ≤ 8 ∧ (1 ≤ B 0 3 ∧ B 0 3 ≤ 4) ∧ B 0 4 ≤ 4 ∧ (∀ j, j < B 0 0 → B 1 j ≤ 9 ∧ B 2 j ≤ 20 ∧ B 3 j ≤ 9 ∧ B 4 j ≤ 40) ∧ (∀ j, j < B 0 1 → B 5 j ≤ 9 ∧ B 6 j ≤ 95) ∧ (∀ j, j < B 0 2 → B 7 j ≤ B 8 j ∧ B 8 j < B 0 0 ∧ 1 ≤ B 9 j ∧ B 9 j ≤ 40)
theorem WB_B {B : Bd} {a b d : Nat} (h : WB B) (h16 : ¬ B 0 0 = 16) (ha : a < 10) (hb : b < 21) (hd : d < 10) : WB (bB B a b d) := by
  obtain ⟨h0, h1, h2, h3, h4, h5, h6, h7⟩ := h
  have e0 : bB B a b d 0 0 = B 0 0 + 1 := ub_e _ _ _ _
  have eo : ∀ f j, f ≠ 1 → f ≠ 2 → f ≠ 3 → f ≠ 4 → ¬ (f = 0 ∧ j = 0) → bB B a b d f j = B f j := by
    intro f j g1 g2 g3 g4 g0
    unfold bB
    rw [ub_n g0, ub_n (fun z => g4 z.1), ub_n (fun z => g3 z.1), ub_n (fun z => g2 z.1), ub_n (fun z => g1 z.1)]
  refine ⟨by rw [e0]; omega, by rw [eo 0 1 (by decide) (by decide) (by decide) (by decide) (by decide)]; exact h1, by rw [eo 0 2 (by decide) (by decide) (by decide) (by decide) (by decide)]; exact h2, by rw [eo 0 3 (by decide) (by decide) (by decide) (by decide) (by decide)]; exact h3, by rw [eo 0 4 (by decide) (by decide) (by decide) (by decide) (by decide)]; exact h4, fun j hj => ?_, ?_, ?_⟩
  · rw [e0] at hj
    unfold bB
    by_cases e : j = B 0 0
    · subst e
      rw [ub_n (by omega), ub_n (by omega), ub_n (by omega), ub_n (by omega), ub_e, ub_n (by omega), ub_n (by omega), ub_n (by omega), ub_e, ub_n (by omega), ub_n (by omega), ub_e, ub_n (by omega), ub_e]
      omega
    · rw [ub_n (by omega), ub_n (by omega), ub_n (by omega), ub_n (by omega), ub_n (by omega), ub_n (by omega), ub_n (by omega), ub_n (by omega), ub_n (by omega), ub_n (by omega), ub_n (by omega), ub_n (by omega), ub_n (by omega), ub_n (by omega), ub_n (by omega), ub_n (by omega), ub_n (by omega), ub_n (by omega), ub_n (by omega), ub_n (by omega)]
      exact h5 j (by omega)
  · rw [eo 0 1 (by decide) (by decide) (by decide) (by decide) (by decide)]
    intro j hj
    rw [eo 5 j (by decide) (by decide) (by decide) (by decide) (by omega), eo 6 j (by decide) (by decide) (by decide) (by decide) (by omega)]
    exact h6 j hj
  · rw [eo 0 2 (by decide) (by decide) (by decide) (by decide) (by decide)]
    intro j hj
    rw [eo 7 j (by decide) (by decide) (by decide) (by decide) (by omega), eo 8 j (by decide) (by decide) (by decide) (by decide) (by omega), eo 9 j (by decide) (by decide) (by decide) (by decide) (by omega), e0]
    have := h7 j hj
    omega
theorem WB_G {B : Bd} {a b : Nat} (h : WB B) (h4' : ¬ B 0 1 = 4) (ha : a < 10) (hb : b < 96) : WB (bG B a b) := by
  obtain ⟨h0, h1, h2, h3, h4, h5, h6, h7⟩ := h
  have e1 : bG B a b 0 1 = B 0 1 + 1 := ub_e _ _ _ _
  have eo : ∀ f j, f ≠ 5 → f ≠ 6 → ¬ (f = 0 ∧ j = 1) → bG B a b f j = B f j := by
    intro f j g1 g2 g0
    unfold bG
    rw [ub_n g0, ub_n (fun z => g2 z.1), ub_n (fun z => g1 z.1)]
  refine ⟨by rw [eo 0 0 (by decide) (by decide) (by decide)]; exact h0, by rw [e1]; omega, by rw [eo 0 2 (by decide) (by decide) (by decide)]; exact h2, by rw [eo 0 3 (by decide) (by decide) (by decide)]; exact h3, by rw [eo 0 4 (by decide) (by decide) (by decide)]; exact h4, ?_, fun j hj => ?_, ?_⟩
  · rw [eo 0 0 (by decide) (by decide) (by decide)]
    intro j hj
    rw [eo 1 j (by decide) (by decide) (by omega), eo 2 j (by decide) (by decide) (by omega), eo 3 j (by decide) (by decide) (by omega), eo 4 j (by decide) (by decide) (by omega)]
    exact h5 j hj
  · rw [e1] at hj
    unfold bG
    by_cases e : j = B 0 1
    · subst e
      rw [ub_n (by omega), ub_n (by omega), ub_e, ub_n (by omega), ub_e]
      omega
    · rw [ub_n (by omega), ub_n (by omega), ub_n (by omega), ub_n (by omega), ub_n (by omega), ub_n (by omega)]
      exact h6 j (by omega)
  · rw [eo 0 2 (by decide) (by decide) (by decide), eo 0 0 (by decide) (by decide) (by decide)]
    intro j hj
    rw [eo 7 j (by decide) (by decide) (by omega), eo 8 j (by decide) (by decide) (by omega), eo 9 j (by decide) (by decide) (by omega)]
    exact h7 j hj
theorem WB_T {B : Bd} {a b d : Nat} (h : WB B) (h8 : ¬ B 0 2 = 8) (hab : a ≤ b) (hb : b < B 0 0) (hd : 1 ≤ d) (hd2 : d < 41) : WB (bT B a b d) := by
  obtain ⟨h0, h1, h2, h3, h4, h5, h6, h7⟩ := h
  have e2 : bT B a b d 0 2 = B 0 2 + 1 := ub_e _ _ _ _
  have eo : ∀ f j, f ≠ 7 → f ≠ 8 → f ≠ 9 → ¬ (f = 0 ∧ j = 2) → bT B a b d f j = B f j := by
    intro f j g1 g2 g3 g0
    unfold bT
    rw [ub_n g0, ub_n (fun z => g3 z.1), ub_n (fun z => g2 z.1), ub_n (fun z => g1 z.1)]
  refine ⟨by rw [eo 0 0 (by decide) (by decide) (by decide) (by decide)]; exact h0, by rw [eo 0 1 (by decide) (by decide) (by decide) (by decide)]; exact h1, by rw [e2]; omega, by rw [eo 0 3 (by decide) (by decide) (by decide) (by decide)]; exact h3, by rw [eo 0 4 (by decide) (by decide) (by decide) (by decide)]; exact h4, ?_, ?_, fun j hj => ?_⟩
  · rw [eo 0 0 (by decide) (by decide) (by decide) (by decide)]
    intro j hj
    rw [eo 1 j (by decide) (by decide) (by decide) (by omega), eo 2 j (by decide) (by decide) (by decide) (by omega), eo 3 j (by decide) (by decide) (by decide) (by omega), eo 4 j (by decide) (by decide) (by decide) (by omega)]
    exact h5 j hj
  · rw [eo 0 1 (by decide) (by decide) (by decide) (by decide)]
    intro j hj
    rw [eo 5 j (by decide) (by decide) (by decide) (by omega), eo 6 j (by decide) (by decide) (by decide) (by omega)]
    exact h6 j hj
  · rw [e2] at hj
    rw [eo 0 0 (by decide) (by decide) (by decide) (by decide)]
    unfold bT
    by_cases e : j = B 0 2
    · subst e
      rw [ub_n (by omega), ub_n (by omega), ub_n (by omega), ub_e, ub_n (by omega), ub_n (by omega), ub_e, ub_n (by omega), ub_e]
      omega
    · rw [ub_n (by omega), ub_n (by omega), ub_n (by omega), ub_n (by omega), ub_n (by omega), ub_n (by omega), ub_n (by omega), ub_n (by omega), ub_n (by omega), ub_n (by omega), ub_n (by omega), ub_n (by omega)]
      exact h7 j (by omega)
theorem WB_u {B : Bd} {f j v : Nat} (h : WB B) (hc : (f = 0 ∧ j = 3 ∧ 1 ≤ v ∧ v < 5) ∨ (f = 0 ∧ j = 4 ∧ v < 5) ∨ (f = 4 ∧ v < 41)) : WB (ub B f j v) := by
  obtain ⟨h0, h1, h2, h3, h4, h5, h6, h7⟩ := h
  have c0 : ∀ k, k < 3 → ub B f j v 0 k = B 0 k := fun k hk => ub_n (by omega)
  have co : ∀ f' k, f' ≠ 0 → f' ≠ 4 → ub B f j v f' k = B f' k := fun f' k g1 g2 => ub_n (by omega)
  refine ⟨by rw [c0 0 (by decide)]; exact h0, by rw [c0 1 (by decide)]; exact h1, by rw [c0 2 (by decide)]; exact h2, ?_, ?_, ?_, ?_, ?_⟩
  · unfold ub
    split
    · omega
    · exact h3
  · unfold ub
    split
    · omega
    · exact h4
  · rw [c0 0 (by decide)]
    intro k hk
    rw [co 1 k (by decide) (by decide), co 2 k (by decide) (by decide), co 3 k (by decide) (by decide)]
    refine ⟨(h5 k hk).1, (h5 k hk).2.1, (h5 k hk).2.2.1, ?_⟩
    unfold ub
    split
    · omega
    · exact (h5 k hk).2.2.2
  · rw [c0 1 (by decide)]
    intro k hk
    rw [co 5 k (by decide) (by decide), co 6 k (by decide) (by decide)]
    exact h6 k hk
  · rw [c0 2 (by decide), c0 0 (by decide)]
    intro k hk
    rw [co 7 k (by decide) (by decide), co 8 k (by decide) (by decide), co 9 k (by decide) (by decide)]
    exact h7 k hk
def bdy (T : Nat → Nat) (n : Nat) (B : Bd) (k e q : Nat) : (Nat × Bd) ⊕ (Nat × Nat) :=
  if k = 0 then (if B 0 0 = 16 then Sum.inr (3, q) else bd (num T n 0 10 e) (fun x => bd (num T n 0 21 x.1) (fun y => bd (num T n 0 10 y.1) (fun z => Sum.inl (z.1, bB B x.2 y.2 z.2)))))
  else if k = 1 then (if B 0 1 = 4 then Sum.inr (3, q) else bd (num T n 0 10 e) (fun x => bd (num T n 0 96 x.1) (fun y => Sum.inl (y.1, bG B x.2 y.2))))
  else if k = 2 then bd (num T n 1 5 e) (fun x => Sum.inl (x.1, ub B 0 3 x.2))
  else if k = 3 then (if B 0 2 = 8 then Sum.inr (3, q) else bd (num T n 0 (B 0 0) e) (fun x => bd (num T n x.2 (B 0 0) x.1) (fun y => bd (num T n 1 41 y.1) (fun z => Sum.inl (z.1, bT B x.2 y.2 z.2)))))
  else if k = 4 then bd (num T n 0 (B 0 0) e) (fun x => bd (num T n 0 41 x.1) (fun y => Sum.inl (y.1, ub B 4 x.2 y.2)))
  else bd (num T n 0 5 e) (fun x => Sum.inl (x.1, ub B 0 4 x.2))
def cla (T : Nat → Nat) (n : Nat) (B : Bd) (c p : Nat) : (Nat × Bd) ⊕ (Nat × Nat) := if wrd T n nm0 p = -1 then Sum.inr (1, sk T n p) else if c = 60 then Sum.inr (3, sk T n p) else bd (bdy T n B (wrd T n nm0 p).toNatClampNeg (lE T n (sk T n p)) (sk T n p)) (fun y => bd (exq T n 59 y.1) (fun e => Sum.inl (e, y.2)))
def rv (T : Nat → Nat) (n : Nat) : Nat → Nat → Bd → Nat → Bd ⊕ (Nat × Nat)
  | 0, _, B, _ => Sum.inl B
  | f + 1, c, B, p => if sk T n p < n then bd (cla T n B c p) (fun y => rv T n f (c + 1) y.2 y.1) else Sum.inl B
/-- the class's draft -/
def CB (B : Bd) (M : Mem) : Prop := M 13 0 0 = nI (B 0 0) ∧ M 13 0 5 = nI (B 0 1) ∧ M 13 0 8 = nI (B 0 2) ∧ M 13 0 12 = nI (B 0 3) ∧ M 13 0 13 = nI (B 0 4) ∧ (∀ j, j < B 0 0 → M 14 0 j = nI (B 1 j) ∧ M 15 0 j = nI (B 2 j) ∧ M 16 0 j = nI (B 3 j) ∧ M 17 0 j = nI (B 4 j)) ∧ (∀ j, j < 16 → B 0 0 ≤ j → M 17 0 j = 0) ∧ (∀ j, j < B 0 1 → M 18 0 j = nI (B 5 j) ∧ M 19 0 j = nI (B 6 j)) ∧ (∀ j, j < B 0 2 → M 20 0 j = nI (B 7 j) ∧ M 21 0 j = nI (B 8 j) ∧ M 22 0 j = nI (B 9 j))
theorem CB_m {B : Bd} {M M' : Mem} (h : CB B M) (a : cmv M M') : CB B M' := by
  unfold CB at *
  rw [a.1 13 (by decide), a.1 14 (by decide), a.1 15 (by decide), a.1 16 (by decide), a.1 17 (by decide), a.1 18 (by decide), a.1 19 (by decide), a.1 20 (by decide), a.1 21 (by decide), a.1 22 (by decide)]
  exact h
def dB : List Nat := [1, 13, 14, 15, 16, 17, 18, 19, 20, 21, 22]
def rmv (M M' : Mem) : Prop := fr dB M M' ∧ M' 1 0 1 = M 1 0 1
theorem rmv_c {M M' : Mem} (a : cmv M M') : rmv M M' := ⟨fr_mono a.1 (by decide), a.2.1⟩
theorem rmv_tr {M M1 M2 : Mem} (a : rmv M M1) (b : rmv M1 M2) : rmv M M2 := ⟨fr_tr a.1 b.1, b.2.trans a.2⟩
theorem rmv_u {M M' : Mem} {c r j : Nat} {v : Int32} (a : rmv M M') (h : c ∈ dB) (h1 : c ≠ 1) : rmv M (am_u3 M' c r j v) := ⟨fr_u3 a.1 h, by rw [u3_c (Ne.symm h1)]; exact a.2⟩
theorem CS_o {T : Nat → Nat} {n p : Nat} {M M' : Mem} (h : CS T n p M) (e1 : M' 1 = M 1) (e2 : M' 2 = M 2) : CS T n p M' := by
  unfold CS CT at *
  rw [e1, e2]; exact h
theorem CF_o {T : Nat → Nat} {n k q : Nat} {M M' : Mem} (h : CF T n k q M) (e1 : M' 1 = M 1) (e2 : M' 2 = M 2) : CF T n k q M' := by
  unfold CF CT at *
  rw [e1, e2]; exact h
/-- behind a CLAUSE's numbers -/
def QC (T : Nat → Nat) (n : Nat) (x : (Nat × Bd) ⊕ (Nat × Nat)) (M : Mem) : Prop := match x with
  | Sum.inl y => CS T n y.1 M ∧ CB y.2 M ∧ WB y.2
  | Sum.inr f => CF T n f.1 f.2 M
