/-! WALKS: straight ways are shortest -/
def mn2 (x y : Nat) : Nat := if x = 0 then (if y = 0 then 0 else y + 1) else if y = 0 then x + 1 else if x ≤ y then x + 1 else y + 1
/-- how many BOARDS are trodden on a straight way to the g-th (0: none such), and to the one ahead of it -/
def dwp (F : Nat → Bool) : Nat → Nat × Nat
  | 0 => (if F 0 = true then 1 else 0, 0)
  | g + 1 => (if F (g + 1) = true then mn2 (dwp F g).1 (dwp F g).2 else 0, (dwp F g).1)
def dw (F : Nat → Bool) (g : Nat) : Nat := (dwp F g).1
theorem dw_s (F : Nat → Bool) (g : Nat) : dw F (g + 1) = if F (g + 1) = true then mn2 (dw F g) (dwp F g).2 else 0 := rfl
theorem dwp_2 (F : Nat → Bool) (g : Nat) : (dwp F (g + 1)).2 = dw F g := rfl
theorem dw_F {F : Nat → Bool} : ∀ {g : Nat}, dw F g ≠ 0 → F g = true
  | 0, h => by
    unfold dw dwp at h
    cases hf : F 0
    · rw [hf] at h; exact absurd rfl h
    · rfl
  | g + 1, h => by
    rw [dw_s] at h
    cases hf : F (g + 1)
    · rw [hf] at h; exact absurd rfl h
    · rfl
theorem mn2_f (x y : Nat) : (mn2 x y ≠ 0 → (x ≠ 0 ∧ mn2 x y = x + 1) ∨ (y ≠ 0 ∧ mn2 x y = y + 1)) ∧ (x ≠ 0 → mn2 x y ≠ 0 ∧ mn2 x y ≤ x + 1) ∧ (y ≠ 0 → mn2 x y ≠ 0 ∧ mn2 x y ≤ y + 1) := by
  unfold mn2
  refine ⟨fun h => ?_, fun h => ?_, fun h => ?_⟩ <;> (repeat' split) <;> (repeat' split at *) <;> omega
/-- the one ahead on the way -/
theorem dw_pred {F : Nat → Bool} : ∀ {g : Nat}, dw F g ≠ 0 → (g = 0 ∧ dw F g = 1) ∨ (∃ p, p < g ∧ g ≤ p + 2 ∧ dw F p ≠ 0 ∧ dw F g = dw F p + 1)
  | 0, h => by
    left
    refine ⟨rfl, ?_⟩
    have := dw_F h
    unfold dw dwp
    rw [if_pos this]
  | g + 1, h => by
    right
    have hF := dw_F h
    rw [dw_s, if_pos hF] at h ⊢
    rcases (mn2_f _ _).1 h with ⟨h1, h2⟩ | ⟨h1, h2⟩
    · exact ⟨g, by omega, by omega, h1, h2⟩
    · match g, h1, h2 with
      | 0, h1, h2 => exact absurd rfl h1
      | g + 1, h1, h2 => exact ⟨g, by omega, by omega, h1, h2⟩
theorem dw_up {F : Nat → Bool} {g h : Nat} (hF : F g = true) (h1 : h < g) (h2 : g ≤ h + 2) (h0 : dw F h ≠ 0) : dw F g ≠ 0 ∧ dw F g ≤ dw F h + 1 := by
  obtain ⟨k, rfl⟩ : ∃ k, g = k + 1 := ⟨g - 1, by omega⟩
  rw [dw_s, if_pos hF]
  have : h = k ∨ h + 1 = k := by omega
  rcases this with rfl | rfl
  · exact (mn2_f _ _).2.1 h0
  · exact (mn2_f _ _).2.2 h0
theorem dw_down {F : Nat → Bool} {g : Nat} (hF : F g = true) : ∀ (h : Nat), g ≤ h → dw F h ≠ 0 → dw F g ≠ 0 ∧ dw F g ≤ dw F h := by
  intro h
  induction h using Nat.strongRecOn with
  | _ h ih =>
    intro hg h0
    by_cases e : g = h
    · subst e; exact ⟨h0, Nat.le_refl _⟩
    · rcases dw_pred h0 with ⟨z, -⟩ | ⟨p, p1, p2, p3, p4⟩
      · omega
      · by_cases hp : g ≤ p
        · obtain ⟨a1, a2⟩ := ih p p1 hp p3
          exact ⟨a1, by omega⟩
        · obtain ⟨a1, a2⟩ := dw_up hF (show p < g by omega) (by omega) p3
          exact ⟨a1, by omega⟩
theorem dw_0 {F : Nat → Bool} {g : Nat} (h : dw F g ≠ 0) : F 0 = true := by
  induction g using Nat.strongRecOn with
  | _ g ih =>
    rcases dw_pred h with ⟨z, -⟩ | ⟨p, p1, -, p3, -⟩
    · subst z; exact dw_F h
    · exact ih p p1 p3
theorem dw_b (F : Nat → Bool) : ∀ g, dw F g ≤ g + 1 := by
  intro g
  induction g using Nat.strongRecOn with
  | _ g ih =>
    by_cases h : dw F g = 0
    · omega
    · rcases dw_pred h with ⟨z, z2⟩ | ⟨p, p1, -, p3, p4⟩
      · omega
      · have := ih p p1
        omega
def fR (fm : Nat → Bool) (a : Nat) (g : Nat) : Bool := fm (a + g)
def fL (fm : Nat → Bool) (a : Nat) (g : Nat) : Bool := decide (g ≤ a) && fm (a - g)
/-- how many BOARDS are trodden from a to b -/
def tw (fm : Nat → Bool) (a b : Nat) : Nat := if a ≤ b then dw (fR fm a) (b - a) else dw (fL fm a) (a - b)
theorem tw_fm {fm : Nat → Bool} {a b : Nat} (h : tw fm a b ≠ 0) : fm b = true := by
  unfold tw at h
  split at h
  · have := dw_F h
    unfold fR at this
    rw [show a + (b - a) = b by omega] at this
    exact this
  · have := dw_F h
    unfold fL at this
    rw [show a - (a - b) = b by omega] at this
    simpa using this
theorem tw_a {fm : Nat → Bool} {a b : Nat} (h : tw fm a b ≠ 0) : fm a = true := by
  unfold tw at h
  split at h
  · exact dw_0 h
  · have := dw_0 h
    unfold fL at this
    simpa using this
theorem tw_0 (fm : Nat → Bool) (a : Nat) : tw fm a a = if fm a = true then 1 else 0 := by
  unfold tw
  rw [if_pos (Nat.le_refl _), Nat.sub_self]
  rfl
theorem tw_bound (fm : Nat → Bool) {a b n : Nat} (ha : a < n) (hb : b < n) : tw fm a b ≤ n := by
  unfold tw
  split
  · have := dw_b (fR fm a) (b - a); omega
  · have := dw_b (fL fm a) (a - b); omega
theorem tw_pred {fm : Nat → Bool} {a b : Nat} (h : 2 ≤ tw fm a b) : ∃ x, x ≤ b + 2 ∧ b ≤ x + 2 ∧ (x < b ∨ x ≤ a) ∧ tw fm a x + 1 = tw fm a b := by
  unfold tw at h
  by_cases hab : a ≤ b
  · rw [if_pos hab] at h
    rcases dw_pred (show dw (fR fm a) (b - a) ≠ 0 by omega) with ⟨-, z⟩ | ⟨p, p1, p2, p3, p4⟩
    · omega
    · refine ⟨a + p, by omega, by omega, by omega, ?_⟩
      unfold tw
      rw [if_pos (by omega), if_pos hab, show a + p - a = p by omega, p4]
  · rw [if_neg hab] at h
    rcases dw_pred (show dw (fL fm a) (a - b) ≠ 0 by omega) with ⟨-, z⟩ | ⟨p, p1, p2, p3, p4⟩
    · omega
    · refine ⟨a - p, by omega, by omega, by omega, ?_⟩
      by_cases hp : p = 0
      · subst hp
        rw [Nat.sub_zero, tw_0]
        unfold tw
        rw [if_neg hab, p4]
        rfl
      · unfold tw
        rw [if_neg (by omega), if_neg hab, show a - (a - p) = p by omega, p4]
theorem tw_adj {fm : Nat → Bool} {a b x : Nat} (hb : fm b = true) (h1 : x ≤ b + 2) (h2 : b ≤ x + 2) (hx : tw fm a x ≠ 0) : tw fm a b ≠ 0 ∧ tw fm a b ≤ tw fm a x + 1 := by
  have ha := tw_a hx
  by_cases hab : a ≤ b
  · have hF : fR fm a (b - a) = true := by unfold fR; rw [show a + (b - a) = b by omega]; exact hb
    by_cases hax : a ≤ x
    · unfold tw at hx ⊢
      rw [if_pos hax] at hx
      rw [if_pos hab, if_pos hax]
      by_cases hxb : x < b
      · exact dw_up hF (by omega) (by omega) hx
      · obtain ⟨z1, z2⟩ := dw_down hF (x - a) (by omega) hx
        exact ⟨z1, by omega⟩
    · have h0 : dw (fR fm a) 0 = 1 := by
        unfold dw dwp
        rw [if_pos (show fR fm a 0 = true from ha)]
      have hxx : 1 ≤ tw fm a x := by omega
      generalize tw fm a x = X at hxx
      unfold tw
      rw [if_pos hab]
      have : b - a = 0 ∨ b - a = 1 := by omega
      rcases this with z | z
      · rw [z, h0]; omega
      · rw [z] at hF
        have := dw_up (h := 0) hF (by omega) (by omega) (by rw [h0]; decide)
        rw [z]
        exact ⟨this.1, by omega⟩
  · have hF : fL fm a (a - b) = true := by unfold fL; rw [show a - (a - b) = b by omega, hb]; simp
    by_cases hax : a ≤ x
    · have h0 : dw (fL fm a) 0 = 1 := by
        unfold dw dwp
        rw [if_pos (show fL fm a 0 = true by unfold fL; simpa using ha)]
      have hxx : 1 ≤ tw fm a x := by omega
      have hu : a - b ≤ 2 := by omega
      have : tw fm a b ≠ 0 ∧ tw fm a b ≤ 2 := by
        unfold tw
        rw [if_neg hab]
        have := dw_up (h := 0) hF (by omega) (by omega) (by rw [h0]; decide)
        exact ⟨this.1, by omega⟩
      exact ⟨this.1, by omega⟩
    · unfold tw at hx ⊢
      rw [if_neg hax] at hx
      rw [if_neg hab, if_neg hax]
      by_cases hxb : b < x
      · exact dw_up hF (by omega) (by omega) hx
      · obtain ⟨z1, z2⟩ := dw_down hF (a - x) (by omega) hx
        exact ⟨z1, by omega⟩
/-- a round of the model: who comes next -/
theorem tw_next {fm : Nat → Bool} {a b m n : Nat} (ha : a < n) (hbn : b < n) (hb : fm b = true) (h : tw fm a b = 0 ∨ m < tw fm a b) (hm : 1 ≤ m) : (∃ x, x ≤ b + 2 ∧ b ≤ x + 2 ∧ x < n ∧ tw fm a x = m) ↔ tw fm a b = m + 1 := by
  constructor
  · rintro ⟨x, h1, h2, -, h3⟩
    obtain ⟨z1, z2⟩ := tw_adj (a := a) (x := x) hb h1 h2 (by rw [h3]; omega)
    omega
  · intro hh
    obtain ⟨x, h1, h2, h3, h4⟩ := tw_pred (show 2 ≤ tw fm a b by omega)
    exact ⟨x, h1, h2, by omega, by omega⟩
theorem tw_1 {fm : Nat → Bool} {a b : Nat} (h : tw fm a b = 1) : b = a := by
  unfold tw at h
  split at h
  · rcases dw_pred (show dw (fR fm a) (b - a) ≠ 0 by omega) with ⟨z, -⟩ | ⟨p, -, -, p3, p4⟩
    · omega
    · omega
  · rcases dw_pred (show dw (fL fm a) (a - b) ≠ 0 by omega) with ⟨z, -⟩ | ⟨p, -, -, p3, p4⟩
    · omega
    · omega
def enc (d : Nat) : Int32 := if d = 0 then -1 else nI d
theorem enc_0 {d : Nat} (hd : d < 2 ^ 31) : enc d = -1 ↔ d = 0 := by
  unfold enc
  by_cases h : d = 0
  · rw [if_pos h]; exact ⟨fun _ => h, fun _ => rfl⟩
  · rw [if_neg h]; exact ⟨fun z => absurd z (nI_m1 hd), fun z => absurd z h⟩
theorem enc_n {d : Nat} (h : d ≠ 0) : enc d = nI d := by unfold enc; rw [if_neg h]
theorem c_way {qc qd : Nat} {x1 x4 x5 : Int32} {F : Nat → Bool} {far : Nat} (hfar : far ≤ 16) (hF : ∀ k, 1 ≤ k → k ≤ far → f_X11_isBitOf x4 (x1 + x5 * nI k) = if F k = true then 1 else 0) : wh (L_X11_walk_77 qc qd x1 x4 x5 (nI far)) FU ((-1 : Int32), enc (dw F 0), (1 : Int32)) = some (enc (dw F far)) := by
  refine wh_for (fun j => (enc (dwp F j).2, enc (dwp F j).1, nI (j + 1))) far _ (by omega) ?_ ?_
  · intro k hk
    have b1 := dw_b F k
    have b2 : (dwp F k).2 ≤ k + 1 := by
      match k with
      | 0 => exact Nat.zero_le _
      | k + 1 => have := dw_b F k; show dw F k ≤ _; omega
    unfold L_X11_walk_77
    simp only []
    rw [if_neg (nI_nlt (show k + 1 ≤ far by omega) (by omega)), hF (k + 1) (by omega) (by omega), nI_1, dwp_2]
    rw [show (dwp F (k + 1)).1 = if F (k + 1) = true then mn2 (dw F k) (dwp F k).2 else 0 from rfl, show (dwp F k).1 = dw F k from rfl]
    generalize (dwp F k).2 = y at b2
    generalize dw F k = x at b1
    cases hf : F (k + 1)
    · rw [ifb0, iff0]; rfl
    · rw [ifb1, iff1]
      unfold mn2
      by_cases hx : x = 0
      · rw [if_pos ((enc_0 (by omega)).mpr hx), if_pos hx]
        by_cases hy : y = 0
        · rw [if_pos ((enc_0 (by omega)).mpr hy), if_pos hy]; rfl
        · rw [if_neg (fun z => hy ((enc_0 (by omega)).mp z)), if_neg hy, enc_n hy, enc_n (Nat.succ_ne_zero y), Int32.add_comm, nI_1]
      · rw [if_neg (fun z => hx ((enc_0 (by omega)).mp z)), if_neg hx, enc_n hx]
        by_cases hy : y = 0
        · rw [if_pos ((enc_0 (by omega)).mpr hy), if_pos hy, enc_n (Nat.succ_ne_zero x), Int32.add_comm, nI_1]
        · rw [if_neg (fun z => hy ((enc_0 (by omega)).mp z)), if_neg hy, enc_n hy]
          by_cases hxy : x ≤ y
          · rw [if_pos (nI_le hxy (by omega)), if_pos hxy, enc_n (Nat.succ_ne_zero x), Int32.add_comm, nI_1]
          · rw [if_neg (nI_ge (by omega) (by omega)), if_neg hxy, enc_n (Nat.succ_ne_zero y), Int32.add_comm, nI_1]
  · unfold L_X11_walk_77
    simp only []
    rw [if_pos (nI_lt (by omega) (by omega))]
    rfl
