/-! KEPT BY EVERY CALL: nothing stays frozen -/
def P9 (M : Mem) : Prop := M 54 0 39 = 0
def pc {α : Type} (Q : α → Prop) (x : Option α) : Prop := ∀ a, x = some a → Q a
def sQ {α β : Type} (P : α → Prop) (Q : β → Prop) (x : α ⊕ β) : Prop := match x with
  | Sum.inl a => P a
  | Sum.inr b => Q b
theorem pc_none {α : Type} {Q : α → Prop} : pc Q none := fun a h => by cases h
theorem pc_some {α : Type} {Q : α → Prop} {a : α} (h : Q a) : pc Q (some a) := fun b e => by injection e with e; subst e; exact h
theorem pc_T {α : Type} {x : Option α} : pc (fun _ => True) x := fun _ _ => trivial
theorem pc_ite {α : Type} {Q : α → Prop} {c : Prop} {i : Decidable c} {a b : Option α} (h1 : pc Q a) (h2 : pc Q b) : pc Q (@ite _ c i a b) := by
  by_cases h : c
  · rw [if_pos h]; exact h1
  · rw [if_neg h]; exact h2
theorem pc_bind {α β : Type} {P : α → Prop} {Q : β → Prop} {x : Option α} {f : α → Option β} (h : pc P x) (k : ∀ a, P a → pc Q (f a)) : pc Q (Option.bind x f) := by
  cases x with
  | none => exact pc_none
  | some a => exact k a (h a rfl)
theorem pc_wh {S E : Type} {B : S → Option (S ⊕ E)} {I : S → Prop} {Q : E → Prop} (hB : ∀ s, I s → pc (sQ I Q) (B s)) : ∀ {n : Nat} {s : S}, I s → pc Q (wh B n s)
  | 0, _, _ => pc_none
  | n + 1, s, h => by
    show pc Q (match B s with | none => none | some (.inl s') => wh B n s' | some (.inr e) => some e)
    cases hb : B s with
    | none => exact pc_none
    | some x =>
      have hx := hB s h x hb
      cases x with
      | inl s' => exact pc_wh hB hx
      | inr e => exact pc_some hx
theorem P9_c {M : Mem} {c r j : Nat} {v : Int32} (h : P9 M) (hc : c ≠ 54) : P9 (am_u3 M c r j v) := by
  unfold P9
  rw [u3_c (Ne.symm hc)]; exact h
theorem P9_j {M : Mem} {r j : Nat} {v : Int32} (h : P9 M) (hj : j ≠ 39) : P9 (am_u3 M 54 r j v) := by
  unfold P9
  rw [u3_j (fun z => hj z.2.symm)]; exact h
theorem P9_0 {M : Mem} : P9 (am_u3 M 54 0 39 0) := u3_e _ _ _ _ _
theorem P9_wrong {M : Mem} {x y : Int32} (h : P9 M) : P9 (f_X12_wrong x y M) := by
  unfold f_X12_wrong
  by_cases hc : M 54 0 5 = 0
  · rw [if_pos hc]; exact P9_j (P9_j h (by decide)) (by decide)
  · rw [if_neg hc]; exact h
theorem P9_open {M : Mem} (h : P9 M) : P9 (f_X12_opensOne M).2 := by
  unfold f_X12_opensOne
  by_cases h1 : M 54 0 5 = 0
  · rw [if_pos h1]
    by_cases h2 : M 54 0 8 = 6
    · rw [if_pos h2]
      by_cases h3 : (f_X12_wrong 3 (M 54 0 4) M) 54 0 5 = 0
      · rw [if_pos h3]; exact P9_wrong h
      · rw [if_neg h3]; exact P9_wrong h
    · rw [if_neg h2]; exact P9_j h (by decide)
  · rw [if_neg h1]; exact h
