/-! WHAT A RUN GIVES: ok, loops, frames, small numbers -/
def ok {α : Type} (x : Option α) (Q : α → Prop) : Prop := ∃ a, x = some a ∧ Q a
theorem ok_some {α : Type} {a : α} {Q : α → Prop} (h : Q a) : ok (some a) Q := ⟨a, rfl, h⟩
theorem ok_of {α : Type} {x : Option α} {a : α} {Q : α → Prop} (e : x = some a) (h : Q a) : ok x Q := ⟨a, e, h⟩
theorem ok_mono {α : Type} {x : Option α} {P Q : α → Prop} (h : ok x P) (k : ∀ a, P a → Q a) : ok x Q := by
  obtain ⟨a, e, p⟩ := h
  exact ⟨a, e, k a p⟩
theorem ok_bind {α β : Type} {x : Option α} {f : α → Option β} {P : α → Prop} {Q : β → Prop} (h : ok x P) (k : ∀ a, P a → ok (f a) Q) : ok (Option.bind x f) Q := by
  obtain ⟨a, e, p⟩ := h
  rw [e]
  exact k a p
theorem ok_bindE {α β : Type} {x : Option α} {f : α → Option β} {a : α} {Q : β → Prop} (e : x = some a) (k : ok (f a) Q) : ok (Option.bind x f) Q := by
  rw [e]
  exact k
theorem ok_if {α : Type} {c : Prop} {i : Decidable c} {a b : Option α} {Q : α → Prop} (h1 : c → ok a Q) (h2 : ¬ c → ok b Q) : ok (@ite _ c i a b) Q := by
  by_cases hc : c
  · rw [if_pos hc]; exact h1 hc
  · rw [if_neg hc]; exact h2 hc
theorem ok_ifp {α : Type} {c : Prop} {i : Decidable c} {a b : Option α} {Q : α → Prop} (hc : c) (h : ok a Q) : ok (@ite _ c i a b) Q := by
  rw [if_pos hc]; exact h
theorem ok_ifn {α : Type} {c : Prop} {i : Decidable c} {a b : Option α} {Q : α → Prop} (hc : ¬ c) (h : ok b Q) : ok (@ite _ c i a b) Q := by
  rw [if_neg hc]; exact h
/-- a loop's step: on with I, or out with Q -/
def stp {S E : Type} (I : S → Prop) (Q : E → Prop) : S ⊕ E → Prop
  | .inl s => I s
  | .inr e => Q e
theorem ok_whn {S E : Type} {B : S → Option (S ⊕ E)} {Q : E → Prop} (I : Nat → S → Prop) (N : Nat) (hs : ∀ k s, k < N → I k s → ok (B s) (stp (I (k + 1)) Q)) (he : ∀ s, I N s → ok (B s) (stp (fun _ => False) Q)) : ∀ (n k : Nat) (s : S), k ≤ N → N < n + k → I k s → ok (wh B n s) Q
  | 0, k, s, h1, h2, _ => by omega
  | n + 1, k, s, h1, h2, hI => by
    by_cases hk : k = N
    · subst hk
      obtain ⟨x, e, q⟩ := he s hI
      unfold wh
      rw [e]
      match x, q with
      | .inr e', q => exact ⟨e', rfl, q⟩
    · obtain ⟨x, e, q⟩ := hs k s (by omega) hI
      unfold wh
      rw [e]
      match x, q with
      | .inl s', q => exact ok_whn I N hs he n (k + 1) s' (by omega) (by omega) q
      | .inr e', q => exact ⟨e', rfl, q⟩
theorem ok_wh {S E : Type} {B : S → Option (S ⊕ E)} {Q : E → Prop} (I : Nat → S → Prop) (N : Nat) {s : S} (h0 : I 0 s) (hN : N < 100000) (hs : ∀ k s, k < N → I k s → ok (B s) (stp (I (k + 1)) Q)) (he : ∀ s, I N s → ok (B s) (stp (fun _ => False) Q)) : ok (wh B FU s) Q :=
  ok_whn I N hs he FU 0 s (Nat.zero_le _) (by rw [FU_eq]; omega) h0
/-- a loop whose states are known -/
theorem wh_forn {S E : Type} {B : S → Option (S ⊕ E)} (g : Nat → S) (N : Nat) (e : E) (hs : ∀ k, k < N → B (g k) = some (.inl (g (k + 1)))) (he : B (g N) = some (.inr e)) : ∀ n k, k ≤ N → N < n + k → wh B n (g k) = some e
  | 0, k, h1, h2 => by omega
  | n + 1, k, h1, h2 => by
    by_cases hk : k = N
    · subst hk
      unfold wh
      rw [he]
    · unfold wh
      rw [hs k (by omega)]
      exact wh_forn g N e hs he n (k + 1) (by omega) (by omega)
theorem wh_for {S E : Type} {B : S → Option (S ⊕ E)} (g : Nat → S) (N : Nat) (e : E) (hN : N < 100000) (hs : ∀ k, k < N → B (g k) = some (.inl (g (k + 1)))) (he : B (g N) = some (.inr e)) : wh B FU (g 0) = some e :=
  wh_forn g N e hs he FU 0 (Nat.zero_le _) (by rw [FU_eq]; omega)
/-- only cells of S may have changed -/
def fr (S : List Nat) (M M' : Mem) : Prop := ∀ c, c ∉ S → M' c = M c
theorem fr_rfl {S : List Nat} {M : Mem} : fr S M M := fun _ _ => rfl
theorem fr_tr {S : List Nat} {M M1 M2 : Mem} (a : fr S M M1) (b : fr S M1 M2) : fr S M M2 := fun c h => (b c h).trans (a c h)
theorem fr_mono {S T : List Nat} {M M' : Mem} (a : fr S M M') (h : ∀ c, c ∈ S → c ∈ T) : fr T M M' := fun c hc => a c (fun z => hc (h c z))
theorem u3_c {M : Mem} {c r j : Nat} {v : Int32} {c' : Nat} (h : c' ≠ c) : am_u3 M c r j v c' = M c' := by
  funext r' j'
  unfold am_u3
  rw [if_neg (fun z => h z.1)]
theorem u3_e (M : Mem) (c r j : Nat) (v : Int32) : am_u3 M c r j v c r j = v := by
  unfold am_u3
  rw [if_pos ⟨rfl, rfl, rfl⟩]
theorem u3_j {M : Mem} {c r j : Nat} {v : Int32} {r' j' : Nat} (h : ¬ (r' = r ∧ j' = j)) : am_u3 M c r j v c r' j' = M c r' j' := by
  unfold am_u3
  rw [if_neg (fun z => h z.2)]
theorem u3_x (M : Mem) (c r j : Nat) (v : Int32) (c' r' j' : Nat) : am_u3 M c r j v c' r' j' = if c' = c ∧ r' = r ∧ j' = j then v else M c' r' j' := rfl
theorem fr_u3 {S : List Nat} {M M' : Mem} {c r j : Nat} {v : Int32} (a : fr S M M') (h : c ∈ S) : fr S M (am_u3 M' c r j v) := fun c' hc => (u3_c (c := c) (c' := c') (fun z => hc (by rw [z]; exact h))).trans (a c' hc)
/-- small numbers -/
theorem inb_n {k n : Nat} (h : k < n) (hn : n ≤ 2 ^ 31) : inb (nI k) n = true := by
  unfold inb
  rw [nI_clamp (by omega), decide_eq_true (nI_pos' (by omega))]
  simpa [Nat.blt_eq] using h
theorem inb_of {x : Int32} {k n : Nat} (e : x = nI k) (h : k < n) (hn : n ≤ 2 ^ 31 := by decide) : inb x n = true := by rw [e]; exact inb_n h hn
theorem cl_of {x : Int32} {k : Nat} (e : x = nI k) (h : k < 2 ^ 31) : x.toNatClampNeg = k := by rw [e]; exact nI_clamp h
theorem nI_sub {a b : Nat} (h : b ≤ a) : nI a - nI b = nI (a - b) := by
  obtain ⟨c, rfl⟩ := Nat.exists_eq_add_of_le h
  rw [← nI_add, Nat.add_sub_cancel_left, Int32.add_comm, Int32.sub_eq_add_neg, Int32.add_assoc, ← Int32.sub_eq_add_neg, Int32.sub_self, Int32.add_zero]
theorem nI_mul (a b : Nat) : nI a * nI b = nI (a * b) := (Int32.ofNat_mul a b).symm
theorem of_inb {x : Int32} {n : Nat} (h : inb x n = true) : ∃ k, x = nI k ∧ k < n ∧ k < 2 ^ 31 := by
  unfold inb at h
  simp only [Bool.and_eq_true, decide_eq_true_eq] at h
  obtain ⟨j, hj, rfl⟩ := nI_of (x := x) (by intro z; exact absurd h.1 (by rw [Int32.not_le]; exact z))
  refine ⟨j, rfl, ?_, hj⟩
  have := h.2
  rw [nI_clamp hj] at this
  simpa [Nat.blt_eq] using this
theorem rng {x : Int32} {n : Nat} (hn : n < 2 ^ 31) (h0 : 0 ≤ x) (h1 : x ≤ nI n) : ∃ k, x = nI k ∧ k ≤ n := by
  obtain ⟨j, hj, e⟩ := nI_of2 (M := nI n) (n := n) (nI_toInt hn) (x := x) (by intro z; exact absurd h0 (by rw [Int32.not_le]; exact z)) h1
  exact ⟨j, e, hj⟩
theorem n31 {k n : Nat} (h : k < n) (hn : n ≤ 2 ^ 31 := by decide) : k < 2 ^ 31 := Nat.lt_of_lt_of_le h hn
