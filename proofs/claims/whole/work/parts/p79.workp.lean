/-! WORKS: what a text says -/
abbrev Rc : Type := Nat × Nat × Nat
abbrev RW : Type := (Nat × List Rc) ⊕ (Nat × Nat)
def Blk (nb d : Nat) (K : List Rc) : Prop := ∀ P : Nat → List Rc → Prop, (∀ d, P d []) → (∀ d k v K, k < 3 → v < nb → P d K → P d ((k, v, 1) :: K)) → (∀ d K, P d K → P d ((3, 0, 1) :: K)) → (∀ d v J K, v ≤ 60 → P d J → P (d + 1) K → P (d + 1) ((4, v, J.length + 1) :: (J ++ K))) → P d K
theorem Blk_nil (nb d : Nat) : Blk nb d [] := fun P a b c e => a d
theorem Blk_act {nb d k v : Nat} {K : List Rc} (h1 : k < 3) (h2 : v < nb) (h : Blk nb d K) : Blk nb d ((k, v, 1) :: K) := fun P a b c e => b d k v K h1 h2 (h P a b c e)
theorem Blk_hr {nb d : Nat} {K : List Rc} (h : Blk nb d K) : Blk nb d ((3, 0, 1) :: K) := fun P a b c e => c d K (h P a b c e)
theorem Blk_ag {nb d v : Nat} {J K : List Rc} (h1 : v ≤ 60) (hJ : Blk nb d J) (h : Blk nb (d + 1) K) : Blk nb (d + 1) ((4, v, J.length + 1) :: (J ++ K)) := fun P a b c e => e d v J K h1 (hJ P a b c e) (h P a b c e)
theorem Blk_app {nb d : Nat} {K K' : List Rc} (h : Blk nb d K) (h' : Blk nb d K') : Blk nb d (K ++ K') := by
  refine h (fun d K => ∀ K', Blk nb d K' → Blk nb d (K ++ K')) (fun d K' h' => h') (fun d k v K a b ih K' h' => Blk_act a b (ih K' h')) (fun d K ih K' h' => Blk_hr (ih K' h')) (fun d v J K a ih1 ih2 K' h' => ?_) K' h'
  have hJ := ih1 [] (Blk_nil nb d)
  rw [List.append_nil] at hJ
  have := Blk_ag a hJ (ih2 K' h')
  rw [← List.append_assoc] at this
  exact this
def stP (T : Nat → Nat) (n nb : Nat) (S : Option (Nat → RW)) (p : Nat) : RW :=
  if wrd T n nm5 p = -1 then Sum.inr (1, sk T n p)
  else if wrd T n nm5 p = 4 then (match S with
    | none => Sum.inr (3, sk T n p)
    | some S => bd (num T n 0 61 (lE T n (sk T n p))) (fun x => bd (exq T n 91 x.1) (fun e1 => bd (S e1) (fun y => bd (exq T n 93 y.1) (fun e3 => bd (exq T n 59 e3) (fun e4 => Sum.inl (e4, (4, x.2, y.2.length + 1) :: y.2)))))))
  else if wrd T n nm5 p = 3 then bd (exq T n 59 (lE T n (sk T n p))) (fun e4 => Sum.inl (e4, [(3, 0, 1)]))
  else bd (num T n 0 nb (lE T n (sk T n p))) (fun x => bd (exq T n 59 x.1) (fun e4 => Sum.inl (e4, [((wrd T n nm5 p).toNatClampNeg, x.2, 1)])))
def stopB (T : Nat → Nat) (n : Nat) (nest : Bool) (p : Nat) : Bool := if nest = true then decide (sk T n p < n ∧ T (sk T n p) = 93) else decide (¬ sk T n p < n)
abbrev stopW (T : Nat → Nat) (n : Nat) (nest : Bool) (p : Nat) : Prop := stopB T n nest p = true
def rwP (T : Nat → Nat) (n : Nat) (nest : Bool) (U : Nat → RW) : Nat → Nat → List Rc → RW
  | 0, p, L => Sum.inl (p, L)
  | f + 1, p, L => if stopB T n nest p = true then Sum.inl (sk T n p, L) else bd (U p) (fun y => rwP T n nest U f y.1 (L ++ y.2))
def rwD (T : Nat → Nat) (n nb : Nat) : Nat → Nat → RW
  | 0, p => rwP T n true (stP T n nb none) 151 p []
  | d + 1, p => rwP T n true (stP T n nb (some (rwD T n nb d))) 151 p []
def rwO (T : Nat → Nat) (n nb : Nat) : Nat → Option (Nat → RW)
  | 0 => none
  | d + 1 => some (rwD T n nb d)
theorem rwD_e (T : Nat → Nat) (n nb d p : Nat) : rwD T n nb d p = rwP T n true (stP T n nb (rwO T n nb d)) 151 p [] := by cases d <;> rfl
def wkP (T : Nat → Nat) (n nb : Nat) : RW := rwP T n false (stP T n nb (rwO T n nb 6)) 151 0 []
def wOK (n nb d : Nat) (P : Nat → RW) : Prop := ∀ p e K, p ≤ n → P p = Sum.inl (e, K) → p + 5 * K.length ≤ e ∧ e ≤ n ∧ Blk nb d K
theorem wrd5 {T : Nat → Nat} {n p : Nat} (h : ¬ wrd T n nm5 p = -1) : ∃ k, k < 5 ∧ wrd T n nm5 p = nI k ∧ sk T n p + 4 ≤ lE T n (sk T n p) ∧ (k = 4 → sk T n p + 5 ≤ lE T n (sk T n p)) := by
  rcases wI_b T (sk T n p) (lE T n (sk T n p)) nm5 0 (by decide) with z | ⟨i, i1, i2, i3⟩
  · exact absurd z h
  · have hl : ∀ k, k < 5 → 4 ≤ (nm5.getD k []).length ∧ (k = 4 → 5 ≤ (nm5.getD k []).length) := by decide +kernel
    have := hl i i1
    have e := (eqw_iff.mp i3).1
    exact ⟨i, i1, by rw [Nat.zero_add] at i2; exact i2, by omega, fun h => by have := this.2 h; omega⟩
theorem st_ok {T : Nat → Nat} {n nb d : Nat} {S : Option (Nat → RW)} (hS : ∀ S', S = some S' → ∃ d', d = d' + 1 ∧ wOK n nb d' S') : wOK n nb d (stP T n nb S) := by
  intro p e L hp h
  have hs := sk_f (T := T) hp
  have hle := lE_f (T := T) hs.2.1
  unfold stP at h
  by_cases h1 : wrd T n nm5 p = -1
  · rw [if_pos h1] at h; cases h
  · obtain ⟨k, k5, ek, kl, kl4⟩ := wrd5 h1
    rw [if_neg h1] at h
    by_cases h4 : wrd T n nm5 p = 4
    · rw [if_pos h4] at h
      have hk4 : k = 4 := (nI_eq (b := 4) (by omega) (by decide)).mp (ek.symm.trans h4)
      have := kl4 hk4
      cases S with
      | none => cases h
      | some S' =>
        obtain ⟨d', rfl, hS'⟩ := hS S' rfl
        obtain ⟨x, a1, h⟩ := bd_i h
        obtain ⟨e1, a2, h⟩ := bd_i h
        obtain ⟨y, a3, h⟩ := bd_i h
        obtain ⟨e3, a4, h⟩ := bd_i h
        obtain ⟨e4, a5, h⟩ := bd_i h
        have g1 := num_f (e := x.1) (v := x.2) hle.2.1 a1
        have g2 := exq_f g1.2.2.2 a2
        have g3 := hS' e1 y.1 y.2 g2.2 a3
        have g4 := exq_f g3.2.1 a4
        have g5 := exq_f g4.2 a5
        injection h with h
        obtain ⟨rfl, rfl⟩ := Prod.mk.inj h
        refine ⟨by simp; omega, g5.2, ?_⟩
        have := Blk_ag (v := x.2) (by omega) g3.2.2 (Blk_nil nb _)
        rw [List.append_nil] at this
        exact this
    · rw [if_neg h4] at h
      by_cases h3 : wrd T n nm5 p = 3
      · rw [if_pos h3] at h
        obtain ⟨e4, a5, h⟩ := bd_i h
        have g5 := exq_f hle.2.1 a5
        injection h with h
        obtain ⟨rfl, rfl⟩ := Prod.mk.inj h
        exact ⟨by simp; omega, g5.2, Blk_hr (Blk_nil _ _)⟩
      · rw [if_neg h3] at h
        obtain ⟨x, a1, h⟩ := bd_i h
        obtain ⟨e4, a5, h⟩ := bd_i h
        have g1 := num_f (e := x.1) (v := x.2) hle.2.1 a1
        have g5 := exq_f g1.2.2.2 a5
        injection h with h
        obtain ⟨rfl, rfl⟩ := Prod.mk.inj h
        have hk3 : k < 3 := by
          have : k ≠ 3 := fun z => h3 (by rw [ek, z]; rfl)
          have : k ≠ 4 := fun z => h4 (by rw [ek, z]; rfl)
          omega
        rw [ek, nI_clamp (show k < 2 ^ 31 by omega)]
        exact ⟨by simp; omega, g5.2, Blk_act hk3 g1.2.1 (Blk_nil _ _)⟩
theorem rw_ok {T : Nat → Nat} {n nb d : Nat} {nest : Bool} {U : Nat → RW} (hU : wOK n nb d U) : ∀ f p L e K, p ≤ n → Blk nb d L → rwP T n nest U f p L = Sum.inl (e, K) → p + 5 * K.length ≤ e + 5 * L.length ∧ e ≤ n ∧ Blk nb d K
  | 0, p, L, e, K, hp, hL, h => by
    injection h with h
    obtain ⟨rfl, rfl⟩ := Prod.mk.inj h
    exact ⟨by omega, hp, hL⟩
  | f + 1, p, L, e, K, hp, hL, h => by
    have hs := sk_f (T := T) hp
    unfold rwP at h
    by_cases hst : stopW T n nest p
    · rw [if_pos (show stopB T n nest p = true from hst)] at h
      injection h with h
      obtain ⟨rfl, rfl⟩ := Prod.mk.inj h
      exact ⟨by omega, hs.2.1, hL⟩
    · rw [if_neg (show ¬ stopB T n nest p = true from hst)] at h
      obtain ⟨y, y1, y2⟩ := bd_i h
      have g := hU p y.1 y.2 hp y1
      have g2 := rw_ok hU f y.1 (L ++ y.2) e K g.2.1 (Blk_app hL g.2.2) y2
      rw [List.length_append] at g2
      exact ⟨by omega, g2.2.1, g2.2.2⟩
theorem rwD_ok {T : Nat → Nat} {n nb : Nat} : ∀ d, wOK n nb d (rwD T n nb d)
  | 0 => by
    intro p e K hp h
    have := rw_ok (st_ok (T := T) (nb := nb) (d := 0) (S := none) (fun S' h => by cases h)) 151 p [] e K hp (Blk_nil _ _) h
    exact ⟨by simpa using this.1, this.2⟩
  | d + 1 => by
    intro p e K hp h
    have := rw_ok (st_ok (T := T) (nb := nb) (d := d + 1) (S := some (rwD T n nb d)) (fun S' h => by injection h with h; subst h; exact ⟨d, rfl, rwD_ok d⟩)) 151 p [] e K hp (Blk_nil _ _) h
    exact ⟨by simpa using this.1, this.2⟩
theorem rwO_ok {T : Nat → Nat} {n nb d : Nat} : ∀ S', rwO T n nb d = some S' → ∃ d', d = d' + 1 ∧ wOK n nb d' S' := by
  intro S' h
  cases d with
  | zero => cases h
  | succ d => injection h with h; subst h; exact ⟨d, rfl, rwD_ok d⟩
theorem wk_ok {T : Nat → Nat} {n nb e : Nat} {K : List Rc} (h : wkP T n nb = Sum.inl (e, K)) : 5 * K.length ≤ n ∧ Blk nb 6 K := by
  have := rw_ok (st_ok (T := T) (nb := nb) (d := 6) rwO_ok) 151 0 [] e K (Nat.zero_le _) (Blk_nil _ _) h
  refine ⟨?_, this.2.2⟩
  have h1 := this.1
  have h2 := this.2.1
  simp at h1
  omega
theorem rwP_s {T : Nat → Nat} {n f p : Nat} {nest : Bool} {U : Nat → RW} {L : List Rc} (h : stopW T n nest p) : rwP T n nest U (f + 1) p L = Sum.inl (sk T n p, L) := by
  show (if stopB T n nest p = true then _ else _) = _
  rw [if_pos (show stopB T n nest p = true from h)]
theorem rwP_i {T : Nat → Nat} {n f p : Nat} {nest : Bool} {U : Nat → RW} {L : List Rc} {y : Nat × List Rc} (h : ¬ stopW T n nest p) (hu : U p = Sum.inl y) : rwP T n nest U (f + 1) p L = rwP T n nest U f y.1 (L ++ y.2) := by
  show (if stopB T n nest p = true then _ else _) = _
  rw [if_neg (show ¬ stopB T n nest p = true from h)]; exact bd_l hu
theorem rwP_r {T : Nat → Nat} {n f p : Nat} {nest : Bool} {U : Nat → RW} {L : List Rc} {z : Nat × Nat} (h : ¬ stopW T n nest p) (hu : U p = Sum.inr z) : rwP T n nest U (f + 1) p L = Sum.inr z := by
  show (if stopB T n nest p = true then _ else _) = _
  rw [if_neg (show ¬ stopB T n nest p = true from h)]; exact bd_r hu
theorem stopW_sk {T : Nat → Nat} {n p : Nat} {nest : Bool} (hp : p ≤ n) : stopW T n nest (sk T n p) ↔ stopW T n nest p := by unfold stopW stopB; rw [sk_sk hp]
theorem st_sk {T : Nat → Nat} {n nb p : Nat} {S : Option (Nat → RW)} (hp : p ≤ n) : stP T n nb S (sk T n p) = stP T n nb S p := by unfold stP; rw [wrd_sk hp, sk_sk hp]
theorem rwP_sk {T : Nat → Nat} {n nb f p : Nat} {nest : Bool} {S : Option (Nat → RW)} {L : List Rc} (hp : p ≤ n) (hf : 1 ≤ f) : rwP T n nest (stP T n nb S) f (sk T n p) L = rwP T n nest (stP T n nb S) f p L := by
  obtain ⟨g, rfl⟩ : ∃ g, f = g + 1 := ⟨f - 1, by omega⟩
  by_cases h : stopW T n nest p
  · rw [rwP_s h, rwP_s ((stopW_sk hp).mpr h), sk_sk hp]
  · have h' : ¬ stopW T n nest (sk T n p) := fun z => h ((stopW_sk hp).mp z)
    generalize hu : stP T n nb S p = Y
    rcases Y with y | z
    · rw [rwP_i h hu, rwP_i h' ((st_sk hp).trans hu)]
    · rw [rwP_r h hu, rwP_r h' ((st_sk hp).trans hu)]
