/-! LAWS: what a text says -/
def ixO (t : Nat) : List Nat → Nat → Option Nat
  | [], _ => none
  | c :: cs, j => if t = c then some j else ixO t cs (j + 1)
/-- which sign stands here -/
def sgI (T : Nat → Nat) (n : Nat) (sg : List Nat) (p : Nat) : Option Nat := if sk T n p < n then ixO (T (sk T n p)) sg 0 else none
theorem ixO_b {t : Nat} : ∀ {cs : List Nat} {j i : Nat}, ixO t cs j = some i → j ≤ i ∧ i < j + cs.length ∧ cs.getD (i - j) 0 = t
  | [], _, _, h => by cases h
  | c :: cs, j, i, h => by
    unfold ixO at h
    by_cases e : t = c
    · rw [if_pos e] at h
      injection h with h
      subst h
      refine ⟨Nat.le_refl _, by simp, ?_⟩
      rw [Nat.sub_self]; exact e.symm
    · rw [if_neg e] at h
      obtain ⟨a, b, d⟩ := ixO_b h
      refine ⟨by omega, by simp; omega, ?_⟩
      rw [show i - j = (i - (j + 1)) + 1 by omega]
      exact d
theorem ixO_n {t : Nat} : ∀ {cs : List Nat} {j : Nat}, ixO t cs j = none → ∀ c, c ∈ cs → t ≠ c
  | [], _, _, c, hc => by cases hc
  | c :: cs, j, h, c', hc => by
    unfold ixO at h
    by_cases e : t = c
    · rw [if_pos e] at h; cases h
    · rw [if_neg e] at h
      rcases List.mem_cons.mp hc with z | z
      · rw [z]; exact e
      · exact ixO_n h c' z
abbrev RLq : Type := (Nat × List Nat) ⊕ (Nat × Nat)
def unP (T : Nat → Nat) (n : Nat) (S : Option (Nat → RLq)) (p : Nat) : RLq :=
  if cD T n (sk T n p) = true then bd (num T n 0 1000 p) (fun x => Sum.inl (x.1, [15 + x.2]))
  else if sk T n p < n ∧ T (sk T n p) = 40 then (match S with
    | none => Sum.inr (3, sk T n p)
    | some S => bd (S (sk T n p + 1)) (fun x => bd (exq T n 41 x.1) (fun e => Sum.inl (e, x.2))))
  else if wrd T n nm4 p = -1 then Sum.inr (1, sk T n p)
  else if (wrd T n nm4 p).toNatClampNeg < 8 then Sum.inl (lE T n (sk T n p), [(wrd T n nm4 p).toNatClampNeg])
  else (match S with
    | none => Sum.inr (3, sk T n p)
    | some S => bd (exq T n 91 (lE T n (sk T n p))) (fun e1 => bd (S e1) (fun x => bd (exq T n 44 x.1) (fun e2 => bd (S e2) (fun y => bd (exq T n 93 y.1) (fun e3 => Sum.inl (e3, x.2 ++ y.2 ++ [(wrd T n nm4 p).toNatClampNeg])))))))
def lpP (T : Nat → Nat) (n : Nat) (U : Nat → RLq) (sg : List Nat) (base : Nat) : Nat → Nat → List Nat → RLq
  | 0, p, L => Sum.inl (p, L)
  | f + 1, p, L => match sgI T n sg p with
    | none => Sum.inl (sk T n p, L)
    | some i => bd (U (sk T n p + 1)) (fun y => lpP T n U sg base f y.1 (L ++ y.2 ++ [base + i]))
def tmP (T : Nat → Nat) (n : Nat) (U : Nat → RLq) (sg : List Nat) (base p : Nat) : RLq := bd (U p) (fun x => lpP T n U sg base 151 x.1 x.2)
def sg2 : List Nat := [42, 47, 37]
def sg1 : List Nat := [43, 45]
def prP (T : Nat → Nat) (n : Nat) (S : Option (Nat → RLq)) (p : Nat) : RLq := tmP T n (unP T n S) sg2 12 p
def suP (T : Nat → Nat) (n : Nat) (S : Option (Nat → RLq)) (p : Nat) : RLq := tmP T n (prP T n S) sg1 10 p
def sD (T : Nat → Nat) (n : Nat) : Nat → Nat → RLq
  | 0, p => suP T n none p
  | d + 1, p => suP T n (some (sD T n d)) p
def sO (T : Nat → Nat) (n : Nat) : Nat → Option (Nat → RLq)
  | 0 => none
  | d + 1 => some (sD T n d)
theorem sD_e (T : Nat → Nat) (n d p : Nat) : sD T n d p = suP T n (sO T n d) p := by cases d <;> rfl
/-- codes that leave values on the stack as they should -/
def wfL (L : List Nat) : Prop := ∀ (base : Nat) (pre : Nat → Int32) (k : Nat), (∀ i, i < L.length → pre (k + i) = nI (L.getD i 0)) → dpt pre k = base → (∀ i, i < L.length → 0 ≤ pre (k + i) ∧ (opc (pre (k + i)) = true → 2 ≤ dpt pre (k + i))) ∧ dpt pre (k + L.length) = base + 1
theorem dpt_s (cd : Nat → Int32) (k : Nat) : dpt cd (k + 1) = if opc (cd k) = true then dpt cd k - 1 else dpt cd k + 1 := rfl
theorem opc_n {c : Nat} (hc : c ≤ 2000) : opc (nI c) = (decide (8 ≤ c) && decide (c < 15)) := by
  unfold opc
  have e1 : ((8 : Int32) ≤ nI c) ↔ 8 ≤ c := nI_leI (a := 8) (by decide) (by omega)
  have e2 : (nI c < (15 : Int32)) ↔ c < 15 := nI_ltI (b := 15) (by omega) (by decide)
  rw [decide_eq_decide.mpr e1, decide_eq_decide.mpr e2]
theorem wfL_1 {c : Nat} (hc : c < 8 ∨ (15 ≤ c ∧ c ≤ 2000)) : wfL [c] := by
  intro base pre k h hb
  have e := h 0 (by simp)
  rw [Nat.add_zero, show [c].getD 0 0 = c from rfl] at e
  have ho : opc (pre k) = false := by
    rw [e, opc_n (by omega)]
    rcases hc with z | z
    · rw [decide_eq_false (by omega)]; rfl
    · rw [decide_eq_false (show ¬ c < 15 by omega), Bool.and_false]
  refine ⟨fun i hi => ?_, ?_⟩
  · have : i = 0 := by simpa using hi
    subst this
    rw [Nat.add_zero, ho, e]
    exact ⟨nI_pos' (by omega), fun z => by cases z⟩
  · show dpt pre (k + 1) = base + 1
    rw [dpt_s, ho, if_neg (by decide), hb]
theorem getD_l {L K : List Nat} {i : Nat} (h : i < L.length) : (L ++ K).getD i 0 = L.getD i 0 := by simp [List.getElem?_append, h]
theorem getD_r {L K : List Nat} {i : Nat} : (L ++ K).getD (L.length + i) 0 = K.getD i 0 := by
  simp [List.getElem?_append]
  rw [if_neg (by omega)]
theorem wfL_2 {L K : List Nat} {c : Nat} (hL : wfL L) (hK : wfL K) (hc : 8 ≤ c ∧ c < 15) : wfL (L ++ K ++ [c]) := by
  intro base pre k h hb
  have hlen : (L ++ K ++ [c]).length = L.length + K.length + 1 := by simp; omega
  have hl : ∀ i, i < L.length → pre (k + i) = nI (L.getD i 0) := fun i hi => by rw [h i (by omega), List.append_assoc, getD_l hi]
  have hk : ∀ i, i < K.length → pre (k + L.length + i) = nI (K.getD i 0) := fun i hi => by
    rw [Nat.add_assoc, h (L.length + i) (by omega), List.append_assoc, getD_r, getD_l hi]
  have hcc : pre (k + L.length + K.length) = nI c := by
    rw [Nat.add_assoc, h (L.length + K.length) (by omega), show L.length + K.length = (L ++ K).length + 0 by simp, getD_r]; rfl
  obtain ⟨a1, a2⟩ := hL base pre k hl hb
  obtain ⟨b1, b2⟩ := hK (base + 1) pre (k + L.length) hk a2
  have oc : opc (nI c) = true := by rw [opc_n (by omega), decide_eq_true hc.1, decide_eq_true hc.2]; rfl
  refine ⟨fun i hi => ?_, ?_⟩
  · rw [hlen] at hi
    by_cases h1 : i < L.length
    · exact a1 i h1
    · by_cases h2 : i < L.length + K.length
      · have := b1 (i - L.length) (by omega)
        rw [show k + L.length + (i - L.length) = k + i by omega] at this
        exact this
      · have ei : i = L.length + K.length := by omega
        subst ei
        rw [← Nat.add_assoc, hcc, b2]
        exact ⟨nI_pos' (by omega), fun _ => by omega⟩
  · rw [hlen, show k + (L.length + K.length + 1) = (k + L.length + K.length) + 1 by omega, dpt_s, hcc, oc, if_pos rfl, b2]
    omega
def cOK (L : List Nat) : Prop := wfL L ∧ 1 ≤ L.length ∧ ∀ i, i < L.length → L.getD i 0 ≤ 2000
theorem cOK_2 {L K : List Nat} {c : Nat} (hL : cOK L) (hK : cOK K) (hc : 8 ≤ c ∧ c < 15) : cOK (L ++ K ++ [c]) := by
  refine ⟨wfL_2 hL.1 hK.1 hc, by simp; omega, fun i hi => ?_⟩
  have hlen : (L ++ K ++ [c]).length = L.length + K.length + 1 := by simp; omega
  rw [hlen] at hi
  by_cases h1 : i < L.length
  · rw [List.append_assoc, getD_l h1]; exact hL.2.2 i h1
  · by_cases h2 : i < L.length + K.length
    · rw [show i = L.length + (i - L.length) by omega, List.append_assoc, getD_r, getD_l (by omega)]; exact hK.2.2 _ (by omega)
    · rw [show i = (L ++ K).length + 0 by simp; omega, getD_r]
      show c ≤ 2000
      omega
/-- a part that was read: farther, no more codes than bytes, well made -/
def rOK (n : Nat) (P : Nat → RLq) : Prop := ∀ p e L, p ≤ n → P p = Sum.inl (e, L) → p + L.length ≤ e ∧ e ≤ n ∧ cOK L
theorem bd_i {α β : Type} {x : α ⊕ (Nat × Nat)} {f : α → β ⊕ (Nat × Nat)} {y : β} (h : bd x f = Sum.inl y) : ∃ a, x = Sum.inl a ∧ f a = Sum.inl y := by
  cases x with
  | inl a => exact ⟨a, rfl, h⟩
  | inr z => cases h
theorem wrd4 {T : Nat → Nat} {n p : Nat} (h : ¬ wrd T n nm4 p = -1) : ∃ k, k < 10 ∧ wrd T n nm4 p = nI k ∧ eqw (nm4.getD k []) T (sk T n p) (lE T n (sk T n p)) = true := by
  rcases wI_b T (sk T n p) (lE T n (sk T n p)) nm4 0 (by decide) with z | ⟨i, i1, i2, i3⟩
  · exact absurd z h
  · exact ⟨i, i1, by rw [Nat.zero_add] at i2; exact i2, i3⟩
theorem nm4_l : ∀ k, k < 10 → 3 ≤ (nm4.getD k []).length := by decide +kernel
theorem un_ok {T : Nat → Nat} {n : Nat} {S : Option (Nat → RLq)} (hS : ∀ S', S = some S' → rOK n S') : rOK n (unP T n S) := by
  intro p e L hp h
  have hs := sk_f (T := T) hp
  have hle := lE_f (T := T) hs.2.1
  unfold unP at h
  split at h
  · obtain ⟨x, x1, x2⟩ := bd_i h
    have g := num_f (e := x.1) (v := x.2) hp x1
    injection x2 with x2
    obtain ⟨rfl, rfl⟩ := Prod.mk.inj x2
    refine ⟨by simp; omega, g.2.2.2, wfL_1 (Or.inr (by omega)), by simp, fun i hi => ?_⟩
    have : i = 0 := by simpa using hi
    subst this
    show 15 + x.2 ≤ 2000
    omega
  · split at h
    · rename_i h40
      cases S with
      | none => cases h
      | some S' =>
        obtain ⟨x, x1, x2⟩ := bd_i h
        obtain ⟨e', y1, y2⟩ := bd_i x2
        have g := hS S' rfl (sk T n p + 1) x.1 x.2 (by omega) x1
        have g2 := exq_f g.2.1 y1
        injection y2 with y2
        obtain ⟨rfl, rfl⟩ := Prod.mk.inj y2
        exact ⟨by omega, g2.2, g.2.2⟩
    · split at h
      · cases h
      · rename_i hw
        obtain ⟨k, hk, ek, eq⟩ := wrd4 hw
        have hl := nm4_l k hk
        have hq := (eqw_iff.mp eq).1
        rw [ek, nI_clamp (show k < 2 ^ 31 by omega)] at h
        split at h
        · rename_i h8
          injection h with h
          obtain ⟨rfl, rfl⟩ := Prod.mk.inj h
          refine ⟨by simp; omega, hle.2.1, wfL_1 (Or.inl h8), by simp, fun i hi => ?_⟩
          have : i = 0 := by simpa using hi
          subst this
          show k ≤ 2000
          omega
        · rename_i h8
          cases S with
          | none => cases h
          | some S' =>
            obtain ⟨e1, a1, h⟩ := bd_i h
            obtain ⟨x, a2, h⟩ := bd_i h
            obtain ⟨e2, a3, h⟩ := bd_i h
            obtain ⟨y, a4, h⟩ := bd_i h
            obtain ⟨e3, a5, h⟩ := bd_i h
            have g1 := exq_f hle.2.1 a1
            have g2 := hS S' rfl e1 x.1 x.2 g1.2 a2
            have g3 := exq_f g2.2.1 a3
            have g4 := hS S' rfl e2 y.1 y.2 g3.2 a4
            have g5 := exq_f g4.2.1 a5
            injection h with h
            obtain ⟨rfl, rfl⟩ := Prod.mk.inj h
            refine ⟨?_, g5.2, cOK_2 g2.2.2 g4.2.2 (by omega)⟩
            simp
            omega
theorem lp_ok {T : Nat → Nat} {n : Nat} {U : Nat → RLq} {sg : List Nat} {base : Nat} (hU : rOK n U) (hb : ∀ i, i < sg.length → 8 ≤ base + i ∧ base + i < 15) : ∀ f p L e K, p ≤ n → cOK L → lpP T n U sg base f p L = Sum.inl (e, K) → p + K.length ≤ e + L.length ∧ L.length ≤ K.length ∧ e ≤ n ∧ cOK K
  | 0, p, L, e, K, hp, hL, h => by
    injection h with h
    obtain ⟨rfl, rfl⟩ := Prod.mk.inj h
    exact ⟨by omega, Nat.le_refl _, hp, hL⟩
  | f + 1, p, L, e, K, hp, hL, h => by
    have hs := sk_f (T := T) hp
    unfold lpP at h
    cases hsg : sgI T n sg p with
    | none =>
      rw [hsg] at h
      injection h with h
      obtain ⟨rfl, rfl⟩ := Prod.mk.inj h
      exact ⟨by omega, Nat.le_refl _, hs.2.1, hL⟩
    | some i =>
      rw [hsg] at h
      obtain ⟨y, y1, y2⟩ := bd_i h
      have hlt : sk T n p < n := by
        unfold sgI at hsg
        by_cases z : sk T n p < n
        · exact z
        · rw [if_neg z] at hsg; cases hsg
      have hi : i < sg.length := by
        unfold sgI at hsg
        rw [if_pos hlt] at hsg
        have := ixO_b hsg
        omega
      have g := hU (sk T n p + 1) y.1 y.2 (by omega) y1
      have g2 := lp_ok hU hb f y.1 (L ++ y.2 ++ [base + i]) e K g.2.1 (cOK_2 hL g.2.2 (hb i hi)) y2
      simp at g2
      refine ⟨by omega, by omega, g2.2.2.1, g2.2.2.2⟩
theorem tm_ok {T : Nat → Nat} {n : Nat} {U : Nat → RLq} {sg : List Nat} {base : Nat} (hU : rOK n U) (hb : ∀ i, i < sg.length → 8 ≤ base + i ∧ base + i < 15) : rOK n (tmP T n U sg base) := by
  intro p e L hp h
  obtain ⟨x, x1, x2⟩ := bd_i h
  have g := hU p x.1 x.2 hp x1
  have g2 := lp_ok hU hb 151 x.1 x.2 e L g.2.1 g.2.2 x2
  exact ⟨by omega, g2.2.2.1, g2.2.2.2⟩
theorem pr_ok {T : Nat → Nat} {n : Nat} {S : Option (Nat → RLq)} (hS : ∀ S', S = some S' → rOK n S') : rOK n (prP T n S) := tm_ok (un_ok hS) (fun i hi => by have : i < 3 := hi; omega)
theorem su_ok {T : Nat → Nat} {n : Nat} {S : Option (Nat → RLq)} (hS : ∀ S', S = some S' → rOK n S') : rOK n (suP T n S) := tm_ok (pr_ok hS) (fun i hi => by have : i < 2 := hi; omega)
theorem sD_ok {T : Nat → Nat} {n : Nat} : ∀ d, rOK n (sD T n d)
  | 0 => su_ok (fun S' h => by cases h)
  | d + 1 => su_ok (fun S' h => by injection h with h; subst h; exact sD_ok d)
theorem sO_ok {T : Nat → Nat} {n d : Nat} : ∀ S', sO T n d = some S' → rOK n S' := by
  intro S' h
  cases d with
  | zero => cases h
  | succ d => injection h with h; subst h; exact sD_ok d
