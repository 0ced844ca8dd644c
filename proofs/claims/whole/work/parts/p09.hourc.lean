/-! AN HOUR, THE CLASS'S SIDE: rows in, rows out -/
/-- how many BOARDS one has passed, who had passed p, by v at most -/
def pon (n : Nat) (lt : Nat → Bool) : Nat → Nat → Nat
  | 0, p => p
  | v + 1, p => if p < n ∧ lt p = true then pon n lt v (p + 1) else p
theorem pon_b (n : Nat) (lt : Nat → Bool) : ∀ v p, p ≤ n → p ≤ pon n lt v p ∧ pon n lt v p ≤ n ∧ pon n lt v p ≤ p + v ∧ (∀ j, p ≤ j → j < pon n lt v p → lt j = true) ∧ (pon n lt v p < n → pon n lt v p < p + v → lt (pon n lt v p) = false)
  | 0, p, h => by
    rw [pon]
    exact ⟨Nat.le_refl _, h, Nat.le_refl _, fun j a b => by omega, fun _ b => by omega⟩
  | v + 1, p, h => by
    rw [pon]
    by_cases hc : p < n ∧ lt p = true
    · rw [if_pos hc]
      obtain ⟨h1, h2, h3, h4, h5⟩ := pon_b n lt v (p + 1) hc.1
      refine ⟨by omega, h2, by omega, fun j a b => ?_, fun a b => h5 a (by omega)⟩
      by_cases hj : j = p
      · rw [hj]; exact hc.2
      · exact h4 j (by omega) b
    · rw [if_neg hc]
      refine ⟨Nat.le_refl _, h, by omega, fun j a b => by omega, fun a _ => ?_⟩
      cases hl : lt p
      · rfl
      · exact absurd ⟨a, hl⟩ hc
theorem pon_cong {n : Nat} {lt lt' : Nat → Bool} (h : ∀ j, j < n → lt' j = lt j) : ∀ v p, pon n lt' v p = pon n lt v p
  | 0, p => rfl
  | v + 1, p => by
    rw [pon, pon, pon_cong h v (p + 1)]
    by_cases hp : p < n
    · rw [h p hp]
    · rw [if_neg (fun z => hp z.1), if_neg (fun z => hp z.1)]
def nB (M : Mem) : Nat := (M 3 0 0).toNatClampNeg
def nG (M : Mem) : Nat := (M 3 0 5).toNatClampNeg
def nS (M : Mem) : Nat := (M 3 0 8).toNatClampNeg
def vF (M : Mem) : Nat := (M 3 0 12).toNatClampNeg
def kS (M : Mem) : Nat := (M 3 0 13).toNatClampNeg
/-- the class's numbers of the river -/
def cBed (M : Mem) : Prop := (M 3 0 0 = nI (nB M) ∧ nB M ≤ 16) ∧ (M 3 0 5 = nI (nG M) ∧ nG M ≤ 4) ∧ (M 3 0 8 = nI (nS M) ∧ nS M ≤ 8) ∧ (M 3 0 12 = nI (vF M) ∧ 1 ≤ vF M ∧ vF M ≤ 4) ∧ (M 3 0 13 = nI (kS M) ∧ kS M ≤ 4)
theorem cBed_fr {M M' : Mem} (e : M' 3 = M 3) (h : cBed M) : cBed M' := by
  unfold cBed nB nG nS vF kS at *
  rw [e]; exact h
theorem nB_fr {M M' : Mem} (e : M' 3 = M 3) : nB M' = nB M := by unfold nB; rw [e]
theorem nG_fr {M M' : Mem} (e : M' 3 = M 3) : nG M' = nG M := by unfold nG; rw [e]
theorem vF_fr {M M' : Mem} (e : M' 3 = M 3) : vF M' = vF M := by unfold vF; rw [e]
/-- MAST m passes BOARD b -/
def lets (M : Mem) (m op : Int32) (b : Nat) : Bool := decide (m ≤ M 4 0 b) || bt op b
theorem c_lets {M : Mem} {m op : Int32} {b : Nat} (hb : b < 16) : f_X4_lets m (nI b) op M = some (if lets M m op b = true then 1 else 0) := by
  unfold f_X4_lets lets
  rw [if_pos (inb_n hb (by decide)), nI_clamp (by omega)]
  by_cases h1 : m ≤ M 4 0 b
  · simp [h1]
  · rw [if_neg h1, isBit_bt op (by omega), decide_eq_false h1, Bool.false_or]
    cases bt op b <;> rfl
theorem c_passedOn {M : Mem} {m op : Int32} {p : Nat} (hB : cBed M) (hp : p ≤ nB M) : f_X4_passedOn m (nI p) op M = some (nI (pon (nB M) (lets M m op) (vF M) p)) := by
  unfold f_X4_passedOn
  obtain ⟨⟨e0, h0⟩, -, -, ⟨e3, h3, h4⟩, -⟩ := hB
  obtain ⟨b1, b2, b3, b4, b5⟩ := pon_b (nB M) (lets M m op) (vF M) p hp
  have key : ∀ x5 : Int32, x5 = nI (min (nB M) (p + vF M)) → wh (L_X4_passedOn_24 m op x5 M) FU (nI p) = some (nI (pon (nB M) (lets M m op) (vF M) p)) := by
    intro x5 ex
    refine wh_for (fun k => nI (p + k)) (pon (nB M) (lets M m op) (vF M) p - p) _ (by omega) ?_ ?_
    · intro k hk
      unfold L_X4_passedOn_24
      rw [ex, if_neg (nI_ge (by omega) (by omega)), c_lets (by omega), if_pos (b4 (p + k) (by omega) (by omega))]
      simp [nI_1, Nat.add_assoc]
    · have hs : p + (pon (nB M) (lets M m op) (vF M) p - p) = pon (nB M) (lets M m op) (vF M) p := by omega
      simp only [hs]
      unfold L_X4_passedOn_24
      by_cases hc : pon (nB M) (lets M m op) (vF M) p < min (nB M) (p + vF M)
      · rw [ex, if_neg (nI_ge hc (by omega)), c_lets (by omega), if_neg (by rw [b5 (by omega) (by omega)]; decide)]
        simp
      · rw [ex, if_pos (nI_le (by omega) (by omega))]
  rw [e0, e3, nI_add]
  rw [key]
  · rfl
  · by_cases hc : nB M < p + vF M
    · rw [if_pos (nI_lt hc (by omega)), Nat.min_eq_left (by omega)]
    · rw [if_neg (nI_nlt (by omega) (by omega)), Nat.min_eq_right (by omega)]
theorem c_knocked {M : Mem} {p q : Nat} (hB : cBed M) (hp : p ≤ q) (hq : q ≤ nB M) : f_X4_hasKnocked (nI p) (nI q) M = if q < nB M ∧ q - p < vF M then 1 else 0 := by
  unfold f_X4_hasKnocked
  obtain ⟨⟨e0, h0⟩, -, -, ⟨e3, h3, h4⟩, -⟩ := hB
  rw [e0, e3, nI_sub hp]
  by_cases h1 : q < nB M
  · rw [if_neg (nI_ge h1 (by omega))]
    by_cases h2 : q - p < vF M
    · rw [if_neg (nI_ge h2 (by omega)), if_pos ⟨h1, h2⟩]
    · rw [if_pos (nI_le (by omega) (by omega)), if_neg (fun z => h2 z.2)]
  · rw [if_pos (nI_le (by omega) (by omega)), if_neg (fun z => h1 z.1)]
/-- row after a number was written -/
theorem u3_r (M : Mem) (c j : Nat) (v : Int32) : am_u3 M c 0 j v c 0 = upd1 (M c 0) j v := by
  funext i
  rw [u3_x]
  unfold upd1
  by_cases h : i = j
  · rw [if_pos ⟨rfl, rfl, h⟩, if_pos h]
  · rw [if_neg (fun z => h z.2.2), if_neg h]
theorem upd1_e (S : Nat → Int32) (t : Nat) (v : Int32) : upd1 S t v t = v := by unfold upd1; rw [if_pos rfl]
theorem upd1_n {S : Nat → Int32} {t i : Nat} {v : Int32} (h : i ≠ t) : upd1 S t v i = S i := by unfold upd1; rw [if_neg h]
/-- one BARGE in an HOUR -/
def brC (n v : Nat) (lt : Nat → Bool) (cm : Int32) (k : Nat) (a : Nat → Int32) : Nat → Int32 :=
  if (a (35 + k) = 0 ∧ cm = a 0) ∨ a (35 + k) = 1 then
    fun i => if i = 35 + k then (if pon n lt v (a (39 + k)).toNatClampNeg = n then 2 else 1) else if i = 39 + k then nI (pon n lt v (a (39 + k)).toNatClampNeg)
      else if i = 19 + pon n lt v (a (39 + k)).toNatClampNeg ∧ pon n lt v (a (39 + k)).toNatClampNeg < n ∧ pon n lt v (a (39 + k)).toNatClampNeg - (a (39 + k)).toNatClampNeg < v then a i + 1
      else if i = 43 + k ∧ pon n lt v (a (39 + k)).toNatClampNeg = n then a 0 else a i
  else a
/-- where a BARGE may be: passed so many -/
def psd (n : Nat) (a : Nat → Int32) : Prop := ∀ k, k < 4 → ∃ p, p ≤ n ∧ a (39 + k) = nI p
theorem ad3 (k : Nat) : (3 : Int32) + nI k = nI (3 + k) := nI_add 3 k
theorem ad16 (k : Nat) : (16 : Int32) + nI k = nI (16 + k) := nI_add 16 k
theorem ad19 (k : Nat) : (19 : Int32) + nI k = nI (19 + k) := nI_add 19 k
theorem ad32 (k : Nat) : (32 : Int32) + nI k = nI (32 + k) := nI_add 32 k
theorem ad35 (k : Nat) : (35 : Int32) + nI k = nI (35 + k) := nI_add 35 k
theorem ad39 (k : Nat) : (39 : Int32) + nI k = nI (39 + k) := nI_add 39 k
theorem ad43 (k : Nat) : (43 : Int32) + nI k = nI (43 + k) := nI_add 43 k
theorem ad48 (k : Nat) : (48 : Int32) + nI k = nI (48 + k) := nI_add 48 k
theorem ad53 (k : Nat) : (53 : Int32) + nI k = nI (53 + k) := nI_add 53 k
theorem ad58 (k : Nat) : (58 : Int32) + nI k = nI (58 + k) := nI_add 58 k
theorem ad0 (k : Nat) : (0 : Int32) + nI k = nI k := Int32.zero_add _
