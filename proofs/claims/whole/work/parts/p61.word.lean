/-! TEXTS: words -/
theorem wh_steps {S E : Type} {B : S → Option (S ⊕ E)} : ∀ (k n : Nat) (g : Nat → S), (∀ i, i < k → B (g i) = some (Sum.inl (g (i + 1)))) → wh B (n + k) (g 0) = wh B n (g k)
  | 0, n, g, _ => rfl
  | k + 1, n, g, h => by
    rw [show n + (k + 1) = (n + k) + 1 by omega]
    have e : wh B ((n + k) + 1) (g 0) = wh B (n + k) (g 1) := by
      show (match B (g 0) with | none => none | some (.inl s') => wh B (n + k) s' | some (.inr e) => some e) = _
      rw [h 0 (by omega)]
    rw [e]
    exact wh_steps k n (fun i => g (i + 1)) (fun i hi => h (i + 1) (by omega))
theorem wh_out {S E : Type} {B : S → Option (S ⊕ E)} {n : Nat} {s : S} {e : E} (h : B s = some (Sum.inr e)) : wh B (n + 1) s = some e := by
  show (match B s with | none => none | some (.inl s') => wh B n s' | some (.inr e) => some e) = _
  rw [h]
/-- the word from q to e is w -/
def eqw (w : List Nat) (T : Nat → Nat) (q e : Nat) : Bool := decide (e = q + w.length) && decide (∀ i, i < w.length → T (q + i) = w.getD i 0)
theorem eqw_iff {w : List Nat} {T : Nat → Nat} {q e : Nat} : eqw w T q e = true ↔ e = q + w.length ∧ ∀ i, i < w.length → T (q + i) = w.getD i 0 := by
  unfold eqw
  rw [Bool.and_eq_true, decide_eq_true_eq, decide_eq_true_eq]
theorem eqw_u {w w' : List Nat} {T : Nat → Nat} {q e : Nat} (h : eqw w T q e = true) (h' : eqw w' T q e = true) : w = w' := by
  obtain ⟨a, b⟩ := eqw_iff.mp h
  obtain ⟨a', b'⟩ := eqw_iff.mp h'
  have hl : w.length = w'.length := by omega
  refine List.ext_getElem hl (fun i h1 h2 => ?_)
  have := (b i h1).symm.trans (b' i h2)
  simpa [List.getD_eq_getElem?_getD, h1, h2] using this
theorem eqw_n {w w' : List Nat} {T : Nat → Nat} {q e : Nat} (h : eqw w T q e = true) (hn : w ≠ w') : eqw w' T q e = false := by
  cases h' : eqw w' T q e
  · rfl
  · exact absurd (eqw_u h h') hn
/-- which of the words it is -/
def wI (T : Nat → Nat) (q e : Nat) : List (List Nat) → Nat → Int32
  | [], _ => -1
  | w :: ws, j => if eqw w T q e = true then nI j else wI T q e ws (j + 1)
def rI (T : Nat → Nat) (q e : Nat) : List (List Nat) → Nat → Int32 ⊕ Unit
  | [], _ => Sum.inr ()
  | w :: ws, j => if eqw w T q e = true then Sum.inl (nI j) else rI T q e ws (j + 1)
def layB (k1 : Nat) : List (List Nat) → Nat → Bool
  | [], s => decide (s = am_Slen.getD k1 0 + 1)
  | w :: ws, s => decide (∀ i, i < w.length → s + i < am_Slen.getD k1 0 ∧ sch k1 (nI (s + i)) = nI (w.getD i 0) ∧ 97 ≤ w.getD i 0 ∧ w.getD i 0 ≤ 122) && decide (s + w.length = am_Slen.getD k1 0 ∨ (s + w.length < am_Slen.getD k1 0 ∧ sch k1 (nI (s + w.length)) = 32)) && layB k1 ws (s + w.length + 1)
def pfx (w : List Nat) (T : Nat → Nat) (q e i : Nat) : Bool := decide (q + i ≤ e) && decide (∀ j, j < i → T (q + j) = w.getD j 0)
theorem pfx_s {w : List Nat} {T : Nat → Nat} {q e i : Nat} : pfx w T q e (i + 1) = (pfx w T q e i && (decide (q + i < e) && decide (T (q + i) = w.getD i 0))) := by
  unfold pfx
  apply Bool.eq_iff_iff.mpr
  simp only [Bool.and_eq_true, decide_eq_true_eq]
  constructor
  · rintro ⟨a, b⟩
    exact ⟨⟨by omega, fun j hj => b j (by omega)⟩, by omega, b i (by omega)⟩
  · rintro ⟨⟨a, b⟩, c, d⟩
    refine ⟨by omega, fun j hj => ?_⟩
    by_cases e : j = i
    · rw [e]; exact d
    · exact b j (by omega)
theorem pfx_e {w : List Nat} {T : Nat → Nat} {q e : Nat} : (pfx w T q e w.length = true ∧ q + w.length = e) ↔ eqw w T q e = true := by
  rw [eqw_iff]
  unfold pfx
  rw [Bool.and_eq_true, decide_eq_true_eq, decide_eq_true_eq]
  constructor
  · rintro ⟨⟨a, b⟩, c⟩; exact ⟨c.symm, b⟩
  · rintro ⟨a, b⟩; exact ⟨⟨by omega, b⟩, a.symm⟩
theorem c_names {T : Nat → Nat} {n q e k1 : Nat} {M : Mem} (h : CT T n M) (e4 : M 1 0 4 = nI q) (e3 : M 1 0 3 = nI e) (hqe : q ≤ e) (hen : e ≤ n) (hl : ∀ j, q ≤ j → j < e → cL T n j = true) (hk : am_Slen.getD k1 0 ≤ 100) : ∀ (ws : List (List Nat)) (j s m : Nat), layB k1 ws s = true → s ≤ am_Slen.getD k1 0 + 1 → wh (L_X10_whichName_13 k1 M) (m + (am_Slen.getD k1 0 + 2 - s)) (nI j, nI q, (1 : Int32), nI s) = some (rI T q e ws j)
  | [], j, s, m, hB, hs => by
    have hB : s = am_Slen.getD k1 0 + 1 := of_decide_eq_true hB
    rw [show m + (am_Slen.getD k1 0 + 2 - s) = m + 1 by omega]
    refine wh_out ?_
    unfold L_X10_whichName_13
    simp only []
    rw [if_pos (show sln k1 < nI s by unfold sln; rw [hB]; exact nI_lt (by omega) (by omega))]
    rfl
  | w :: ws, j, s, m, hB, hs => by
    have h600 := h.2.1
    unfold layB at hB
    rw [Bool.and_eq_true, Bool.and_eq_true, decide_eq_true_eq, decide_eq_true_eq] at hB
    obtain ⟨⟨b1, b2⟩, b3⟩ := hB
    have hwl : s + w.length ≤ am_Slen.getD k1 0 := by omega
    -- the letters
    have lett : ∀ i, i < w.length → L_X10_whichName_13 k1 M (nI j, nI (q + i), (if pfx w T q e i = true then (1 : Int32) else 0), nI (s + i)) = some (Sum.inl (nI j, nI (q + (i + 1)), (if pfx w T q e (i + 1) = true then (1 : Int32) else 0), nI (s + (i + 1)))) := by
      intro i hi
      obtain ⟨c1, c2, c3, c4⟩ := b1 i hi
      unfold L_X10_whichName_13
      simp only []
      rw [if_neg (show ¬ sln k1 < nI (s + i) by unfold sln; exact nI_nlt (by omega) (by omega)), if_neg (show ¬ nI (s + i) = sln k1 by unfold sln; exact fun z => by have := (nI_eq (by omega) (by omega)).mp z; omega), if_pos (inb_n c1 (by omega)), c2, if_neg (show ¬ nI (w.getD i 0) = 32 from fun z => by have := (nI_eq (b := 32) (by omega) (by decide)).mp z; omega), e3, nI_1, nI_1, Nat.add_assoc q i 1, Nat.add_assoc s i 1, pfx_s]
      cases hp : pfx w T q e i
      · rw [ifb0]; rfl
      · rw [ifb1, Bool.true_and]
        by_cases hlt : q + i < e
        · have hcl := hl (q + i) (by omega) hlt
          unfold cL at hcl
          simp at hcl
          rw [if_neg (nI_ge hlt (by omega)), if_pos (inb_n (by omega) (by decide)), nI_clamp (by omega), (h.2.2.2 (q + i) hcl.1).1, bS_lo _ (by omega) (by omega), decide_eq_true hlt, Bool.true_and]
          by_cases he : T (q + i) = w.getD i 0
          · rw [if_pos (by rw [he]), decide_eq_true he]; rfl
          · rw [if_neg (fun z => he ((nI_eq (by omega) (by omega)).mp z)), decide_eq_false he]; rfl
        · rw [if_pos (nI_le (by omega) (by omega)), decide_eq_false hlt]; rfl
    have run := wh_steps (B := L_X10_whichName_13 k1 M) w.length (m + (am_Slen.getD k1 0 + 2 - (s + w.length))) (fun i => (nI j, nI (q + i), (if pfx w T q e i = true then (1 : Int32) else 0), nI (s + i))) lett
    have p0 : pfx w T q e 0 = true := by
      unfold pfx
      rw [Bool.and_eq_true, decide_eq_true_eq, decide_eq_true_eq]
      exact ⟨by omega, fun j hj => by cases hj⟩
    simp only [p0, if_true, Nat.add_zero] at run
    rw [show m + (am_Slen.getD k1 0 + 2 - s) = m + (am_Slen.getD k1 0 + 2 - (s + w.length)) + w.length by omega, run]
    -- the end of the word
    have stop : L_X10_whichName_13 k1 M (nI j, nI (q + w.length), (if pfx w T q e w.length = true then (1 : Int32) else 0), nI (s + w.length)) = some (if eqw w T q e = true then Sum.inr (Sum.inl (nI j)) else Sum.inl (nI (j + 1), nI q, (1 : Int32), nI (s + w.length + 1))) := by
      have core : (if (if pfx w T q e w.length = true then (1 : Int32) else 0) = 0 then some (Sum.inl (nI j + 1, M 1 0 4, (1 : Int32), nI (s + w.length) + 1)) else (if nI (q + w.length) = (M 1 0 3) then some (Sum.inr (Sum.inl (nI j))) else some (Sum.inl (nI j + 1, M 1 0 4, (1 : Int32), nI (s + w.length) + 1)))) = (some (if eqw w T q e = true then Sum.inr (Sum.inl (nI j)) else Sum.inl (nI (j + 1), nI q, (1 : Int32), nI (s + w.length + 1))) : Option ((Int32 × Int32 × Int32 × Int32) ⊕ (Int32 ⊕ Unit))) := by
        rw [e4, e3, nI_1, nI_1]
        cases hp : pfx w T q e w.length
        · have : eqw w T q e = false := by
            cases hz : eqw w T q e
            · rfl
            · have := (pfx_e.mpr hz).1
              rw [hp] at this; cases this
          rw [this, ifb0]; rfl
        · rw [ifb1]
          by_cases he : q + w.length = e
          · rw [if_pos (by rw [he]), pfx_e.mp ⟨hp, he⟩]; rfl
          · have : eqw w T q e = false := by
              cases hz : eqw w T q e
              · rfl
              · exact absurd (pfx_e.mpr hz).2 he
            have hlen : q + w.length < 2 ^ 31 := by omega
            rw [if_neg (fun z => he ((nI_eq hlen (by omega)).mp z)), this]; rfl
      unfold L_X10_whichName_13
      simp only []
      rw [if_neg (show ¬ sln k1 < nI (s + w.length) by unfold sln; exact nI_nlt (by omega) (by omega))]
      rcases b2 with b2 | ⟨b2, b4⟩
      · rw [if_pos (show nI (s + w.length) = sln k1 by unfold sln; rw [b2])]
        exact core
      · rw [if_neg (show ¬ nI (s + w.length) = sln k1 by unfold sln; exact fun z => by have := (nI_eq (by omega) (by omega)).mp z; omega), if_pos (inb_n b2 (by omega)), b4, if_pos rfl]
        exact core
    rw [show m + (am_Slen.getD k1 0 + 2 - (s + w.length)) = m + (am_Slen.getD k1 0 + 2 - (s + w.length + 1)) + 1 by omega]
    show _ = some (if eqw w T q e = true then Sum.inl (nI j) else rI T q e ws (j + 1))
    cases hz : eqw w T q e
    · rw [hz] at stop
      have go := wh_steps (B := L_X10_whichName_13 k1 M) 1 (m + (am_Slen.getD k1 0 + 2 - (s + w.length + 1))) (fun i => if i = 0 then (nI j, nI (q + w.length), (if pfx w T q e w.length = true then (1 : Int32) else 0), nI (s + w.length)) else (nI (j + 1), nI q, (1 : Int32), nI (s + w.length + 1))) (fun i hi => by rw [show i = 0 by omega]; exact stop)
      rw [show wh (L_X10_whichName_13 k1 M) (m + (am_Slen.getD k1 0 + 2 - (s + w.length + 1)) + 1) (nI j, nI (q + w.length), (if pfx w T q e w.length = true then (1 : Int32) else 0), nI (s + w.length)) = _ from go]
      exact c_names h e4 e3 hqe hen hl hk ws (j + 1) (s + w.length + 1) m b3 (by omega)
    · rw [hz] at stop
      exact wh_out stop
theorem rI_w (T : Nat → Nat) (q e : Nat) : ∀ ws j, (match rI T q e ws j with | (Sum.inl x) => some x | (Sum.inr _) => some (-1 : Int32)) = some (wI T q e ws j)
  | [], _ => rfl
  | w :: ws, j => by
    unfold rI wI
    cases eqw w T q e
    · exact rI_w T q e ws (j + 1)
    · rfl
theorem c_which {T : Nat → Nat} {n q e k1 : Nat} {M : Mem} {ws : List (List Nat)} (h : CT T n M) (e4 : M 1 0 4 = nI q) (e3 : M 1 0 3 = nI e) (hqe : q ≤ e) (hen : e ≤ n) (hl : ∀ j, q ≤ j → j < e → cL T n j = true) (hk : am_Slen.getD k1 0 ≤ 100) (hB : layB k1 ws 0 = true) : f_X10_whichName k1 M = some (wI T q e ws 0) := by
  unfold f_X10_whichName
  have := c_names h e4 e3 hqe hen hl hk ws 0 0 (100000 - (am_Slen.getD k1 0 + 2)) hB (by omega)
  rw [show 100000 - (am_Slen.getD k1 0 + 2) + (am_Slen.getD k1 0 + 2 - 0) = FU by rw [FU_eq]; omega] at this
  rw [e4, show ((0 : Int32), nI q, (1 : Int32), (0 : Int32)) = (nI 0, nI q, (1 : Int32), nI 0) from rfl, this]
  exact rI_w T q e ws 0
def nm0 : List (List Nat) := [[98, 111, 97, 114, 100], [98, 97, 114, 103, 101], [102, 108, 111, 119], [115, 116, 114, 101, 101, 116], [102, 105, 115, 104], [115, 109, 101, 108, 108]]
def nm4 : List (List Nat) := [[104, 111, 117, 114], [100, 97, 121], [98, 111, 97, 114, 100], [99, 108, 101, 97, 114], [98, 101, 97, 114, 115], [100, 114, 97, 105, 110, 115], [102, 105, 115, 104], [102, 105, 110, 101, 100], [108, 101, 97, 115, 116], [109, 111, 115, 116]]
def nm5 : List (List Nat) := [[108, 105, 102, 116], [115, 104, 117, 116], [108, 101, 97, 118, 101], [104, 111, 117, 114], [97, 103, 97, 105, 110]]
theorem lay0 : layB 0 nm0 0 = true := by decide +kernel
theorem lay4 : layB 4 nm4 0 = true := by decide +kernel
theorem lay5 : layB 5 nm5 0 = true := by decide +kernel
theorem wI_b (T : Nat → Nat) (q e : Nat) : ∀ ws j, j + ws.length < 2 ^ 31 → wI T q e ws j = -1 ∨ ∃ i, i < ws.length ∧ wI T q e ws j = nI (j + i) ∧ eqw (ws.getD i []) T q e = true
  | [], _, _ => Or.inl rfl
  | w :: ws, j, h => by
    unfold wI
    cases hz : eqw w T q e
    · rw [if_neg (by decide)]
      rcases wI_b T q e ws (j + 1) (by simp at h; omega) with z | ⟨i, i1, i2, i3⟩
      · exact Or.inl z
      · exact Or.inr ⟨i + 1, by simp; omega, by rw [i2, show j + 1 + i = j + (i + 1) by omega], i3⟩
    · exact Or.inr ⟨0, by simp, by rw [if_pos rfl]; rfl, hz⟩
/-- a word is read -/
def wrd (T : Nat → Nat) (n : Nat) (ws : List (List Nat)) (p : Nat) : Int32 := wI T (sk T n p) (lE T n (sk T n p)) ws 0
theorem c_wordL {T : Nat → Nat} {n q : Nat} {M : Mem} (h : CT T n M) (hq : q ≤ n) (e : M 1 0 3 = nI q) : wh L_X10_word_13 FU M = some (am_u3 M 1 0 3 (nI (lE T n q))) := by
  have hn := h.2.1
  refine wh_scan hn hq cL_n e (fun r hr => ?_)
  unfold L_X10_word_13
  rw [u3_e, u3_j (show ¬ (0 = 0 ∧ 2 = 3) by omega), h.1, u3_c (show 2 ≠ 1 by decide), u3_u]
  unfold cL
  by_cases hl : r < n
  · obtain ⟨t1, t2⟩ := h.2.2.2 r hl
    rw [if_neg (nI_ge hl (by omega)), if_pos (inb_n (by omega) (by decide)), nI_clamp (by omega), decide_eq_true hl, Bool.true_and, t1, nI_1]
    by_cases h128 : T r < 128
    · rw [bS_lo _ t2 h128]
      by_cases c1 : T r < 97
      · rw [if_pos (show nI (T r) < 97 from nI_lt (b := 97) c1 (by decide)), decide_eq_false (show ¬ 97 ≤ T r by omega)]; rfl
      · rw [if_neg (show ¬ nI (T r) < 97 from nI_nlt (b := 97) (by omega) (by omega)), decide_eq_true (show 97 ≤ T r by omega), Bool.true_and]
        by_cases c2 : 122 < T r
        · rw [if_pos (show (122 : Int32) < nI (T r) from nI_lt (a := 122) c2 (by omega)), decide_eq_false (show ¬ T r ≤ 122 by omega)]; rfl
        · rw [if_neg (show ¬ (122 : Int32) < nI (T r) from nI_nlt (a := 122) (by omega) (by decide)), decide_eq_true (show T r ≤ 122 by omega)]; rfl
    · rw [if_pos (bS_hi2 _ t2 (by omega)), decide_eq_false (show ¬ T r ≤ 122 by omega), Bool.and_false]; rfl
  · rw [if_pos (nI_le (by omega) (by omega)), decide_eq_false hl]; rfl
theorem c_wordS {T : Nat → Nat} {n p k1 : Nat} {ws : List (List Nat)} {M : Mem} (h : CT T n M) (hp : p ≤ n) (e : M 1 0 3 = nI p) (hk : am_Slen.getD k1 0 ≤ 100) (hB : layB k1 ws 0 = true) : ∃ M6, f_X10_word k1 M = (if wrd T n ws p = (-1 : Int32) then (if (f_X10_isFaulty (f_X10_blame (1 : Int32) (M6 1 0 4) M6)) = 0 then some (wrd T n ws p, (f_X10_blame (1 : Int32) (M6 1 0 4) M6)) else some ((-1 : Int32), (f_X10_blame (1 : Int32) (M6 1 0 4) M6))) else (if (f_X10_isFaulty M6) = 0 then some (wrd T n ws p, M6) else some ((-1 : Int32), M6))) ∧ M6 1 0 3 = nI (lE T n (sk T n p)) ∧ M6 1 0 4 = nI (sk T n p) ∧ M6 1 0 5 = M 1 0 5 ∧ M6 1 0 6 = M 1 0 6 ∧ cmv M M6 := by
  have hs := sk_f (T := T) hp
  have hle := lE_f (T := T) hs.2.1
  have mv : cmv M (am_u3 (am_u3 (am_u3 M 1 0 3 (nI (sk T n p))) 1 0 4 (nI (sk T n p))) 1 0 3 (nI (lE T n (sk T n p)))) := cmv_u (cmv_u (cmv_u cmv_rfl (by decide)) (by decide)) (by decide)
  have e4 : (am_u3 (am_u3 (am_u3 M 1 0 3 (nI (sk T n p))) 1 0 4 (nI (sk T n p))) 1 0 3 (nI (lE T n (sk T n p)))) 1 0 4 = nI (sk T n p) := by rw [u3_j (by omega), u3_e]
  refine ⟨am_u3 (am_u3 (am_u3 M 1 0 3 (nI (sk T n p))) 1 0 4 (nI (sk T n p))) 1 0 3 (nI (lE T n (sk T n p))), ?_, u3_e _ _ _ _ _, e4, ?_, ?_, mv⟩
  · unfold f_X10_word
    rw [c_next0 h hp e]
    simp only [Option.bind]
    rw [u3_e, c_wordL (T := T) (n := n) (q := sk T n p) (CT_m h (cmv_u (cmv_u cmv_rfl (by decide)) (by decide))) hs.2.1 (by rw [u3_j (by omega), u3_e])]
    simp only []
    rw [c_which (CT_m h mv) e4 (u3_e _ _ _ _ _) hle.1 hle.2.1 hle.2.2.1 hk hB]
    rfl
  · rw [u3_j (by omega), u3_j (by omega), u3_j (by omega)]
  · rw [u3_j (by omega), u3_j (by omega), u3_j (by omega)]
/-- behind a word: which, or a FAULT -/
def CW (T : Nat → Nat) (n : Nat) (ws : List (List Nat)) (p : Nat) (v : Int32) (M : Mem) : Prop := if wrd T n ws p = -1 then v = -1 ∧ CF T n 1 (sk T n p) M else v = wrd T n ws p ∧ CS T n (lE T n (sk T n p)) M
theorem c_word {T : Nat → Nat} {n p k1 : Nat} {ws : List (List Nat)} {M : Mem} (h : CS T n p M) (hk : am_Slen.getD k1 0 ≤ 100) (hB : layB k1 ws 0 = true) : ok (f_X10_word k1 M) (fun r => CW T n ws p r.1 r.2 ∧ cmv M r.2 ∧ r.2 1 0 4 = nI (sk T n p)) := by
  obtain ⟨h1, h2, h3, h4, h5⟩ := h
  have hs := sk_f (T := T) h2
  have hle := lE_f (T := T) hs.2.1
  obtain ⟨M6, e0, e3, e4, e5, e6, mv⟩ := c_wordS h1 h2 h3 hk hB
  have s6 : CS T n (lE T n (sk T n p)) M6 := ⟨CT_m h1 mv, hle.2.1, e3, e5.trans h4, e6.trans h5⟩
  rw [e0, e4]
  unfold CW
  by_cases hw : wrd T n ws p = -1
  · rw [if_pos hw]
    obtain ⟨b1, b2, b3⟩ := CS_b (k := 1) (q := sk T n p) s6 (by decide)
    refine ok_ifn (fty1 b1) (ok_some ?_)
    rw [if_pos hw]
    exact ⟨⟨rfl, b1⟩, cmv_tr mv b2, b3.trans e4⟩
  · rw [if_neg hw]
    refine ok_ifp (fty0 s6) (ok_some ?_)
    rw [if_neg hw]
    exact ⟨⟨rfl, s6⟩, mv, e4⟩
theorem c_wordF {T : Nat → Nat} {n k q k1 : Nat} {ws : List (List Nat)} {M : Mem} (h : CF T n k q M) (hk : am_Slen.getD k1 0 ≤ 100) (hB : layB k1 ws 0 = true) : ok (f_X10_word k1 M) (fun r => r.1 = -1 ∧ CF T n k q r.2 ∧ cmv M r.2) := by
  obtain ⟨h1, ⟨p, h2, h3⟩, h4, h5, h6⟩ := h
  have hs := sk_f (T := T) h2
  have hle := lE_f (T := T) hs.2.1
  obtain ⟨M6, e0, e3, e4, e5, e6, mv⟩ := c_wordS h1 h2 h3 hk hB
  have s6 : CF T n k q M6 := ⟨CT_m h1 mv, ⟨_, hle.2.1, e3⟩, e5.trans h4, h5, e6.trans h6⟩
  rw [e0, CF_b s6]
  exact ok_if (fun _ => ok_ifn (fty1 s6) (ok_some ⟨rfl, s6, mv⟩)) (fun _ => ok_ifn (fty1 s6) (ok_some ⟨rfl, s6, mv⟩))
