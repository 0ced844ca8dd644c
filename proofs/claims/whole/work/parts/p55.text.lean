/-! TEXTS: bytes, places, numbers -/
theorem i8_low (x : Int32) : (x &&& 255).toInt8 = x.toInt8 := by
  apply Int8.toBitVec_inj.mp
  apply BitVec.eq_of_getLsbD_eq
  intro i hi
  rw [Int32.toBitVec_toInt8, Int32.toBitVec_toInt8, BitVec.getLsbD_signExtend, BitVec.getLsbD_signExtend]
  have h1 : bt (x &&& 255) i = bt x i := by rw [b_and, b_255, decide_eq_true hi, Bool.and_true]
  unfold bt at h1
  rw [if_pos (show i < 32 by omega), if_pos (show i < 32 by omega), h1]
/-- a byte, with its sign -/
def bS (t : Nat) : Int32 := (nI t).toInt8.toInt32
theorem bS_of {x : Int32} {t : Nat} (h1 : x &&& 255 = nI t) (h2 : x.toInt8.toInt32 = x) : x = bS t := by
  unfold bS
  rw [← h1, i8_low, h2]
theorem bS_32 : ∀ t, t < 256 → (bS t = 32 ↔ t = 32) := by decide +kernel
theorem bS_lo : ∀ t, t < 256 → t < 128 → bS t = nI t := by decide +kernel
theorem bS_hi : ∀ t, t < 256 → 128 ≤ t → bS t < 48 := by decide +kernel
theorem bS_hi2 : ∀ t, t < 256 → 128 ≤ t → bS t < 97 := by decide +kernel
theorem bS_and : ∀ t, t < 256 → bS t &&& 255 = nI t := by decide +kernel
/-- the first place from p on for which c doesn't hold -/
def scn (c : Nat → Bool) : Nat → Nat → Nat
  | 0, p => p
  | f + 1, p => if c p = true then scn c f (p + 1) else p
def en (c : Nat → Bool) (n p : Nat) : Nat := scn c (n - p) p
theorem scn_f {c : Nat → Bool} : ∀ (f p : Nat), p ≤ scn c f p ∧ scn c f p ≤ p + f ∧ (∀ j, p ≤ j → j < scn c f p → c j = true) ∧ (scn c f p < p + f → c (scn c f p) = false)
  | 0, p => ⟨Nat.le_refl _, Nat.le_refl _, fun j h1 h2 => by unfold scn at h2; omega, fun h => by unfold scn at h; omega⟩
  | f + 1, p => by
    unfold scn
    cases h : c p
    · rw [if_neg (by decide)]
      exact ⟨Nat.le_refl _, by omega, fun j h1 h2 => by omega, fun _ => h⟩
    · rw [if_pos rfl]
      obtain ⟨a, b, d, e⟩ := scn_f (c := c) f (p + 1)
      refine ⟨by omega, by omega, fun j h1 h2 => ?_, fun hh => e (by omega)⟩
      by_cases hj : j = p
      · rw [hj]; exact h
      · exact d j (by omega) h2
theorem en_f {c : Nat → Bool} {n p : Nat} (hp : p ≤ n) (hc : ∀ j, c j = true → j < n) : p ≤ en c n p ∧ en c n p ≤ n ∧ (∀ j, p ≤ j → j < en c n p → c j = true) ∧ c (en c n p) = false := by
  unfold en
  obtain ⟨a, b, d, e⟩ := scn_f (c := c) (n - p) p
  refine ⟨a, by omega, d, ?_⟩
  by_cases h : scn c (n - p) p < p + (n - p)
  · exact e h
  · cases h2 : c (scn c (n - p) p)
    · rfl
    · have := hc _ h2; omega
/-- blanks, digits, small letters -/
def cB (T : Nat → Nat) (n p : Nat) : Bool := decide (p < n) && decide (T p = 32)
def cD (T : Nat → Nat) (n p : Nat) : Bool := decide (p < n) && (decide (48 ≤ T p) && decide (T p ≤ 57))
def cL (T : Nat → Nat) (n p : Nat) : Bool := decide (p < n) && (decide (97 ≤ T p) && decide (T p ≤ 122))
theorem cB_n {T : Nat → Nat} {n : Nat} : ∀ j, cB T n j = true → j < n := by intro j h; unfold cB at h; simp at h; exact h.1
theorem cD_n {T : Nat → Nat} {n : Nat} : ∀ j, cD T n j = true → j < n := by intro j h; unfold cD at h; simp at h; exact h.1
theorem cL_n {T : Nat → Nat} {n : Nat} : ∀ j, cL T n j = true → j < n := by intro j h; unfold cL at h; simp at h; exact h.1
def sk (T : Nat → Nat) (n p : Nat) : Nat := en (cB T n) n p
def dE (T : Nat → Nat) (n p : Nat) : Nat := en (cD T n) n p
def lE (T : Nat → Nat) (n p : Nat) : Nat := en (cL T n) n p
theorem sk_f {T : Nat → Nat} {n p : Nat} (hp : p ≤ n) : p ≤ sk T n p ∧ sk T n p ≤ n ∧ (∀ j, p ≤ j → j < sk T n p → cB T n j = true) ∧ cB T n (sk T n p) = false := en_f hp cB_n
theorem dE_f {T : Nat → Nat} {n p : Nat} (hp : p ≤ n) : p ≤ dE T n p ∧ dE T n p ≤ n ∧ (∀ j, p ≤ j → j < dE T n p → cD T n j = true) ∧ cD T n (dE T n p) = false := en_f hp cD_n
theorem lE_f {T : Nat → Nat} {n p : Nat} (hp : p ≤ n) : p ≤ lE T n p ∧ lE T n p ≤ n ∧ (∀ j, p ≤ j → j < lE T n p → cL T n j = true) ∧ cL T n (lE T n p) = false := en_f hp cL_n
theorem sk_sk {T : Nat → Nat} {n p : Nat} (hp : p ≤ n) : sk T n (sk T n p) = sk T n p := by
  have h := sk_f (T := T) hp
  have h2 := sk_f (T := T) h.2.1
  rcases Nat.lt_or_ge (sk T n p) (sk T n (sk T n p)) with z | z
  · have := h2.2.2.1 (sk T n p) (Nat.le_refl _) z
    rw [h.2.2.2] at this; cases this
  · omega
/-- a cell that moves on -/
theorem u3_u {M : Mem} {c r j : Nat} {v w : Int32} : am_u3 (am_u3 M c r j v) c r j w = am_u3 M c r j w := by
  funext c' r' j'
  unfold am_u3
  by_cases h : c' = c ∧ r' = r ∧ j' = j
  · rw [if_pos h, if_pos h]
  · rw [if_neg h, if_neg h, if_neg h]
theorem wh_scan {B : Mem → Option (Mem ⊕ Mem)} {M : Mem} {cl j n p : Nat} {c : Nat → Bool} (hn : n ≤ 600) (hp : p ≤ n) (hc : ∀ j, c j = true → j < n) (e : M cl 0 j = nI p) (hB : ∀ q, q ≤ n → B (am_u3 M cl 0 j (nI q)) = some (if c q = true then Sum.inl (am_u3 M cl 0 j (nI (q + 1))) else Sum.inr (am_u3 M cl 0 j (nI q)))) : wh B FU M = some (am_u3 M cl 0 j (nI (en c n p))) := by
  obtain ⟨h1, h2, h3, h4⟩ := en_f hp hc
  have e0 : M = am_u3 M cl 0 j (nI (p + 0)) := by rw [Nat.add_zero, ← e]; exact (u3_self rfl).symm
  have key := wh_for (B := B) (fun k => am_u3 M cl 0 j (nI (p + k))) (en c n p - p) (am_u3 M cl 0 j (nI (en c n p))) (by omega) (fun k hk => by
    rw [hB (p + k) (by omega), h3 (p + k) (by omega) (by omega)]
    rfl) (by
    rw [show p + (en c n p - p) = en c n p by omega, hB _ h2, h4]
    rfl)
  rw [← e0] at key
  exact key
/-- the text, as class and model have it -/
def CT (T : Nat → Nat) (n : Nat) (M : Mem) : Prop := M 1 0 2 = nI n ∧ n ≤ 600 ∧ M 1 0 1 = 0 ∧ ∀ j, j < n → M 2 0 j = bS (T j) ∧ T j < 256
def MT (T : Nat → Nat) (n : Nat) (M : Mem) : Prop := M 54 0 2 = nI n ∧ n ≤ 600 ∧ M 54 0 1 = 0 ∧ ∀ j, j < n → M 55 0 j = nI (T j) ∧ T j < 256
def cmv (M M' : Mem) : Prop := fr [1] M M' ∧ M' 1 0 1 = M 1 0 1 ∧ M' 1 0 2 = M 1 0 2
theorem cmv_rfl {M : Mem} : cmv M M := ⟨fr_rfl, rfl, rfl⟩
theorem cmv_tr {M M1 M2 : Mem} (a : cmv M M1) (b : cmv M1 M2) : cmv M M2 := ⟨fr_tr a.1 b.1, b.2.1.trans a.2.1, b.2.2.trans a.2.2⟩
theorem cmv_u {M M' : Mem} {j : Nat} {v : Int32} (a : cmv M M') (h : 3 ≤ j) : cmv M (am_u3 M' 1 0 j v) := ⟨fr_u3 a.1 (by decide), (u3_j (by omega)).trans a.2.1, (u3_j (by omega)).trans a.2.2⟩
theorem CT_m {T : Nat → Nat} {n : Nat} {M M' : Mem} (h : CT T n M) (a : cmv M M') : CT T n M' := by
  obtain ⟨h1, h2, h3, h4⟩ := h
  refine ⟨a.2.2.trans h1, h2, a.2.1.trans h3, fun j hj => ?_⟩
  rw [a.1 2 (by decide)]; exact h4 j hj
def k456 : List Nat := [4, 5, 6]
def mmv (M M' : Mem) : Prop := fr [54] M M' ∧ ∀ j, j ∉ k456 → M' 54 0 j = M 54 0 j
theorem mmv_rfl {M : Mem} : mmv M M := ⟨fr_rfl, fun _ _ => rfl⟩
theorem mmv_tr {M M1 M2 : Mem} (a : mmv M M1) (b : mmv M1 M2) : mmv M M2 := ⟨fr_tr a.1 b.1, fun j h => (b.2 j h).trans (a.2 j h)⟩
theorem mmv_u {M M' : Mem} {j : Nat} {v : Int32} (a : mmv M M') (h : j ∈ k456) : mmv M (am_u3 M' 54 0 j v) := ⟨fr_u3 a.1 (by decide), fun i hi => (u3_j (fun z => hi (by rw [z.2]; exact h))).trans (a.2 i hi)⟩
theorem MT_m {T : Nat → Nat} {n : Nat} {M M' : Mem} (h : MT T n M) (a : mmv M M') : MT T n M' := by
  obtain ⟨h1, h2, h3, h4⟩ := h
  refine ⟨(a.2 2 (by decide)).trans h1, h2, (a.2 1 (by decide)).trans h3, fun j hj => ?_⟩
  rw [a.1 55 (by decide)]; exact h4 j hj
/-- at p without a FAULT; with one -/
def CS (T : Nat → Nat) (n p : Nat) (M : Mem) : Prop := CT T n M ∧ p ≤ n ∧ M 1 0 3 = nI p ∧ M 1 0 5 = 0 ∧ M 1 0 6 = -1
def CF (T : Nat → Nat) (n k q : Nat) (M : Mem) : Prop := CT T n M ∧ (∃ p, p ≤ n ∧ M 1 0 3 = nI p) ∧ M 1 0 5 = nI k ∧ (1 ≤ k ∧ k ≤ 3) ∧ M 1 0 6 = nI q
def MS (T : Nat → Nat) (n p : Nat) (M : Mem) : Prop := MT T n M ∧ p ≤ n ∧ M 54 0 4 = nI p ∧ M 54 0 5 = 0
def MF (T : Nat → Nat) (n k q : Nat) (M : Mem) : Prop := MT T n M ∧ M 54 0 5 = nI k ∧ (1 ≤ k ∧ k ≤ 3) ∧ M 54 0 6 = nI q ∧ ∃ p, p ≤ n ∧ M 54 0 4 = nI p
theorem CF_ne {T : Nat → Nat} {n k q : Nat} {M : Mem} (h : CF T n k q M) : ¬ M 1 0 5 = 0 := by rw [h.2.2.1]; exact nI_ne0 (by have := h.2.2.2.1; omega) (by have := h.2.2.2.1; omega)
theorem MF_ne {T : Nat → Nat} {n k q : Nat} {M : Mem} (h : MF T n k q M) : ¬ M 54 0 5 = 0 := by rw [h.2.1]; exact nI_ne0 (by have := h.2.2.1; omega) (by have := h.2.2.1; omega)
theorem byT {T : Nat → Nat} {n p : Nat} {M : Mem} (h : MT T n M) (hp : p ≤ n) : f_X12_byteAt (nI p) M = some (if p < n then nI (T p) else -1) := by
  obtain ⟨h1, h2, -, h4⟩ := h
  unfold f_X12_byteAt
  rw [h1]
  by_cases hl : p < n
  · rw [if_pos (nI_lt hl (by omega)), if_pos (inb_n (by omega) (by decide)), nI_clamp (by omega), (h4 p hl).1, if_pos hl]
  · rw [if_neg (nI_nlt (by omega) (by omega)), if_neg hl]
/-- blanks are passed -/
theorem m_blanks {T : Nat → Nat} {n p : Nat} {M : Mem} (h : MT T n M) (hp : p ≤ n) (e : M 54 0 4 = nI p) : f_X12_blanks M = some (am_u3 M 54 0 4 (nI (sk T n p))) := by
  have key : wh L_X12_blanks_0 FU M = some (am_u3 M 54 0 4 (nI (sk T n p))) := by
    refine wh_scan h.2.1 hp cB_n e (fun q hq => ?_)
    unfold L_X12_blanks_0
    rw [u3_e, byT (MT_m h (mmv_u mmv_rfl (by decide))) hq]
    simp only [Option.bind]
    unfold cB
    by_cases hl : q < n
    · have ht := (h.2.2.2 q hl).2
      rw [if_pos hl, decide_eq_true hl, Bool.true_and]
      by_cases h32 : T q = 32
      · rw [if_pos (by rw [h32]; rfl), decide_eq_true h32, nI_1, u3_u]; rfl
      · rw [if_neg (show ¬ nI (T q) = 32 from fun z => h32 ((nI_eq (b := 32) (by omega) (by decide)).mp z)), decide_eq_false h32]; rfl
    · rw [if_neg hl, decide_eq_false hl, if_neg (by decide)]; rfl
  unfold f_X12_blanks
  rw [key]; rfl
theorem c_next0 {T : Nat → Nat} {n p : Nat} {M : Mem} (h : CT T n M) (hp : p ≤ n) (e : M 1 0 3 = nI p) : f_X10_next M = some (if sk T n p < n then nI (T (sk T n p)) else -1, am_u3 M 1 0 3 (nI (sk T n p))) := by
  have hs := sk_f (T := T) hp
  have key : wh L_X10_next_0 FU M = some (am_u3 M 1 0 3 (nI (sk T n p))) := by
    refine wh_scan h.2.1 hp cB_n e (fun q hq => ?_)
    unfold L_X10_next_0
    rw [u3_e, u3_j (show ¬ (0 = 0 ∧ 2 = 3) by omega), h.1, u3_c (show 2 ≠ 1 by decide), u3_u]
    unfold cB
    by_cases hl : q < n
    · have ht := (h.2.2.2 q hl)
      rw [if_neg (nI_ge hl (by have := h.2.1; omega)), if_pos (inb_n (by have := h.2.1; omega) (by decide)), nI_clamp (by have := h.2.1; omega), decide_eq_true hl, Bool.true_and, ht.1, nI_1]
      by_cases h32 : T q = 32
      · rw [if_pos ((bS_32 _ ht.2).mpr h32), decide_eq_true h32]; rfl
      · rw [if_neg (fun z => h32 ((bS_32 _ ht.2).mp z)), decide_eq_false h32]; rfl
    · rw [if_pos (nI_le (by omega) (by have := h.2.1; omega)), decide_eq_false hl]; rfl
  unfold f_X10_next
  rw [key]
  simp only [Option.bind]
  have hn := h.2.1
  rw [u3_e, u3_j (show ¬ (0 = 0 ∧ 2 = 3) by omega), h.1, u3_c (show 2 ≠ 1 by decide)]
  by_cases hl : sk T n p < n
  · have ht := h.2.2.2 _ hl
    rw [if_neg (nI_ge hl (by omega)), if_pos (inb_n (by omega) (by decide)), nI_clamp (by omega), ht.1, bS_and _ ht.2, if_pos hl]
  · rw [if_pos (nI_le (by omega) (by omega)), if_neg hl]
/-- the next byte, as told -/
def nb (T : Nat → Nat) (n p : Nat) : Int32 := if sk T n p < n then nI (T (sk T n p)) else -1
theorem CS_n {T : Nat → Nat} {n p : Nat} {M : Mem} (h : CS T n p M) : f_X10_next M = some (nb T n p, am_u3 M 1 0 3 (nI (sk T n p))) ∧ CS T n (sk T n p) (am_u3 M 1 0 3 (nI (sk T n p))) ∧ cmv M (am_u3 M 1 0 3 (nI (sk T n p))) := by
  obtain ⟨h1, h2, h3, h4, h5⟩ := h
  have mv : cmv M (am_u3 M 1 0 3 (nI (sk T n p))) := cmv_u cmv_rfl (by decide)
  exact ⟨c_next0 h1 h2 h3, ⟨CT_m h1 mv, (sk_f h2).2.1, u3_e _ _ _ _ _, (u3_j (by omega)).trans h4, (u3_j (by omega)).trans h5⟩, mv⟩
theorem CF_n {T : Nat → Nat} {n k q : Nat} {M : Mem} (h : CF T n k q M) : ok (f_X10_next M) (fun r => CF T n k q r.2 ∧ cmv M r.2 ∧ ∃ p, p ≤ n ∧ r.2 1 0 3 = nI p ∧ r.1 = if p < n then nI (T p) else -1) := by
  obtain ⟨h1, ⟨p, hp, h2⟩, h3, h4, h5⟩ := h
  have mv : cmv M (am_u3 M 1 0 3 (nI (sk T n p))) := cmv_u cmv_rfl (by decide)
  refine ok_of (c_next0 h1 hp h2) ?_
  show CF T n k q (am_u3 M 1 0 3 (nI (sk T n p))) ∧ cmv M (am_u3 M 1 0 3 (nI (sk T n p))) ∧ _
  exact ⟨⟨CT_m h1 mv, ⟨_, (sk_f hp).2.1, u3_e _ _ _ _ _⟩, (u3_j (by omega)).trans h3, h4, (u3_j (by omega)).trans h5⟩, mv, sk T n p, (sk_f hp).2.1, by show am_u3 M 1 0 3 (nI (sk T n p)) 1 0 3 = _; rw [u3_e], rfl⟩
/-- a FAULT is told -/
theorem CS_b {T : Nat → Nat} {n p k q : Nat} {M : Mem} (h : CS T n p M) (hk : 1 ≤ k ∧ k ≤ 3) : CF T n k q (f_X10_blame (nI k) (nI q) M) ∧ cmv M (f_X10_blame (nI k) (nI q) M) ∧ f_X10_blame (nI k) (nI q) M 1 0 4 = M 1 0 4 := by
  obtain ⟨h1, h2, h3, h4, h5⟩ := h
  unfold f_X10_blame
  rw [if_pos h4]
  have mv : cmv M (am_u3 (am_u3 M 1 0 5 (nI k)) 1 0 6 (nI q)) := cmv_u (cmv_u cmv_rfl (by decide)) (by decide)
  refine ⟨⟨CT_m h1 mv, ⟨p, h2, ?_⟩, ?_, hk, u3_e _ _ _ _ _⟩, mv, ?_⟩
  · rw [u3_j (by omega), u3_j (by omega)]; exact h3
  · rw [u3_j (by omega), u3_e]
  · rw [u3_j (by omega), u3_j (by omega)]
theorem CF_b {T : Nat → Nat} {n k q : Nat} {x y : Int32} {M : Mem} (h : CF T n k q M) : f_X10_blame x y M = M := by
  unfold f_X10_blame
  rw [if_neg (CF_ne h)]
theorem MS_b {T : Nat → Nat} {n p k q : Nat} {M : Mem} (h : MS T n p M) (hk : 1 ≤ k ∧ k ≤ 3) : MF T n k q (f_X12_wrong (nI k) (nI q) M) ∧ mmv M (f_X12_wrong (nI k) (nI q) M) ∧ f_X12_wrong (nI k) (nI q) M 54 0 4 = M 54 0 4 := by
  obtain ⟨h1, h2, h3, h4⟩ := h
  unfold f_X12_wrong
  rw [if_pos h4]
  have mv : mmv M (am_u3 (am_u3 M 54 0 5 (nI k)) 54 0 6 (nI q)) := mmv_u (mmv_u mmv_rfl (by decide)) (by decide)
  exact ⟨⟨MT_m h1 mv, by rw [u3_j (by omega), u3_e], hk, u3_e _ _ _ _ _, p, h2, by rw [u3_j (by omega), u3_j (by omega)]; exact h3⟩, mv, by rw [u3_j (by omega), u3_j (by omega)]⟩
theorem MF_b {T : Nat → Nat} {n k q : Nat} {x y : Int32} {M : Mem} (h : MF T n k q M) : f_X12_wrong x y M = M := by
  unfold f_X12_wrong
  rw [if_neg (MF_ne h)]
theorem fty0 {T : Nat → Nat} {n p : Nat} {M : Mem} (h : CS T n p M) : f_X10_isFaulty M = 0 := by unfold f_X10_isFaulty; rw [if_pos h.2.2.2.1]
theorem fty1 {T : Nat → Nat} {n k q : Nat} {M : Mem} (h : CF T n k q M) : ¬ f_X10_isFaulty M = 0 := by unfold f_X10_isFaulty; rw [if_neg (CF_ne h)]; decide
/-- signs -/
def exq (T : Nat → Nat) (n c p : Nat) : Nat ⊕ (Nat × Nat) := if sk T n p < n ∧ T (sk T n p) = c then Sum.inl (sk T n p + 1) else Sum.inr (1, sk T n p)
theorem nb_c {T : Nat → Nat} {n p c : Nat} (h4 : ∀ j, j < n → T j < 256) (hc : c < 256) : nb T n p = nI c ↔ (sk T n p < n ∧ T (sk T n p) = c) := by
  unfold nb
  by_cases hl : sk T n p < n
  · rw [if_pos hl]
    have := h4 _ hl
    rw [nI_eq (by omega) (by omega)]
    exact ⟨fun z => ⟨hl, z⟩, fun z => z.2⟩
  · rw [if_neg hl]
    exact ⟨fun z => absurd z.symm (nI_m1 (by omega)), fun z => absurd z.1 hl⟩
def CR (T : Nat → Nat) (n : Nat) (x : Nat ⊕ (Nat × Nat)) (M : Mem) : Prop := match x with
  | Sum.inl p => CS T n p M
  | Sum.inr f => CF T n f.1 f.2 M
def MR (T : Nat → Nat) (n : Nat) (x : Nat ⊕ (Nat × Nat)) (M : Mem) : Prop := match x with
  | Sum.inl p => MS T n p M
  | Sum.inr f => MF T n f.1 f.2 M
theorem c_expect {T : Nat → Nat} {n c p : Nat} {M : Mem} (h : CS T n p M) (hc : c < 256) : ok (f_X10_expect (nI c) M) (fun M' => CR T n (exq T n c p) M' ∧ cmv M M') := by
  obtain ⟨e1, s1, mv⟩ := CS_n h
  unfold f_X10_expect
  refine ok_bindE e1 ?_
  unfold exq
  show ok (if nb T n p = nI c then _ else _) _
  have hb := nb_c (p := p) (fun j hj => (h.1.2.2.2 j hj).2) hc
  by_cases hx : sk T n p < n ∧ T (sk T n p) = c
  · refine ok_ifp (hb.mpr hx) (ok_some ?_)
    rw [if_pos hx, u3_e, nI_1, u3_u]
    have mv2 : cmv M (am_u3 M 1 0 3 (nI (sk T n p + 1))) := cmv_u cmv_rfl (by decide)
    exact ⟨⟨CT_m h.1 mv2, by omega, u3_e _ _ _ _ _, (u3_j (by omega)).trans h.2.2.2.1, (u3_j (by omega)).trans h.2.2.2.2⟩, mv2⟩
  · refine ok_ifn (fun z => hx (hb.mp z)) (ok_some ?_)
    rw [if_neg hx, u3_e]
    have := CS_b (k := 1) (q := sk T n p) s1 (by decide)
    exact ⟨this.1, cmv_tr mv this.2.1⟩
theorem c_expectF {T : Nat → Nat} {n k q c : Nat} {M : Mem} (h : CF T n k q M) (hc : c < 256) : ok (f_X10_expect (nI c) M) (fun M' => CF T n k q M' ∧ cmv M M') := by
  unfold f_X10_expect
  refine ok_bind (CF_n h) ?_
  rintro ⟨v, M1⟩ ⟨h1, m1, p, hp, ep, ev⟩
  simp only at h1 m1 ep ev
  refine ok_if (fun z => ?_) (fun _ => ?_)
  · have hpn : p < n := by
      by_cases hl : p < n
      · exact hl
      · rw [ev, if_neg hl] at z
        exact absurd z.symm (nI_m1 (by omega))
    refine ok_some ⟨⟨CT_m h1.1 (cmv_u cmv_rfl (by decide)), ⟨p + 1, by omega, by rw [u3_e, ep, nI_1]⟩, (u3_j (by omega)).trans h1.2.2.1, h1.2.2.2.1, (u3_j (by omega)).trans h1.2.2.2.2⟩, cmv_u m1 (by decide)⟩
  · exact ok_some ⟨by rw [CF_b h1]; exact h1, by rw [CF_b h1]; exact m1⟩
theorem m_sign {T : Nat → Nat} {n c p : Nat} {M : Mem} (h : MS T n p M) (hc : c < 256) : ok (f_X12_sign (nI c) M) (fun M' => MR T n (exq T n c p) M' ∧ mmv M M') := by
  obtain ⟨h1, h2, h3, h4⟩ := h
  have hs := sk_f (T := T) h2
  have mv : mmv M (am_u3 M 54 0 4 (nI (sk T n p))) := mmv_u mmv_rfl (by decide)
  have s1 : MS T n (sk T n p) (am_u3 M 54 0 4 (nI (sk T n p))) := ⟨MT_m h1 mv, hs.2.1, u3_e _ _ _ _ _, (u3_j (by omega)).trans h4⟩
  unfold f_X12_sign
  refine ok_ifp h4 (ok_bindE (m_blanks h1 h2 h3) ?_)
  rw [u3_e]
  refine ok_bindE (byT s1.1 hs.2.1) ?_
  unfold exq
  have hb := nb_c (p := p) (fun j hj => (h1.2.2.2 j hj).2) hc
  by_cases hx : sk T n p < n ∧ T (sk T n p) = c
  · refine ok_ifp (hb.mpr hx) (ok_some ?_)
    rw [if_pos hx, nI_1, u3_u]
    have mv2 : mmv M (am_u3 M 54 0 4 (nI (sk T n p + 1))) := mmv_u mmv_rfl (by decide)
    exact ⟨⟨MT_m h1 mv2, by omega, u3_e _ _ _ _ _, (u3_j (by omega)).trans h4⟩, mv2⟩
  · refine ok_ifn (fun z => hx (hb.mp z)) (ok_some ?_)
    rw [if_neg hx]
    have := MS_b (k := 1) (q := sk T n p) s1 (by decide)
    exact ⟨this.1, mmv_tr mv this.2.1⟩
theorem m_signF {T : Nat → Nat} {n k q : Nat} {x : Int32} {M : Mem} (h : MF T n k q M) : f_X12_sign x M = some M := by
  unfold f_X12_sign
  rw [if_neg (MF_ne h)]
theorem c_end {T : Nat → Nat} {n p : Nat} {M : Mem} (h : CS T n p M) : f_X10_isAtEnd M = some (if sk T n p < n then 0 else 1, am_u3 M 1 0 3 (nI (sk T n p))) := by
  obtain ⟨e1, s1, mv⟩ := CS_n h
  unfold f_X10_isAtEnd
  rw [e1]
  show (if nb T n p = -1 then _ else _) = _
  unfold nb
  by_cases hl : sk T n p < n
  · have := (h.1.2.2.2 _ hl).2
    rw [if_pos hl, if_neg (nI_m1 (by omega)), if_pos hl]
  · rw [if_neg hl, if_pos rfl, if_neg hl]
