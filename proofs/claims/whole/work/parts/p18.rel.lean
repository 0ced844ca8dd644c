/-! BOTH SIDES BETWEEN CALLS -/
def bRng (M : Mem) : Prop := (∀ b, b < nB M → (∃ x, x ≤ 9 ∧ M 4 0 b = nI x) ∧ (∃ x, x ≤ 20 ∧ M 5 0 b = nI x) ∧ (∃ x, x ≤ 9 ∧ M 6 0 b = nI x) ∧ (∃ x, x ≤ 40 ∧ M 7 0 b = nI x)) ∧ (∀ k, k < nG M → (∃ x, x ≤ 9 ∧ M 8 0 k = nI x) ∧ (∃ x, x ≤ 95 ∧ M 9 0 k = nI x)) ∧ (∀ s, s < nS M → ∃ f t x, M 10 0 s = nI f ∧ M 11 0 s = nI t ∧ M 12 0 s = nI x ∧ f ≤ t ∧ t < nB M ∧ 1 ≤ x ∧ x ≤ 40)
def rTape (M : Mem) : Prop := (∃ t, t ≤ 600 ∧ M 1 0 1 = nI t ∧ M 54 0 1 = nI t ∧ ∀ j, j < t → M 55 0 j = M 2 0 j &&& 255 ∧ (M 2 0 j).toInt8.toInt32 = M 2 0 j) ∧ M 1 0 6 = M 54 0 3
def rCnt (M : Mem) : Prop := M 0 0 12 = M 54 0 36 ∧ M 0 0 13 = M 56 0 0 ∧ M 0 0 14 = M 56 0 1
def hRg (a : Nat → Int32) : Prop := ∃ h, h ≤ 960 ∧ a 0 = nI h
/-- a state kept, with its range -/
def SRk (n g : Nat) (a b : Nat → Int32) : Prop := SR n g a b ∧ hRg a ∧ b 52 = 0 ∧ b 57 = 0
def rPast (M : Mem) : Prop := ∃ w m, w ≤ 16 ∧ m ≤ 3 ∧ M 31 0 1 = nI w ∧ M 54 0 35 = nI w ∧ M 31 0 3 = nI m ∧ M 54 0 37 = nI m ∧ (∀ i, i < w → SRk (nB M) (nG M) (fun j => M 32 0 (47 * i + j)) (M 75 (i + 1))) ∧
  (∀ q, q < m → ∃ w', w' ≤ 16 ∧ M 33 (q + 1) 799 = nI w' ∧ M 76 (q + 1) 0 = nI w' ∧ SRk (nB M) (nG M) (fun j => M 33 (q + 1) (752 + j)) (fun j => M 76 (q + 1) (1 + j)) ∧ ∀ i, i < w' → SRk (nB M) (nG M) (fun j => M 33 (q + 1) (47 * i + j)) (fun j => M 76 (q + 1) (67 + 66 * i + j)))
def rBook (qs : Nat) (M : Mem) : Prop := ∃ l, l ≤ 12 ∧ M 45 0 3 = nI l ∧ M 54 0 34 = nI l ∧ (∀ i, i < l → ∃ b x, b < nB M ∧ x ≤ 99 ∧ M 67 (i + 1) 0 = nI b ∧ M 67 (i + 1) 1 = nI x ∧ M qs 0 b = nI x) ∧ (∀ b, b < nB M → (∀ i, i < l → M 67 (i + 1) 0 ≠ nI b) → M qs 0 b = -1)
def Rel (qc qs : Nat) (M : Mem) : Prop := base qc M ∧ (qs = 46 ∨ qs = 47) ∧ bRng M ∧ rTape M ∧ rCnt M ∧ SRk (nB M) (nG M) (M 30 0) (M 72 0) ∧ rPast M ∧ rBook qs M ∧ cch qc M
/-- cells that stay when one asks -/
def kCells : List Nat := [0, 1, 2, 3, 4, 5, 6, 7, 8, 9, 10, 11, 12, 23, 24, 25, 30, 31, 32, 33, 46, 47, 55, 56, 58, 60, 62, 64, 65, 67, 72, 75, 76]
def k54 : List Nat := [1, 3, 19, 34, 35, 36, 37]
def asks (M M' : Mem) : Prop := (∀ c, c ∈ kCells → M' c = M c) ∧ (∀ j, j ∈ k54 → M' 54 0 j = M 54 0 j) ∧ M' 45 0 3 = M 45 0 3
theorem asks_rfl {M : Mem} : asks M M := ⟨fun _ _ => rfl, fun _ _ => rfl, rfl⟩
theorem asks_tr {M M1 M2 : Mem} (a : asks M M1) (b : asks M1 M2) : asks M M2 := ⟨fun c h => (b.1 c h).trans (a.1 c h), fun j h => (b.2.1 j h).trans (a.2.1 j h), b.2.2.trans a.2.2⟩
theorem kb : ∀ c, c ∈ bCells → c ∈ kCells := by decide
theorem asks_b {M M' : Mem} (a : asks M M') : ∀ c, c ∈ bCells → M' c = M c := fun c hc => a.1 c (kb c hc)
theorem base_a {qc : Nat} {M M' : Mem} (h : base qc M) (a : asks M M') : base qc M' := base_c h (asks_b a) (a.2.1 19 (by decide))
theorem Rel_a {qc qs : Nat} {M M' : Mem} (h : Rel qc qs M) (a : asks M M') (hc : cch qc M') : Rel qc qs M' := by
  obtain ⟨h1, h2, h3, h4, h5, h6, h7, h8, h9⟩ := h
  have e3 : M' 3 = M 3 := a.1 3 (by decide)
  have k : ∀ c, c ∈ kCells → M' c = M c := a.1
  refine ⟨base_a h1 a, h2, ?_, ?_, ?_, ?_, ?_, ?_, hc⟩
  · unfold bRng at *
    rw [nB_fr e3, nG_fr e3, nS_fr e3, k 4 (by decide), k 5 (by decide), k 6 (by decide), k 7 (by decide), k 8 (by decide), k 9 (by decide), k 10 (by decide), k 11 (by decide), k 12 (by decide)]
    exact h3
  · unfold rTape at *
    rw [k 1 (by decide), k 2 (by decide), k 55 (by decide), a.2.1 1 (by decide), a.2.1 3 (by decide)]
    exact h4
  · unfold rCnt at *
    rw [k 0 (by decide), k 56 (by decide), a.2.1 36 (by decide)]
    exact h5
  · rw [nB_fr e3, nG_fr e3, k 30 (by decide), k 72 (by decide)]
    exact h6
  · unfold rPast at *
    rw [nB_fr e3, nG_fr e3, k 31 (by decide), k 32 (by decide), k 33 (by decide), k 75 (by decide), k 76 (by decide), a.2.1 35 (by decide), a.2.1 37 (by decide)]
    exact h7
  · unfold rBook at *
    rw [nB_fr e3, a.2.2, a.2.1 34 (by decide), k 67 (by decide), show M' qs = M qs by rcases h2 with rfl | rfl <;> exact k _ (by decide)]
    exact h8
/-- the class's and the model's scratch -/
def cS : List Nat := [26, 27, 38, 39, 40, 41, 42, 43, 44, 48, 49, 50, 51, 52, 53]
def mS : List Nat := [69, 70, 73, 74, 77, 78, 79, 80, 81]
theorem asks_c {M M' : Mem} (h : fr cS M M') : asks M M' := ⟨fun c hc => h c (by revert c; decide), fun j _ => by rw [h 54 (by decide)], by rw [h 45 (by decide)]⟩
/-- the model asks: thrown and other scratch of its own may have changed -/
def mfr (M M' : Mem) : Prop := fr (54 :: mS) M M' ∧ ∀ j, j ∈ k54 → M' 54 0 j = M 54 0 j
theorem mfr_rfl {M : Mem} : mfr M M := ⟨fr_rfl, fun _ _ => rfl⟩
theorem mfr_tr {M M1 M2 : Mem} (a : mfr M M1) (b : mfr M1 M2) : mfr M M2 := ⟨fr_tr a.1 b.1, fun j h => (b.2 j h).trans (a.2 j h)⟩
theorem mfr_f {M M' : Mem} {S : List Nat} (h : fr S M M') (hS : ∀ c, c ∈ S → c ∈ mS) : mfr M M' := ⟨fr_mono h (fun c hc => List.mem_cons_of_mem _ (hS c hc)), fun j _ => by rw [h 54 (fun z => absurd (hS 54 z) (by decide))]⟩
theorem mfr_54 {M M' : Mem} {j : Nat} {v : Int32} (h : mfr M M') (hj : j ∉ k54) : mfr M (am_u3 M' 54 0 j v) := ⟨fr_u3 h.1 (by decide), fun i hi => by
  have hij : i ≠ j := fun z => hj (z ▸ hi)
  rw [u3_j (fun z => hij z.2)]
  exact h.2 i hi⟩
theorem mfr_u {M M' : Mem} {c r j : Nat} {v : Int32} (h : mfr M M') (hc : c ∈ mS) : mfr M (am_u3 M' c r j v) := ⟨fr_u3 h.1 (List.mem_cons_of_mem _ hc), fun i hi => by
  rw [u3_c (fun z => absurd (z ▸ hc) (by decide))]
  exact h.2 i hi⟩
theorem asks_m {M M' : Mem} (h : mfr M M') : asks M M' := ⟨fun c hc => h.1 c (by revert c; decide), h.2, by rw [h.1 45 (by decide)]⟩
theorem cch_m {qc : Nat} {M M' : Mem} (hq : qc = 24 ∨ qc = 25) (h : mfr M M') (hc : cch qc M) : cch qc M' := by
  obtain ⟨kn, c1, c2, c3⟩ := hc
  refine ⟨kn, by rw [h.1 38 (by decide)]; exact c1, c2, fun k hk => ?_⟩
  rw [h.1 41 (by decide), h.1 30 (by decide), c3 k hk, dueA_c hq (asks_b (asks_m h))]
/-- refused by both -/
theorem in_eq (x lo hi : Int32) : f_X12_in x lo hi = 0 ↔ x < lo ∨ hi < x := by
  unfold f_X12_in
  by_cases h1 : x < lo
  · simp [h1]
  · by_cases h2 : hi < x
    · simp [h1, h2]
    · simp [h1, h2]
theorem bad0 {w r : Int32} {M : Mem} (h : M 54 0 0 = 0) : f_X12_bad 0 w r M = some (0, M) := by
  unfold f_X12_bad
  rw [if_pos rfl, if_pos h]
theorem bad1 {k : Nat} {w : Int32} {M : Mem} (hw : w ≠ 0) (hk : k < 2) (h : M 54 0 0 = 0) : f_X12_bad 1 w (nI k) M = some (1, am_u3 (am_u3 M 54 0 0 w) 56 0 k (M 56 0 k + 1)) := by
  unfold f_X12_bad
  rw [if_neg (by decide), if_pos h, if_pos (inb_n hk (by decide)), if_neg hw, nI_clamp (by omega)]
def IAE : String := "java/lang/IllegalArgumentException"
def NSE : String := "java/util/NoSuchElementException"
theorem fitF {x lo hi : Int32} {M : Mem} (h : x < lo ∨ hi < x) : f_X11_needFit x lo hi M = some (.inr IAE, am_u3 M 0 0 14 (M 0 0 14 + 1)) := by
  unfold f_X11_needFit
  by_cases h1 : x < lo
  · rw [if_pos h1]; rfl
  · rw [if_neg h1, if_neg (by rw [Int32.not_le]; rcases h with h | h; exact absurd h h1; exact h)]; rfl
theorem fitT {x lo hi : Int32} {M : Mem} (h : ¬ (x < lo ∨ hi < x)) : f_X11_needFit x lo hi M = some (.inl 0, M) := by
  unfold f_X11_needFit
  rw [if_neg (fun z => h (Or.inl z)), if_pos (by rw [← Int32.not_lt]; exact fun z => h (Or.inr z))]
theorem thereF {x n : Int32} {M : Mem} (h : x < 0 ∨ n ≤ x) : f_X11_needThere x n M = some (.inr NSE, am_u3 M 0 0 13 (M 0 0 13 + 1)) := by
  unfold f_X11_needThere
  by_cases h1 : x < 0
  · rw [if_pos h1]; rfl
  · rw [if_neg h1, if_neg (by rw [Int32.not_lt]; rcases h with h | h; exact absurd h h1; exact h)]; rfl
theorem thereT {x n : Int32} {M : Mem} (h : ¬ (x < 0 ∨ n ≤ x)) : f_X11_needThere x n M = some (.inl 0, M) := by
  unfold f_X11_needThere
  rw [if_neg (fun z => h (Or.inl z)), if_pos (by rw [← Int32.not_le]; exact fun z => h (Or.inr z))]
theorem Rel_r {qc qs k : Nat} {w : Int32} {M : Mem} (hk : k = 13 ∨ k = 14) (h : Rel qc qs M) : Rel qc qs (am_u3 (am_u3 (am_u3 (am_u3 M 0 0 k (M 0 0 k + 1)) 54 0 0 0) 54 0 0 w) 56 0 (k - 13) (M 56 0 (k - 13) + 1)) := by
  obtain ⟨h1, h2, h3, h4, h5, h6, h7, h8, h9⟩ := h
  have e : ∀ c, c ∉ [0, 54, 56] → (am_u3 (am_u3 (am_u3 (am_u3 M 0 0 k (M 0 0 k + 1)) 54 0 0 0) 54 0 0 w) 56 0 (k - 13) (M 56 0 (k - 13) + 1)) c = M c := by
    repeat' (first | exact fr_rfl | refine fr_u3 ?_ (by decide))
  have e54 : ∀ j, j ≠ 0 → (am_u3 (am_u3 (am_u3 (am_u3 M 0 0 k (M 0 0 k + 1)) 54 0 0 0) 54 0 0 w) 56 0 (k - 13) (M 56 0 (k - 13) + 1)) 54 0 j = M 54 0 j := by
    intro j hj
    rw [u3_c (by decide), u3_j (by omega), u3_j (by omega), u3_c (by decide)]
  have e0 : ∀ j, (am_u3 (am_u3 (am_u3 (am_u3 M 0 0 k (M 0 0 k + 1)) 54 0 0 0) 54 0 0 w) 56 0 (k - 13) (M 56 0 (k - 13) + 1)) 0 0 j = if j = k then M 0 0 k + 1 else M 0 0 j := by
    intro j
    rw [u3_c (by decide), u3_c (by decide), u3_c (by decide), u3_r]
    rfl
  have e56 : ∀ j, (am_u3 (am_u3 (am_u3 (am_u3 M 0 0 k (M 0 0 k + 1)) 54 0 0 0) 54 0 0 w) 56 0 (k - 13) (M 56 0 (k - 13) + 1)) 56 0 j = if j = k - 13 then M 56 0 (k - 13) + 1 else M 56 0 j := by
    intro j
    rw [u3_r, u3_c (by decide), u3_c (by decide), u3_c (by decide)]
    rfl
  generalize am_u3 (am_u3 (am_u3 (am_u3 M 0 0 k (M 0 0 k + 1)) 54 0 0 0) 54 0 0 w) 56 0 (k - 13) (M 56 0 (k - 13) + 1) = M' at e e54 e0 e56
  have e3 : M' 3 = M 3 := e 3 (by decide)
  have eb : ∀ c, c ∈ bCells → M' c = M c := fun c hc => e c (by revert c; decide)
  refine ⟨base_c h1 eb (e54 19 (by decide)), h2, ?_, ?_, ?_, ?_, ?_, ?_, ?_⟩
  · unfold bRng at *
    rw [nB_fr e3, nG_fr e3, nS_fr e3, e 4 (by decide), e 5 (by decide), e 6 (by decide), e 7 (by decide), e 8 (by decide), e 9 (by decide), e 10 (by decide), e 11 (by decide), e 12 (by decide)]
    exact h3
  · unfold rTape at *
    rw [e 1 (by decide), e 2 (by decide), e 55 (by decide), e54 1 (by decide), e54 3 (by decide)]
    exact h4
  · unfold rCnt at *
    rw [e0, e0, e0, e54 36 (by decide), e56, e56]
    rcases hk with rfl | rfl
    · exact ⟨h5.1, by rw [if_pos rfl, if_pos rfl, h5.2.1], h5.2.2⟩
    · exact ⟨h5.1, h5.2.1, by rw [if_pos rfl, if_pos rfl, h5.2.2]⟩
  · rw [nB_fr e3, nG_fr e3, e 30 (by decide), e 72 (by decide)]
    exact h6
  · unfold rPast at *
    rw [nB_fr e3, nG_fr e3, e 31 (by decide), e 32 (by decide), e 33 (by decide), e 75 (by decide), e 76 (by decide), e54 35 (by decide), e54 37 (by decide)]
    exact h7
  · unfold rBook at *
    rw [nB_fr e3, e 45 (by decide), e54 34 (by decide), e 67 (by decide), show M' qs = M qs by rcases h2 with rfl | rfl <;> exact e _ (by decide)]
    exact h8
  · obtain ⟨kn, c1, c2, c3⟩ := h9
    refine ⟨kn, by rw [e 38 (by decide)]; exact c1, c2, fun k hk => ?_⟩
    rw [e 41 (by decide), e 30 (by decide), c3 k hk, dueA_c h1.1 eb]
