/-! TEXTS: taken from the TAPE -/
def tC : List Nat := [0, 3, 4, 5, 6, 7, 8, 9, 10, 11, 12, 30, 31, 32, 33, 38, 41, 56, 58, 60, 62, 64, 65, 67, 72, 75, 76]
def t54 : List Nat := [19, 34, 35, 36, 37]
theorem base_w {qc : Nat} {M M' : Mem} (h : base qc M) (e : ∀ c, c ∈ tC → M' c = M c) (eq : M' qc = M qc) (e1 : M' 23 0 1 = M 23 0 1) (e4 : M' 23 0 4 = M 23 0 4) (e54 : M' 54 0 19 = M 54 0 19) : base qc M' := by
  obtain ⟨hq, h1, h2, h3, h4⟩ := h
  have e3 : M' 3 = M 3 := e 3 (by decide)
  have el : ln M' = ln M := by unfold ln; rw [e1]
  refine ⟨hq, ?_, ?_, cBed_fr e3 h3, ?_⟩
  · unfold cLaw at *
    rw [el, e1, e4, eq]; exact h1
  · unfold mLaw at *
    rw [el, eq, e54, e 65 (by decide)]
    exact h2
  · unfold mBed mBoard at *
    rw [nB_fr e3, nG_fr e3, nS_fr e3, e 58 (by decide), e3, e 60 (by decide), e 62 (by decide), e 64 (by decide), e 4 (by decide), e 5 (by decide), e 6 (by decide), e 7 (by decide), e 8 (by decide), e 9 (by decide), e 10 (by decide), e 11 (by decide), e 12 (by decide)]
    exact h4
theorem dueA_w {qc : Nat} {M M' : Mem} (e : ∀ c, c ∈ tC → M' c = M c) (eq : M' qc = M qc) (e1 : M' 23 0 1 = M 23 0 1) (a : Nat → Int32) (k : Nat) : dueA qc M' a k = dueA qc M a k := by
  unfold dueA
  rw [nB_fr (e 3 (by decide))]
  refine bitsN_cong (fun k _ => ?_)
  unfold lawB lvb ln
  rw [e1, eq, e 4 (by decide), e 5 (by decide), e 6 (by decide), e 7 (by decide)]
/-- a text was read, and nothing came of it -/
theorem Rel_txt {qc qs : Nat} {M M' : Mem} (h : Rel qc qs M) (e : ∀ c, c ∈ tC → M' c = M c) (eq : M' qc = M qc) (es : M' qs = M qs) (e1 : M' 23 0 1 = M 23 0 1) (e4 : M' 23 0 4 = M 23 0 4) (e54 : ∀ j, j ∈ t54 → M' 54 0 j = M 54 0 j) (e45 : M' 45 0 3 = M 45 0 3) (ht : rTape M') : Rel qc qs M' := by
  obtain ⟨h1, h2, h3, h4, h5, h6, h7, h8, h9⟩ := h
  have e3 : M' 3 = M 3 := e 3 (by decide)
  refine ⟨base_w h1 e eq e1 e4 (e54 19 (by decide)), h2, ?_, ht, ?_, ?_, ?_, ?_, ?_⟩
  · unfold bRng at *
    rw [nB_fr e3, nG_fr e3, nS_fr e3, e 4 (by decide), e 5 (by decide), e 6 (by decide), e 7 (by decide), e 8 (by decide), e 9 (by decide), e 10 (by decide), e 11 (by decide), e 12 (by decide)]
    exact h3
  · unfold rCnt at *
    rw [e 0 (by decide), e 56 (by decide), e54 36 (by decide)]; exact h5
  · rw [nB_fr e3, nG_fr e3, e 30 (by decide), e 72 (by decide)]; exact h6
  · unfold rPast at *
    rw [nB_fr e3, nG_fr e3, e 31 (by decide), e 32 (by decide), e 33 (by decide), e 75 (by decide), e 76 (by decide), e54 35 (by decide), e54 37 (by decide)]
    exact h7
  · unfold rBook at *
    rw [nB_fr e3, e45, e54 34 (by decide), e 67 (by decide), es]
    exact h8
  · obtain ⟨kn, c1, c2, c3⟩ := h9
    refine ⟨kn, by rw [e 38 (by decide)]; exact c1, c2, fun k hk => ?_⟩
    rw [e 41 (by decide), e 30 (by decide), c3 k hk, dueA_w e eq e1]
theorem and255 (x : Int32) : ∃ t, t < 256 ∧ x &&& 255 = nI t := by
  refine ⟨x.toBitVec.toNat % 256, Nat.mod_lt _ (by decide), ?_⟩
  apply b_ext
  intro i hi
  rw [b_and, b_255, bt_nI _ hi, show (256 : Nat) = 2 ^ 8 from rfl, Nat.testBit_mod_two_pow, Bool.and_comm]
  rfl
def txT (M : Mem) (j : Nat) : Nat := (M 55 0 j).toNatClampNeg
theorem R_tx {qc qs : Nat} {M : Mem} (h : Rel qc qs M) : ∃ t, t ≤ 600 ∧ M 1 0 1 = nI t ∧ M 54 0 1 = nI t ∧ ∀ j, j < t → M 55 0 j = nI (txT M j) ∧ txT M j < 256 ∧ M 2 0 j = bS (txT M j) := by
  obtain ⟨⟨t, t1, t2, t3, t4⟩, t5⟩ := h.2.2.2.1
  refine ⟨t, t1, t2, t3, fun j hj => ?_⟩
  obtain ⟨a1, a2⟩ := t4 j hj
  obtain ⟨x, x1, x2⟩ := and255 (M 2 0 j)
  have ex : txT M j = x := by unfold txT; rw [a1, x2, nI_clamp (by omega)]
  rw [ex, a1, x2]
  exact ⟨rfl, x1, bS_of x2 a2⟩
def tkM (x1 : Int32) (M1 : Mem) : Mem := (am_u3 (am_u3 (am_u3 (am_u3 (am_u3 M1 1 0 2 (if (M1 1 0 1) < x1 then (M1 1 0 1) else x1)) 1 0 1 (0 : Int32)) 1 0 3 (0 : Int32)) 1 0 5 (0 : Int32)) 1 0 6 (-1 : Int32))
theorem tkM_f (x : Int32) (M : Mem) : fr [1] M (tkM x M) := by
  unfold tkM
  repeat' (first | exact fr_rfl | refine fr_u3 ?_ (by decide))
theorem min_t {t m : Nat} (ht : t ≤ 600) (hm : m ≤ 600) : (if nI t < nI m then nI t else nI m) = nI (min t m) := by
  by_cases hc : t < m
  · rw [if_pos (nI_lt hc (by omega)), Nat.min_eq_left (by omega)]
  · rw [if_neg (nI_nlt (by omega) (by omega)), Nat.min_eq_right (by omega)]
theorem tkF {x : Int32} {M : Mem} {t m : Nat} (e : M 1 0 1 = nI t) (ht : t ≤ 600) (hm : m ≤ 600) (h : x < 0 ∨ nI (min t m) < x) : f_X11_takeText x (nI m) M = some (.inr IAE, am_u3 M 0 0 14 (M 0 0 14 + 1)) := by
  unfold f_X11_takeText
  rw [e, min_t ht hm, fitF h]; rfl
theorem tkT {M : Mem} {t m n : Nat} (e : M 1 0 1 = nI t) (ht : t ≤ 600) (hm : m ≤ 600) (h : n ≤ min t m) : f_X11_takeText (nI n) (nI m) M = some (.inl 0, tkM (nI n) M) := by
  unfold f_X11_takeText
  rw [e, min_t ht hm, fitT (fit_n (by omega) h)]
  rfl
theorem c_take {qc qs : Nat} {M : Mem} {t n : Nat} (h : Rel qc qs M) (ht : t ≤ 600) (e : M 1 0 1 = nI t) (hn : n ≤ t) : CS (txT M) n 0 (tkM (nI n) M) := by
  obtain ⟨t', t1, t2, t3, t4⟩ := R_tx h
  have : t' = t := (nI_eq (by omega) (by omega)).mp (t2.symm.trans e)
  subst this
  have f := tkM_f (nI n) M
  refine ⟨⟨?_, by omega, ?_, fun j hj => ?_⟩, Nat.zero_le _, ?_, ?_, ?_⟩
  · unfold tkM
    rw [u3_j (by omega), u3_j (by omega), u3_j (by omega), u3_j (by omega), u3_e, e, if_neg (nI_nlt hn (by omega))]
  · unfold tkM
    rw [u3_j (by omega), u3_j (by omega), u3_j (by omega), u3_e]
  · rw [f 2 (by decide)]
    have := t4 j (by omega)
    exact ⟨this.2.2, this.2.1⟩
  · unfold tkM
    rw [u3_j (by omega), u3_j (by omega), u3_e]; rfl
  · unfold tkM
    rw [u3_j (by omega), u3_e]
  · unfold tkM
    rw [u3_e]
def s54 : List Nat := [1, 2, 4, 5, 6, 7, 8]
theorem m_starts {T : Nat → Nat} {n : Nat} {M : Mem} (hn : n ≤ 600) (hT : ∀ j, j < n → M 55 0 j = nI (T j) ∧ T j < 256) : ok (f_X12_starts (nI n) M) (fun M' => MS T n (sk T n 0) M' ∧ fr [54] M M' ∧ (∀ j, j ∉ s54 → M' 54 0 j = M 54 0 j) ∧ M' 54 0 7 = 0 ∧ M' 54 0 8 = 0) := by
  unfold f_X12_starts
  have f : fr [54] M (am_u3 (am_u3 (am_u3 (am_u3 (am_u3 (am_u3 (am_u3 M 54 0 1 (0 : Int32)) 54 0 2 (nI n)) 54 0 4 (0 : Int32)) 54 0 5 (0 : Int32)) 54 0 6 (-1 : Int32)) 54 0 7 (0 : Int32)) 54 0 8 (0 : Int32)) := by
    repeat' (first | exact fr_rfl | refine fr_u3 ?_ (by decide))
  have g : ∀ j, (am_u3 (am_u3 (am_u3 (am_u3 (am_u3 (am_u3 (am_u3 M 54 0 1 (0 : Int32)) 54 0 2 (nI n)) 54 0 4 (0 : Int32)) 54 0 5 (0 : Int32)) 54 0 6 (-1 : Int32)) 54 0 7 (0 : Int32)) 54 0 8 (0 : Int32)) 54 0 j = if j = 8 then 0 else if j = 7 then 0 else if j = 6 then -1 else if j = 5 then 0 else if j = 4 then 0 else if j = 2 then nI n else if j = 1 then 0 else M 54 0 j := by
    intro j
    simp only [u3_x, true_and]
  generalize (am_u3 (am_u3 (am_u3 (am_u3 (am_u3 (am_u3 (am_u3 M 54 0 1 (0 : Int32)) 54 0 2 (nI n)) 54 0 4 (0 : Int32)) 54 0 5 (0 : Int32)) 54 0 6 (-1 : Int32)) 54 0 7 (0 : Int32)) 54 0 8 (0 : Int32)) = M1 at f g ⊢
  have hT1 : MT T n M1 := ⟨g 2, hn, g 1, fun j hj => by rw [f 55 (by decide)]; exact hT j hj⟩
  refine ok_bindE (m_blanks hT1 (Nat.zero_le _) (g 4)) (ok_some ?_)
  refine ⟨⟨MT_m hT1 (mmv_u mmv_rfl (by decide)), (sk_f (Nat.zero_le _)).2.1, u3_e _ _ _ _ _, ?_⟩, fr_u3 f (by decide), fun j hj => ?_, ?_, ?_⟩
  · rw [u3_j (by omega)]; exact g 5
  · have h4 : j ≠ 4 := fun z => hj (by rw [z]; decide)
    rw [u3_j (by omega), g j, if_neg (fun z => hj (by rw [z]; decide)), if_neg (fun z => hj (by rw [z]; decide)), if_neg (fun z => hj (by rw [z]; decide)), if_neg (fun z => hj (by rw [z]; decide)), if_neg h4, if_neg (fun z => hj (by rw [z]; decide)), if_neg (fun z => hj (by rw [z]; decide))]
  · rw [u3_j (by omega)]; exact g 7
  · rw [u3_j (by omega)]; exact g 8
/-- an empty TAPE, and the place of the FAULT -/
theorem rT_0 {M : Mem} (h1 : M 1 0 1 = 0) (h2 : M 54 0 1 = 0) (h3 : M 1 0 6 = M 54 0 3) : rTape M := ⟨⟨0, by decide, h1, h2, fun j hj => by cases hj⟩, h3⟩
theorem sk_le {T : Nat → Nat} {n p : Nat} (hp : p ≤ n) : sk T n p ≤ n := (sk_f hp).2.1
theorem num_sk {T : Nat → Nat} {n a b p : Nat} (hp : p ≤ n) : num T n a b (sk T n p) = num T n a b p := by unfold num; rw [sk_sk hp]
theorem exq_sk {T : Nat → Nat} {n c p : Nat} (hp : p ≤ n) : exq T n c (sk T n p) = exq T n c p := by unfold exq; rw [sk_sk hp]
theorem exq_f {T : Nat → Nat} {n c p e : Nat} (hp : p ≤ n) (h : exq T n c p = Sum.inl e) : p < e ∧ e ≤ n := by
  have hs := sk_f (T := T) hp
  unfold exq at h
  split at h
  · rename_i hc
    injection h with h
    omega
  · cases h
