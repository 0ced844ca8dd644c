/-! ROWS OF BOARDS: narrow, worst, busiest -/
def itr {α : Type} (F : Nat → α → α) (a : α) : Nat → α
  | 0 => a
  | k + 1 => F k (itr F a k)
theorem itr_s {α : Type} (F : Nat → α → α) (a : α) (k : Nat) : itr F a (k + 1) = F k (itr F a k) := rfl
theorem itr_cong {α : Type} {F G : Nat → α → α} {a : α} : ∀ {n : Nat}, (∀ k x, k < n → F k x = G k x) → itr F a n = itr G a n
  | 0, _ => rfl
  | n + 1, h => by rw [itr_s, itr_s, itr_cong (fun k x hk => h k x (by omega)), h n _ (by omega)]
def nrF (M : Mem) (m : Int32) (k : Nat) (s : Int32 × Int32 × Int32) : Int32 × Int32 × Int32 := if M 4 0 k < m then (s.1, s.2.1, 0) else if s.2.2 + 1 ≤ s.1 then (s.1, s.2.1, s.2.2 + 1) else (s.2.2 + 1, nI k - (s.2.2 + 1) + 1, s.2.2 + 1)
def nrS (M : Mem) (m : Int32) (k : Nat) : Int32 × Int32 × Int32 := itr (nrF M m) (0, -1, 0) k
theorem nrS_i (M : Mem) (m : Int32) : ∀ k, ∃ l r, (nrS M m k).1 = nI l ∧ (nrS M m k).2.2 = nI r ∧ l ≤ k ∧ r ≤ k
  | 0 => ⟨0, 0, rfl, rfl, Nat.le_refl _, Nat.le_refl _⟩
  | k + 1 => by
    obtain ⟨l, r, e1, e2, h1, h2⟩ := nrS_i M m k
    unfold nrS at e1 e2 ⊢
    rw [itr_s]
    generalize itr (nrF M m) (0, -1, 0) k = s at e1 e2
    unfold nrF
    split
    · exact ⟨l, 0, e1, rfl, by omega, by omega⟩
    · split
      · exact ⟨l, r + 1, e1, by show _ + 1 = _; rw [e2, nI_1], by omega, by omega⟩
      · exact ⟨r + 1, r + 1, by show _ + 1 = _; rw [e2, nI_1], by show _ + 1 = _; rw [e2, nI_1], by omega, by omega⟩
theorem c_narrow {M : Mem} {m : Int32} {n : Nat} (e : M 3 0 0 = nI n) (h16 : n ≤ 16) : wh (L_X11_narrow_23 m M) FU ((0 : Int32), (-1 : Int32), (0 : Int32), (0 : Int32)) = some ((nrS M m n).1, (nrS M m n).2.1) := by
  refine wh_for (fun k => ((nrS M m k).1, (nrS M m k).2.1, (nrS M m k).2.2, nI k)) n _ (by omega) ?_ ?_
  · intro k hk
    obtain ⟨l, r, e1, e2, h1, h2⟩ := nrS_i M m k
    unfold L_X11_narrow_23
    simp only []
    rw [e, if_neg (nI_ge hk (by omega)), if_pos (inb_n (by omega) (by decide)), nI_clamp (by omega), nI_1]
    rw [show nrS M m (k + 1) = nrF M m k (nrS M m k) from rfl]
    unfold nrF
    by_cases hc : M 4 0 k < m
    · rw [if_pos hc, if_pos hc, if_pos (by rw [e1]; exact nI_pos' (by omega))]
    · rw [if_neg hc, if_neg hc]
      by_cases hd : (nrS M m k).2.2 + 1 ≤ (nrS M m k).1
      · rw [if_pos hd, if_pos hd]
      · rw [if_neg hd, if_neg hd]
  · unfold L_X11_narrow_23
    simp only []
    rw [e, if_pos (nI_le (Nat.le_refl _) (by omega))]
theorem c_lower {M : Mem} {m : Int32} {n : Nat} (e : M 3 0 0 = nI n) (h16 : n ≤ 16) : f_X1_lowerThan m M = some (bitsN (fun b => decide (M 4 0 b < m)) n) := by
  unfold f_X1_lowerThan
  have key : wh (L_X1_lowerThan_4 m M) FU ((0 : Int32), (0 : Int32)) = some (bitsN (fun b => decide (M 4 0 b < m)) n) := by
    refine wh_for (fun k => (bitsN (fun b => decide (M 4 0 b < m)) k, nI k)) n _ (by omega) ?_ ?_
    · intro k hk
      unfold L_X1_lowerThan_4
      simp only []
      rw [e, if_neg (nI_ge hk (by omega)), if_pos (inb_n (by omega) (by decide)), nI_clamp (by omega), nI_1, bitsN_s]
      by_cases hc : M 4 0 k < m
      · simp [hc, Int32.not_le.mpr hc]
      · simp [hc, Int32.not_lt.mp hc]
    · unfold L_X1_lowerThan_4
      simp only []
      rw [e, if_pos (nI_le (Nat.le_refl _) (by omega))]
  rw [key]; rfl
theorem m_narrow {M : Mem} {m : Int32} {n : Nat} (e : M 58 0 0 = nI n) (h16 : n ≤ 16) (hB : ∀ b, b < n → M 60 (b + 1) 0 = M 4 0 b) : wh (L_X12_narrow_51 m M) FU ((0 : Int32), (0 : Int32), (-1 : Int32), (0 : Int32), (0 : Int32)) = some (bitsN (fun b => decide (M 4 0 b < m)) n, (nrS M m n).1, (nrS M m n).2.1) := by
  refine wh_for (fun k => (bitsN (fun b => decide (M 4 0 b < m)) k, (nrS M m k).1, (nrS M m k).2.1, (nrS M m k).2.2, nI k)) n _ (by omega) ?_ ?_
  · intro k hk
    obtain ⟨l, r, e1, e2, h1, h2⟩ := nrS_i M m k
    unfold L_X12_narrow_51
    simp only []
    rw [e, if_neg (nI_ge hk (by omega)), if_pos (inb_n (by omega) (by decide)), nI_clamp (by omega), nI_1, hB k hk]
    rw [show nrS M m (k + 1) = nrF M m k (nrS M m k) from rfl, bitsN_s]
    unfold nrF
    by_cases hc : M 4 0 k < m
    · rw [if_pos hc, if_neg (by rw [Int32.not_le]; exact hc), if_neg (by rw [e1]; exact nI_pos (by omega)), if_pos (decide_eq_true hc)]
    · rw [if_neg hc, if_pos (Int32.not_lt.mp hc), if_neg (show ¬ decide (M 4 0 k < m) = true by rw [decide_eq_false hc]; decide)]
      by_cases hd : (nrS M m k).2.2 + 1 ≤ (nrS M m k).1
      · rw [if_pos hd, if_neg (Int32.not_lt.mpr hd)]
      · rw [if_neg hd, if_pos (Int32.not_le.mp hd)]
  · unfold L_X12_narrow_51
    simp only []
    rw [e, if_pos (nI_le (Nat.le_refl _) (by omega))]
theorem mastF {x : Int32} {M : Mem} (h : x < 0 ∨ 9 < x) : f_X11_needMast x M = some (.inr IAE, am_u3 M 0 0 14 (M 0 0 14 + 1)) := by
  unfold f_X11_needMast
  rw [fitF h]; rfl
theorem mastT {x : Int32} {M : Mem} (h : ¬ (x < 0 ∨ 9 < x)) : f_X11_needMast x M = some (.inl 0, M) := by
  unfold f_X11_needMast
  rw [fitT h]; rfl
theorem nrS_M0 (M : Mem) (m : Int32) (k : Nat) : nrS (M0 M) m k = nrS M m k := rfl
theorem t_narrow {qc qs : Nat} {x y : Int32} {M : Mem} (h : Rel qc qs M) : ok (f_X11_narrow x y M) (fun r => ok (f_X12_narrow x y r.2) (fun r' => ans1 r.1 r'.1 (r'.2 54 0 0) ∧ Rel qc qs r'.2)) := by
  have hg := R_n16 h
  have em := R_mB h
  unfold f_X11_narrow
  by_cases hx : x < 0 ∨ 9 < x
  · refine ok_bindE (mastF hx) (ok_some ?_)
    unfold f_X12_narrow
    exact ok_ifp ((in_eq _ _ _).mpr hx) (ok_bindE (bad14 M (by decide)) (ok_ifn (by decide) (ok_some ⟨⟨rfl, RM_t 14 1 M⟩, Rel_RM (k := 14) (Or.inr rfl) h⟩)))
  · refine ok_bindE (mastT hx) ?_
    by_cases hy : y < 0 ∨ 2 < y
    · refine ok_bindE (fitF hy) (ok_some ?_)
      unfold f_X12_narrow
      exact ok_ifn (fun z => hx ((in_eq _ _ _).mp z)) (ok_ifp ((in_eq _ _ _).mpr hy) (ok_bindE (bad14 M (by decide)) (ok_ifn (by decide) (ok_some ⟨⟨rfl, RM_t 14 1 M⟩, Rel_RM (k := 14) (Or.inr rfl) h⟩))))
    · refine ok_bindE (fitT hy) (ok_bindE (c_narrow (R_eB h) hg) ?_)
      have model : ∀ v : Int32, v = (if y = 0 then bitsN (fun b => decide (M 4 0 b < x)) (nB M) else if y = 1 then (nrS M x (nB M)).1 else (nrS M x (nB M)).2.1) → ok (f_X12_narrow x y M) (fun r' => ans1 (.inl v) r'.1 (r'.2 54 0 0) ∧ Rel qc qs r'.2) := by
        intro v hv
        unfold f_X12_narrow
        refine ok_ifn (fun z => hx ((in_eq _ _ _).mp z)) (ok_ifn (fun z => hy ((in_eq _ _ _).mp z)) (ok_bindE (badM0 _ _ _) (ok_ifp rfl (ok_bindE (m_narrow (n := nB M) (M := M0 M) em hg (fun b hb => (R_bd h hb).1)) ?_))))
        rw [nrS_M0]
        refine ok_if (fun h0 => ok_some ⟨⟨M0_t M, ?_⟩, Rel_M0 h⟩) (fun h0 => ok_if (fun h1 => ok_some ⟨⟨M0_t M, ?_⟩, Rel_M0 h⟩) (fun h1 => ok_some ⟨⟨M0_t M, ?_⟩, Rel_M0 h⟩))
        · rw [hv, if_pos h0]; rfl
        · rw [hv, if_neg h0, if_pos h1]
        · rw [hv, if_neg h0, if_neg h1]
      refine ok_if (fun h0 => ok_bindE (c_lower (R_eB h) hg) (ok_some (model _ ?_))) (fun h0 => ok_if (fun h1 => ok_some (model _ ?_)) (fun h1 => ok_some (model _ ?_)))
      · rw [if_pos h0]
      · rw [if_neg h0, if_pos h1]
      · rw [if_neg h0, if_neg h1]
/-- the first with the most -/
def mxF (f : Nat → Int32) (k : Nat) (s : Int32 × Int32) : Int32 × Int32 := if f k ≤ s.2 then s else (nI k, f k)
theorem mx_cong {f g : Nat → Int32} {a : Int32 × Int32} {n : Nat} (h : ∀ k, k < n → f k = g k) : itr (mxF f) a n = itr (mxF g) a n := itr_cong (fun k x hk => by unfold mxF; rw [h k hk])
theorem c_worst {M : Mem} {y : Int32} {n o : Nat} (e : M 3 0 0 = nI n) (h16 : n ≤ 16) (hy : (y = 0 ∧ o = 3) ∨ (y ≠ 0 ∧ o = 19)) : wh (L_X11_worst_14 y M) FU ((-1 : Int32), (0 : Int32), (0 : Int32)) = some (itr (mxF (fun k => M 30 0 (o + k))) (-1, 0) n).1 := by
  refine wh_for (fun k => ((itr (mxF (fun k => M 30 0 (o + k))) (-1, 0) k).1, (itr (mxF (fun k => M 30 0 (o + k))) (-1, 0) k).2, nI k)) n _ (by omega) ?_ ?_
  · intro k hk
    unfold L_X11_worst_14 f_X8_finesOf f_X8_knocksAt
    simp only []
    rw [e, if_neg (nI_ge hk (by omega)), ad3, ad19, if_pos (inb_n (show 3 + k < 47 by omega) (by decide)), if_pos (inb_n (show 19 + k < 47 by omega) (by decide)), nI_clamp (show 3 + k < 2 ^ 31 by omega), nI_clamp (show 19 + k < 2 ^ 31 by omega), nI_1, itr_s]
    rcases hy with ⟨h1, rfl⟩ | ⟨h1, rfl⟩
    · rw [if_pos h1]
      simp only [Option.bind]
      rw [mxF]
      split <;> rfl
    · rw [if_neg h1]
      simp only [Option.bind]
      rw [mxF]
      split <;> rfl
  · unfold L_X11_worst_14
    simp only []
    rw [e, if_pos (nI_le (Nat.le_refl _) (by omega))]
theorem m_worst {M : Mem} {y : Int32} {n o : Nat} (e : M 58 0 0 = nI n) (h16 : n ≤ 16) (hy : y = nI o) (ho : o ≤ 32) : wh (L_X12_worst_50 y M) FU ((-1 : Int32), (0 : Int32), (0 : Int32)) = some (itr (mxF (fun k => M 72 0 (o + k))) (-1, 0) n).1 := by
  refine wh_for (fun k => ((itr (mxF (fun k => M 72 0 (o + k))) (-1, 0) k).1, (itr (mxF (fun k => M 72 0 (o + k))) (-1, 0) k).2, nI k)) n _ (by omega) ?_ ?_
  · intro k hk
    unfold L_X12_worst_50
    simp only []
    rw [e, if_neg (nI_ge hk (by omega)), hy, nI_add, if_pos (inb_n (show o + k < 66 by omega) (by decide)), nI_clamp (show o + k < 2 ^ 31 by omega), nI_1, itr_s, mxF]
    by_cases hc : M 72 0 (o + k) ≤ (itr (mxF (fun k => M 72 0 (o + k))) (-1, 0) k).2
    · rw [if_neg (Int32.not_lt.mpr hc), if_pos hc]
    · rw [if_pos (Int32.not_le.mp hc), if_neg hc]
  · unfold L_X12_worst_50
    simp only []
    rw [e, if_pos (nI_le (Nat.le_refl _) (by omega))]
theorem t_worst {qc qs : Nat} {x : Int32} {M : Mem} (h : Rel qc qs M) : ok (f_X11_worst x M) (fun r => ok (f_X12_worst x r.2) (fun r' => ans1 r.1 r'.1 (r'.2 54 0 0) ∧ Rel qc qs r'.2)) := by
  have hg := R_n16 h
  have em := R_mB h
  unfold f_X11_worst
  by_cases hx : x < 0 ∨ 1 < x
  · refine ok_bindE (fitF hx) (ok_some ?_)
    unfold f_X12_worst
    exact ok_ifp ((in_eq _ _ _).mpr hx) (ok_bindE (bad14 M (by decide)) (ok_ifn (by decide) (ok_some ⟨⟨rfl, RM_t 14 1 M⟩, Rel_RM (k := 14) (Or.inr rfl) h⟩)))
  · refine ok_bindE (fitT hx) ?_
    obtain ⟨t1, t2, t3, t4, -⟩ := R_SR h
    by_cases h0 : x = 0
    · refine ok_bindE (c_worst (o := 3) (R_eB h) hg (Or.inl ⟨h0, rfl⟩)) (ok_some ?_)
      unfold f_X12_worst
      refine ok_ifn (fun z => hx ((in_eq _ _ _).mp z)) (ok_bindE (badM0 _ _ _) (ok_ifp rfl (ok_ifp h0 (ok_bindE (m_worst (M := M0 M) (o := 16) em hg rfl (by decide)) (ok_some ⟨⟨M0_t M, ?_⟩, Rel_M0 h⟩)))))
      rw [mx_cong (g := fun k => M0 M 72 0 (16 + k)) (fun k hk => t3.1 k hk)]
    · refine ok_bindE (c_worst (o := 19) (R_eB h) hg (Or.inr ⟨h0, rfl⟩)) (ok_some ?_)
      unfold f_X12_worst
      refine ok_ifn (fun z => hx ((in_eq _ _ _).mp z)) (ok_bindE (badM0 _ _ _) (ok_ifp rfl (ok_ifn h0 (ok_bindE (m_worst (M := M0 M) (o := 32) em hg rfl (by decide)) (ok_some ⟨⟨M0_t M, ?_⟩, Rel_M0 h⟩)))))
      rw [mx_cong (g := fun k => M0 M 72 0 (32 + k)) (fun k hk => t4.1 k hk)]
