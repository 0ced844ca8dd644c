/-! CALLS THAT READ -/
def ans1 (y : Int32 ⊕ String) (v t : Int32) : Prop := match y with
  | .inl x => t = 0 ∧ x = v
  | .inr E => E = IAE ∧ t = 1
def ans2 (y : Int32 ⊕ String) (v t : Int32) : Prop := match y with
  | .inl x => t = 0 ∧ x = v
  | .inr E => (E = NSE ∧ t = 1) ∨ (E = IAE ∧ t = 2)
def ansN (y : Int32 ⊕ String) (v t : Int32) : Prop := match y with
  | .inl x => t = 0 ∧ x = v
  | .inr E => E = NSE ∧ t = 1
/-- both behind a refusal -/
def RM (k : Nat) (w : Int32) (M : Mem) : Mem := am_u3 (am_u3 (am_u3 (am_u3 M 0 0 k (M 0 0 k + 1)) 54 0 0 0) 54 0 0 w) 56 0 (k - 13) (M 56 0 (k - 13) + 1)
theorem Rel_RM {qc qs k : Nat} {w : Int32} {M : Mem} (hk : k = 13 ∨ k = 14) (h : Rel qc qs M) : Rel qc qs (RM k w M) := Rel_r hk h
theorem RM_t (k : Nat) (w : Int32) (M : Mem) : RM k w M 54 0 0 = w := by
  unfold RM
  rw [u3_c (by decide), u3_e]
theorem bad14 {w : Int32} (M : Mem) (hw : w ≠ 0) : f_X12_bad 1 w 1 (am_u3 (am_u3 M 0 0 14 (M 0 0 14 + 1)) 54 0 0 0) = some (1, RM 14 w M) := by
  rw [show (1 : Int32) = nI 1 from rfl, show f_X12_bad (nI 1) w (nI 1) = f_X12_bad 1 w (nI 1) from rfl, bad1 hw (by decide) (u3_e _ _ _ _ _), u3_c (show 56 ≠ 54 by decide), u3_c (show 56 ≠ 0 by decide)]
  rfl
theorem bad13 {w : Int32} (M : Mem) (hw : w ≠ 0) : f_X12_bad 1 w 0 (am_u3 (am_u3 M 0 0 13 (M 0 0 13 + 1)) 54 0 0 0) = some (1, RM 13 w M) := by
  refine (bad1 (k := 0) hw (by decide) (u3_e _ _ _ _ _)).trans ?_
  rw [u3_c (show 56 ≠ 54 by decide), u3_c (show 56 ≠ 0 by decide)]
  rfl
/-- the model's memory as a call begins -/
def M0 (M : Mem) : Mem := am_u3 M 54 0 0 0
theorem M0_t (M : Mem) : M0 M 54 0 0 = 0 := u3_e _ _ _ _ _
theorem M0_c {M : Mem} {c : Nat} (h : c ≠ 54) : M0 M c = M c := u3_c h
theorem mfr_M0 (M : Mem) : mfr M (M0 M) := mfr_54 mfr_rfl (by decide)
theorem badM0 (w r : Int32) (M : Mem) : f_X12_bad 0 w r (M0 M) = some (0, M0 M) := bad0 (M0_t M)
theorem base_M0 {qc : Nat} {M : Mem} (h : base qc M) : base qc (M0 M) := base_a h (asks_m (mfr_M0 M))
/-- both sides have asked -/
theorem Rel_q {qc qs : Nat} {M M1 M2 : Mem} (h : Rel qc qs M) (a : asks M M1) (hc : cch qc M1) (m : mfr M1 M2) : Rel qc qs M2 :=
  Rel_a (Rel_a h a hc) (asks_m m) (cch_m h.1.1 m hc)
theorem asks_ol {M M' : Mem} (h : olk M M') : asks M M' := asks_c (fr_mono h.1 (by decide))
/-- sums -/
theorem sumN_z {f g : Nat → Int32} {n : Nat} (hn : n ≤ 16) (h1 : ∀ j, j < n → f j = g j) (h2 : ∀ j, n ≤ j → j < 16 → f j = 0) : sumN f 16 = sumN g n := by
  have key : ∀ k, n ≤ k → k ≤ 16 → sumN f k = sumN g n := by
    intro k hk
    induction k with
    | zero => intro _; rw [show n = 0 by omega]; rfl
    | succ k ih =>
      intro h16
      by_cases hkn : n = k + 1
      · rw [hkn]; exact sumN_cong (fun j hj => h1 j (by omega))
      · rw [sumN_s, ih (by omega) (by omega), h2 k (by omega) (by omega), add00]
  exact key 16 hn (Nat.le_refl _)
theorem c_sum {q1 : Nat} {M : Mem} {x : Int32} {f : Nat} (hx : x = nI f) (hf : f + 16 ≤ 47) : f_X8_sumOfBoards q1 x M = some (sumN (fun j => M q1 0 (f + j)) 16) := by
  unfold f_X8_sumOfBoards
  have key : wh (L_X8_sumOfBoards_4 q1 x M) FU ((0 : Int32), (0 : Int32)) = some (sumN (fun j => M q1 0 (f + j)) 16) := by
    refine wh_for (fun k => (sumN (fun j => M q1 0 (f + j)) k, nI k)) 16 _ (by decide) ?_ ?_
    · intro k hk
      unfold L_X8_sumOfBoards_4
      simp only []
      rw [if_neg (show ¬ (16 : Int32) ≤ nI k from nI_ge (b := 16) hk (by decide)), hx, nI_add, if_pos (inb_n (by omega) (by decide)), nI_clamp (by omega), nI_1]
      rfl
    · rfl
  rw [key]
  rfl
theorem c_allFines {q1 : Nat} {M : Mem} : f_X8_allFines q1 M = some (sumN (fun j => M q1 0 (3 + j)) 16) := by
  unfold f_X8_allFines
  rw [c_sum (x := 3) (f := 3) rfl (by decide)]
  rfl
theorem c_allKnocks {q1 : Nat} {M : Mem} : f_X8_allKnocks q1 M = some (sumN (fun j => M q1 0 (19 + j)) 16) := by
  unfold f_X8_allKnocks
  rw [c_sum (x := 19) (f := 19) rfl (by decide)]
  rfl
theorem m_sumOf {q1 : Nat} {M : Mem} {x : Int32} {f n : Nat} (hx : x = nI f) (hn : M 58 0 0 = nI n) (h16 : n ≤ 16) (hf : f + 16 ≤ 66) : f_X12_sumOf q1 x M = some (sumN (fun j => M q1 0 (f + j)) n) := by
  unfold f_X12_sumOf
  have key : wh (L_X12_sumOf_5 q1 x M) FU ((0 : Int32), (0 : Int32)) = some (sumN (fun j => M q1 0 (f + j)) n) := by
    refine wh_for (fun k => (sumN (fun j => M q1 0 (f + j)) k, nI k)) n _ (by omega) ?_ ?_
    · intro k hk
      unfold L_X12_sumOf_5
      simp only []
      rw [hn, if_neg (nI_ge hk (by omega)), hx, nI_add, if_pos (inb_n (by omega) (by decide)), nI_clamp (by omega), nI_1]
      rfl
    · unfold L_X12_sumOf_5
      simp only []
      rw [hn, if_pos (nI_le (Nat.le_refl _) (by omega))]
  rw [key]
  rfl
/-- BARGES through -/
def thr (f : Nat → Int32) : Nat → Int32
  | 0 => 0
  | k + 1 => thr f k + (if f k = 2 then 1 else 0)
theorem thr_z {f g : Nat → Int32} {n : Nat} (hn : n ≤ 4) (h1 : ∀ j, j < n → f j = g j) (h2 : ∀ j, n ≤ j → j < 4 → f j = 0) : thr f 4 = thr g n := by
  have key : ∀ k, n ≤ k → k ≤ 4 → thr f k = thr g n := by
    intro k hk
    induction k with
    | zero => intro _; rw [show n = 0 by omega]; rfl
    | succ k ih =>
      intro h16
      by_cases hkn : n = k + 1
      · rw [hkn]
        have : ∀ m, m ≤ n → thr f m = thr g m := by
          intro m
          induction m with
          | zero => intro _; rfl
          | succ m ihm => intro hm; rw [thr, thr, ihm (by omega), h1 m (by omega)]
        rw [← hkn]
        exact this n (Nat.le_refl _)
      · rw [thr, ih (by omega) (by omega), h2 k (by omega) (by omega)]
        exact add00 _
  exact key 4 hn (Nat.le_refl _)
theorem c_through {q1 : Nat} {M : Mem} : f_X8_bargesThrough q1 M = some (thr (fun k => M q1 0 (35 + k)) 4) := by
  unfold f_X8_bargesThrough
  have key : wh (L_X8_bargesThrough_4 q1 M) FU ((0 : Int32), (0 : Int32)) = some (thr (fun k => M q1 0 (35 + k)) 4) := by
    refine wh_for (fun k => (thr (fun k => M q1 0 (35 + k)) k, nI k)) 4 _ (by decide) ?_ ?_
    · intro k hk
      unfold L_X8_bargesThrough_4 f_X8_whereIs
      simp only []
      rw [if_neg (show ¬ (4 : Int32) ≤ nI k from nI_ge (b := 4) hk (by decide)), ad35, if_pos (inb_n (by omega) (by decide)), nI_clamp (by omega), nI_1, thr]
      simp only [Option.bind]
      split <;> rfl
    · rfl
  rw [key]
  rfl
theorem m_through {q1 : Nat} {M : Mem} {g : Nat} (hn : M 58 0 1 = nI g) (hg : g ≤ 4) : f_X12_throughIn q1 M = some (thr (fun k => M q1 0 (53 + k)) g) := by
  unfold f_X12_throughIn
  have key : wh (L_X12_throughIn_4 q1 M) FU ((0 : Int32), (0 : Int32)) = some (thr (fun k => M q1 0 (53 + k)) g) := by
    refine wh_for (fun k => (thr (fun k => M q1 0 (53 + k)) k, nI k)) g _ (by omega) ?_ ?_
    · intro k hk
      unfold L_X12_throughIn_4
      simp only []
      rw [hn, if_neg (nI_ge hk (by omega)), ad53, if_pos (inb_n (by omega) (by decide)), nI_clamp (by omega), nI_1, thr]
      split <;> rfl
    · unfold L_X12_throughIn_4
      simp only []
      rw [hn, if_pos (nI_le (Nat.le_refl _) (by omega))]
  rw [key]
  rfl
