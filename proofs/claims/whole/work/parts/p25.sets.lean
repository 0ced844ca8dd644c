/-! SETS OF BOARDS, SMELLS, ROWS -/
theorem ifb0 {α : Type} (A B : α) : (if (if false = true then (1 : Int32) else 0) = 0 then A else B) = A := rfl
theorem ifb1 {α : Type} (A B : α) : (if (if true = true then (1 : Int32) else 0) = 0 then A else B) = B := rfl
theorem iff0 {α : Type} (A B : α) : (if false = true then A else B) = B := rfl
theorem iff1 {α : Type} (A B : α) : (if true = true then A else B) = A := rfl
theorem shl1 : ∀ n, n < 17 → ((1 : Int32) <<< (nI n &&& 31)) - 1 = nI (2 ^ n - 1) := by decide +kernel
theorem nbF {x n : Int32} {M : Mem} (h : x < 0 ∨ ((1 : Int32) <<< (n &&& 31)) - 1 < x) : f_X11_needBits x n M = some (.inr IAE, am_u3 M 0 0 14 (M 0 0 14 + 1)) := by
  unfold f_X11_needBits
  rw [fitF h]; rfl
theorem nbT {x n : Int32} {M : Mem} (h : ¬ (x < 0 ∨ ((1 : Int32) <<< (n &&& 31)) - 1 < x)) : f_X11_needBits x n M = some (.inl 0, M) := by
  unfold f_X11_needBits
  rw [fitT h]; rfl
theorem pow_pos' (n : Nat) : 1 ≤ 2 ^ n := Nat.one_le_two_pow
theorem bits_arg {x : Int32} {n : Nat} (hn : n ≤ 16) (h : ¬ (x < 0 ∨ ((1 : Int32) <<< (nI n &&& 31)) - 1 < x)) : ∃ m, x = nI m ∧ m < 2 ^ n := by
  rw [shl1 n (by omega)] at h
  have hp : 2 ^ n ≤ 2 ^ 16 := Nat.pow_le_pow_right (by decide) hn
  obtain ⟨m, e, hm⟩ := args (n := 2 ^ n - 1) rfl (by omega) h
  exact ⟨m, e, by have := pow_pos' n; omega⟩
theorem t_holds {qc qs : Nat} {x : Int32} {M : Mem} (h : Rel qc qs M) : ok (f_X11_holds x M) (fun r => ok (f_X12_holds x r.2) (fun r' => ans1 r.1 r'.1 (r'.2 54 0 0) ∧ Rel qc qs r'.2)) := by
  have h8 := R_s8 h
  have em := R_mB h
  unfold f_X11_holds
  rw [R_eB h]
  by_cases hx : x < 0 ∨ ((1 : Int32) <<< (nI (nB M) &&& 31)) - 1 < x
  · refine ok_bindE (nbF hx) (ok_some ?_)
    unfold f_X12_holds
    exact ok_ifp ((in_eq _ _ _).mpr (by rw [show (am_u3 (Sum.inr (α := Int32) IAE, am_u3 M 0 0 14 (M 0 0 14 + 1)).2 54 0 0 0) 58 0 0 = nI (nB M) from em]; exact hx)) (ok_bindE (bad14 M (by decide)) (ok_ifn (by decide) (ok_some ⟨⟨rfl, RM_t 14 1 M⟩, Rel_RM (k := 14) (Or.inr rfl) h⟩)))
  · refine ok_bindE (nbT hx) ?_
    have key : wh (L_X11_holds_16 x M) FU ((0 : Int32), (0 : Int32)) = some (bitsN (hol M x) (nS M)) := by
      refine wh_for (fun k => (bitsN (hol M x) k, nI k)) (nS M) _ (by omega) ?_ ?_
      · intro k hk
        unfold L_X11_holds_16
        simp only []
        rw [R_eS h, if_neg (nI_ge hk (by omega)), c_drained h hk]
        simp only [Option.bind]
        cases hh : hol M x k
        · rw [ifb0, bitsN_sf _ _ hh, nI_1]
        · rw [ifb1, bitsN_st _ _ hh, nI_1]
      · unfold L_X11_holds_16
        simp only []
        rw [R_eS h, if_pos (nI_le (Nat.le_refl _) (by omega))]
    refine ok_bindE key (ok_some ?_)
    show ok (f_X12_holds x M) _
    have h0 := Rel_M0 h
    have emS : M0 M 58 0 2 = nI (nS M) := by
      have := R_mS h
      exact this
    have key2 : wh (L_X12_holds_33 x (M0 M)) FU ((0 : Int32), (0 : Int32)) = some (bitsN (hol M x) (nS M)) := by
      refine wh_for (fun k => (bitsN (hol M x) k, nI k)) (nS M) _ (by omega) ?_ ?_
      · intro k hk
        unfold L_X12_holds_33
        simp only []
        rw [emS, if_neg (nI_ge hk (by omega)), m_holding h0 hk]
        simp only [Option.bind]
        rw [hol_a (asks_m (mfr_M0 M))]
        cases hh : hol M x k
        · rw [ifb0, bitsN_sf _ _ hh, nI_1]
        · rw [ifb1, bitsN_st _ _ hh, nI_1]
      · unfold L_X12_holds_33
        simp only []
        rw [emS, if_pos (nI_le (Nat.le_refl _) (by omega))]
    unfold f_X12_holds
    exact ok_ifn (fun z => hx (by have z' := (in_eq _ _ _).mp z; rw [show (am_u3 M 54 0 0 0) 58 0 0 = nI (nB M) from em] at z'; exact z')) (ok_bindE (badM0 _ _ _) (ok_ifp rfl (ok_bindE key2 (ok_some ⟨⟨M0_t M, rfl⟩, h0⟩))))
/-- what a window smells -/
def scN (f : Nat → Bool) : Int32 := sumN (fun i => if f i = true then nI (i + 1) else 0) 5
theorem scent_eq (w : Int32) : f_X5_scentOf w = some (scN (bt w)) := by
  unfold f_X5_scentOf scN
  have key : wh (L_X5_scentOf_4 w) FU ((0 : Int32), (0 : Int32)) = some (sumN (fun i => if bt w i = true then nI (i + 1) else 0) 5) := by
    refine wh_for (fun k => (sumN (fun i => if bt w i = true then nI (i + 1) else 0) k, nI k)) 5 _ (by decide) ?_ ?_
    · intro k hk
      unfold L_X5_scentOf_4
      simp only []
      rw [if_neg (show ¬ (4 : Int32) < nI k from nI_nlt (a := 4) (by omega) (by decide)), isBit_bt w (by omega), sumN_s]
      cases bt w k
      · rw [ifb0, iff0, nI_1]
      · rw [ifb1, iff1, nI_1]
    · rfl
  rw [key]; rfl
theorem sumN_add (f : Nat → Int32) (a : Nat) : ∀ n, sumN f (a + n) = sumN f a + sumN (fun i => f (a + i)) n
  | 0 => (add00 _).symm
  | n + 1 => by rw [← Nat.add_assoc, sumN_s, sumN_add f a n, sumN_s, Int32.add_assoc]
theorem sumN_0 {f : Nat → Int32} : ∀ {n : Nat}, (∀ k, k < n → f k = 0) → sumN f n = 0
  | 0, _ => rfl
  | n + 1, h => by rw [sumN_s, sumN_0 (fun k hk => h k (by omega)), h n (by omega)]; rfl
/-- the window of BOARD b: the K BOARDS ahead and itself -/
def wn (K b : Nat) (f : Nat → Bool) (i : Nat) : Bool := decide (i ≤ K) && (decide (K ≤ b + i) && f (b + i - K))
theorem wn_sum {K b : Nat} (hK : K ≤ 4) (f : Nat → Bool) : scN (wn K b f) = sumN (fun k => if f (b - K + k) = true then nI (K + 1 + (b - K + k) - b) else 0) (b + 1 - (b - K)) := by
  unfold scN
  rcases Nat.lt_or_ge b K with hb | hb
  · rw [show 5 = (K - b) + ((b + 1) + (4 - K)) by omega, sumN_add, sumN_add, sumN_0 (f := fun i => if wn K b f i = true then nI (i + 1) else 0) (n := K - b), sumN_0 (n := 4 - K), Int32.zero_add, add00, show b + 1 - (b - K) = b + 1 by omega]
    · refine sumN_cong (fun k hk => ?_)
      unfold wn
      rw [decide_eq_true (show K - b + k ≤ K by omega), decide_eq_true (show K ≤ b + (K - b + k) by omega), Bool.true_and, Bool.true_and, show b + (K - b + k) - K = b - K + k by omega, show K - b + k + 1 = K + 1 + (b - K + k) - b by omega]
    · intro k hk
      unfold wn
      rw [decide_eq_false (show ¬ K - b + (b + 1 + k) ≤ K by omega)]
      rfl
    · intro k hk
      unfold wn
      rw [decide_eq_false (show ¬ K ≤ b + k by omega), Bool.false_and, Bool.and_false]
      rfl
  · rw [show 5 = (K + 1) + (4 - K) by omega, sumN_add, sumN_0 (n := 4 - K), add00, show b + 1 - (b - K) = K + 1 by omega]
    · refine sumN_cong (fun k hk => ?_)
      unfold wn
      rw [decide_eq_true (show k ≤ K by omega), decide_eq_true (show K ≤ b + k by omega), Bool.true_and, Bool.true_and, show b + k - K = b - K + k by omega, show k + 1 = K + 1 + (b - K + k) - b by omega]
    · intro k hk
      unfold wn
      rw [decide_eq_false (show ¬ K + 1 + k ≤ K by omega)]
      rfl
theorem msk : ∀ K, K < 5 → ∀ i, i < 32 → bt (((2 : Int32) <<< (nI K &&& 31)) - 1) i = decide (i ≤ K) := by decide +kernel
theorem c_smellAt {M : Mem} {K b : Nat} {x : Int32} (eK : M 3 0 13 = nI K) (hK : K ≤ 4) (hb : b < 16) : f_X5_smellAt (nI b) x M = some (scN (wn K b (bt x))) := by
  unfold f_X5_smellAt
  rw [eK]
  have cong : ∀ w : Int32, (∀ i, i < 5 → bt w i = wn K b (bt x) i) → scN (bt w) = scN (wn K b (bt x)) := by
    intro w hw
    unfold scN
    exact sumN_cong (fun k hk => by rw [hw k hk])
  rcases Nat.lt_or_ge b K with h | h
  · have e1 : -(nI b - nI K) = nI (K - b) := by rw [← nI_sub (by omega : b ≤ K)]; grind
    have e2 : ¬ (0 : Int32) ≤ nI b - nI K := by
      intro z
      have z1 : nI K - nI b = nI (K - b) := nI_sub (by omega)
      have z2 : nI b - nI K = - nI (K - b) := by rw [← z1]; grind
      rw [z2] at z
      have : ∀ d, d < 5 → 0 < d → ¬ (0 : Int32) ≤ - nI d := by decide +kernel
      exact this (K - b) (by omega) (by omega) z
    rw [if_neg e2, e1, scent_eq]
    simp only [Option.bind]
    rw [cong]
    intro i hi
    unfold wn
    rw [b_and, msk K (by omega) i (by omega), b_shl (K - b) (by omega) x (by omega), Bool.and_comm]
    by_cases h1 : i ≤ K
    · by_cases h2 : K ≤ b + i
      · rw [decide_eq_true (show K - b ≤ i by omega), decide_eq_true h2, show i - (K - b) = b + i - K by omega]
      · rw [decide_eq_false (show ¬ K - b ≤ i by omega), decide_eq_false h2]
        simp
    · rw [decide_eq_false h1]; simp
  · rw [nI_sub h, if_pos (nI_pos' (by omega)), scent_eq]
    simp only [Option.bind]
    rw [cong]
    intro i hi
    unfold wn
    rw [b_and, msk K (by omega) i (by omega), b_sshr (b - K) (by omega) x (by omega), Bool.and_comm, if_pos (by omega), decide_eq_true (show K ≤ b + i by omega), show b - K + i = b + i - K by omega, Bool.true_and]
theorem m_smellAt {M : Mem} {K b : Nat} {x : Int32} (eK : M 58 0 4 = nI K) (hK : K ≤ 4) (hb : b < 16) : f_X12_smellAt (nI b) x M = some (scN (wn K b (bt x))) := by
  unfold f_X12_smellAt
  have e0 : f_X12_more 0 (nI b - M 58 0 4) = nI (b - K) := by
    rw [eK]
    unfold f_X12_more
    have : ∀ b, b < 16 → ∀ K, K < 5 → (if 0 ≤ nI b - nI K then nI b - nI K else (0 : Int32)) = nI (b - K) := by decide +kernel
    exact this b hb K (by omega)
  rw [e0, wn_sum hK]
  have key : wh (L_X12_smellAt_16 (nI b) x M) FU ((0 : Int32), nI (b - K)) = some (sumN (fun k => if bt x (b - K + k) = true then nI (K + 1 + (b - K + k) - b) else 0) (b + 1 - (b - K))) := by
    refine wh_for (fun k => (sumN (fun k => if bt x (b - K + k) = true then nI (K + 1 + (b - K + k) - b) else 0) k, nI (b - K + k))) (b + 1 - (b - K)) _ (by omega) ?_ ?_
    · intro k hk
      unfold L_X12_smellAt_16
      simp only []
      rw [if_neg (nI_nlt (by omega) (by omega)), has_bt x (by omega), sumN_s, eK]
      have e1 : nI K + 1 - nI b + nI (b - K + k) = nI (K + 1 + (b - K + k) - b) := by
        rw [← nI_sub (by omega : b ≤ K + 1 + (b - K + k)), show nI (K + 1 + (b - K + k)) = nI K + 1 + nI (b - K + k) by rw [nI_1, nI_add]]
        generalize nI (b - K + k) = y1
        generalize nI K = y2
        generalize nI b = y3
        clear e0 eK
        grind
      rw [e1]
      cases bt x (b - K + k)
      · rw [ifb0, iff0, nI_1, Nat.add_assoc]
      · rw [ifb1, iff1, nI_1, Nat.add_assoc (b - K) k 1]
    · unfold L_X12_smellAt_16
      simp only []
      rw [if_pos (nI_lt (by omega) (by omega))]
  rw [key]; rfl
theorem t_smells {qc qs : Nat} {x y : Int32} {M : Mem} (h : Rel qc qs M) : ok (f_X11_smells x y M) (fun r => ok (f_X12_smells x y r.2) (fun r' => ans2 r.1 r'.1 (r'.2 54 0 0) ∧ Rel qc qs r'.2)) := by
  have hg := R_n16 h
  have em := R_mB h
  unfold f_X11_smells
  by_cases hx : x < 0 ∨ M 3 0 0 ≤ x
  · refine ok_bindE (bdF hx) (ok_some ?_)
    rw [R_eB h] at hx
    unfold f_X12_smells
    exact ok_ifp (inF em (by omega) hx) (ok_bindE (bad13 M (by decide)) (ok_ifn (by decide) (ok_some ⟨Or.inl ⟨rfl, RM_t 13 1 M⟩, Rel_RM (k := 13) (Or.inl rfl) h⟩)))
  · refine ok_bindE (bdT hx) ?_
    rw [R_eB h] at hx
    obtain ⟨k, rfl, hk⟩ := there_arg (by omega) hx
    show ok (Option.bind (f_X11_needBits y (M 3 0 0) M) _) _
    rw [R_eB h]
    by_cases hy : y < 0 ∨ ((1 : Int32) <<< (nI (nB M) &&& 31)) - 1 < y
    · refine ok_bindE (nbF hy) (ok_some ?_)
      unfold f_X12_smells
      exact ok_ifn (inT em (by omega) hk) (ok_bindE (badM0 _ _ _) (ok_ifp rfl (ok_ifp ((in_eq _ _ _).mpr (by rw [show (M0 (Sum.inr (α := Int32) IAE, am_u3 M 0 0 14 (M 0 0 14 + 1)).2) 58 0 0 = nI (nB M) from em]; exact hy)) (ok_bindE (bad14 M (by decide)) (ok_ifn (by decide) (ok_some ⟨Or.inr ⟨rfl, RM_t 14 2 M⟩, Rel_RM (k := 14) (Or.inr rfl) h⟩))))))
    · refine ok_bindE (nbT hy) (ok_bindE (c_smellAt (R_eK h) (R_k4 h) (by omega)) (ok_some ?_))
      show ok (f_X12_smells (nI k) y M) _
      have emK : M0 M 58 0 4 = nI (kS M) := by
        have := R_mK h
        exact this
      unfold f_X12_smells
      exact ok_ifn (inT em (by omega) hk) (ok_bindE (badM0 _ _ _) (ok_ifp rfl (ok_ifn (fun z => hy (by have z' := (in_eq _ _ _).mp z; rw [show M0 M 58 0 0 = nI (nB M) from em] at z'; exact z')) (ok_bindE (badM0 _ _ _) (ok_ifp rfl (ok_bindE (m_smellAt (K := kS M) emK (R_k4 h) (by omega)) (ok_some ⟨⟨M0_t M, rfl⟩, Rel_M0 h⟩)))))))
