/-! OPENERS: what the class answers -/
theorem wd_b {K b m i : Nat} : (wd K (b + 1) (m % 2 ^ (b + 1))).testBit i = wn K b m.testBit i := by
  unfold wd wn
  rw [Nat.testBit_div_two_pow, Nat.testBit_mul_two_pow, Nat.testBit_mod_two_pow, Nat.add_comm i (b + 1)]
  by_cases h1 : i ≤ K
  · by_cases h2 : K ≤ b + i
    · rw [decide_eq_true h1, decide_eq_true h2, decide_eq_true (show K + 1 ≤ b + 1 + i by omega), decide_eq_true (show b + 1 + i - (K + 1) < b + 1 by omega), show b + 1 + i - (K + 1) = b + i - K by omega]
    · rw [decide_eq_true h1, decide_eq_false h2, decide_eq_false (show ¬ K + 1 ≤ b + 1 + i by omega)]
      rfl
  · rw [decide_eq_false h1, decide_eq_false (show ¬ b + 1 + i - (K + 1) < b + 1 by omega)]
    simp
theorem wd_K {K b m : Nat} : (wd K (b + 1) (m % 2 ^ (b + 1))).testBit K = m.testBit b := by
  rw [wd_b]
  unfold wn
  rw [decide_eq_true (Nat.le_refl K), decide_eq_true (show K ≤ b + K by omega), show b + K - K = b by omega]
  rfl
theorem wd_m {K c m m' : Nat} (h : m ≤ m') : wd K c m ≤ wd K c m' := Nat.div_le_div_right (Nat.mul_le_mul_right _ h)
/-- sets that are right, by the window of BOARD b -/
def aB (K : Nat) (rg : Nat → Nat → Bool) (n b w : Nat) : Nat := cn (fun m => opP K rg n m && decide (wd K (b + 1) (m % 2 ^ (b + 1)) = w)) (2 ^ n)
theorem p16 {n : Nat} (h : n ≤ 16) : 2 ^ n ≤ 65536 := Nat.pow_le_pow_right (n := 2) (by decide) h
theorem c_ways {K n : Nat} {rg : Nat → Nat → Bool} {M M1 : Mem} {b w : Nat} (nw : NW K n rg M M1) (hK : K ≤ 4) (hn : n ≤ 16) (hb : b < n) (hw : w < 2 ^ (K + 1)) : f_X5_waysBy (nI b) (nI w) M1 = some (nI (aB K rg n b w)) := by
  have hW := W32 hK
  unfold f_X5_waysBy
  rw [ixI, if_pos (inb_n (by omega) (by decide)), nI_clamp (by omega), nw.2.2.2.1 b hb w hw, nw.2.2.2.2 b hb w hw, nI_mul, tO_eX, show b + 1 + (n - 1 - b) = n by omega]
  rfl
theorem aB_sum {K n b : Nat} {rg : Nat → Nat → Bool} (G : Nat → Bool) : nsm (fun w => if G w = true then aB K rg n b w else 0) (2 ^ (K + 1)) = cn (fun m => opP K rg n m && G (wd K (b + 1) (m % 2 ^ (b + 1)))) (2 ^ n) :=
  (cn_part (A := opP K rg n) (G := G) (g := fun m => wd K (b + 1) (m % 2 ^ (b + 1))) (W := 2 ^ (K + 1)) (N := 2 ^ n) (fun m _ => wd_lt (Nat.mod_lt _ (Nat.two_pow_pos _)))).symm
def wtB (K : Nat) (rg : Nat → Nat → Bool) (n b : Nat) : Nat := cn (fun m => opP K rg n m && m.testBit b) (2 ^ n)
theorem c_with {K n : Nat} {rg : Nat → Nat → Bool} {M M1 : Mem} {b : Nat} (nw : NW K n rg M M1) (eK : M 3 0 13 = nI K) (hK : K ≤ 4) (hn : n ≤ 16) (hb : b < n) : f_X5_setsWith (nI b) M1 = some (nI (wtB K rg n b)) := by
  have hW := W32 hK
  have eK1 : M1 3 0 13 = nI K := by rw [nw.1 3 (by decide)]; exact eK
  have key : wh (L_X5_setsWith_4 (nI b) M1) FU ((0 : Int32), (0 : Int32)) = some (nI (nsm (fun w => if w.testBit K = true then aB K rg n b w else 0) (2 ^ (K + 1)))) := by
    refine wh_for (fun k => (nI (nsm (fun w => if w.testBit K = true then aB K rg n b w else 0) k), nI k)) (2 ^ (K + 1)) _ (by omega) ?_ ?_
    · intro k hk
      unfold L_X5_setsWith_4
      simp only []
      rw [eK1, W2 K (by omega), if_neg (nI_ge hk (by omega)), isBit_bt _ (by omega), bt_nI _ (by omega), nsm_s, ← nI_add, nI_1]
      cases hc : k.testBit K
      · rw [ifb0]; rfl
      · rw [ifb1, c_ways nw hK hn hb hk]; rfl
    · unfold L_X5_setsWith_4
      simp only []
      rw [eK1, W2 K (by omega), if_pos (nI_le (Nat.le_refl _) (by omega))]
  unfold f_X5_setsWith
  rw [key, aB_sum]
  show some (nI (cn _ _)) = some (nI (cn _ _))
  rw [cn_c (fun m _ => by rw [wd_K])]
theorem c_boardsIn {K n : Nat} {rg : Nat → Nat → Bool} {M M1 : Mem} {c : Nat} (nw : NW K n rg M M1) (eK : M 3 0 13 = nI K) (hK : K ≤ 4) (eN : M 3 0 0 = nI n) (hn : n ≤ 16) (hc : c ≤ 65536) : f_X5_boardsIn (nI c) M1 = some (if cn (opP K rg n) (2 ^ n) = 0 then 0 else bitsN (fun b => decide (wtB K rg n b = c)) n) := by
  have hp := p16 hn
  have eN1 : M1 3 0 0 = nI n := by rw [nw.1 3 (by decide)]; exact eN
  have hC := cn_le (opP K rg n) (2 ^ n)
  have key : wh (L_X5_boardsIn_4 (nI c) M1) FU ((0 : Int32), (0 : Int32)) = some (if cn (opP K rg n) (2 ^ n) = 0 then 0 else bitsN (fun b => decide (wtB K rg n b = c)) n) := by
    by_cases h0 : cn (opP K rg n) (2 ^ n) = 0
    · rw [if_pos h0]
      refine wh_for (fun k => ((0 : Int32), nI k)) 0 _ (by decide) (fun k hk => by omega) ?_
      unfold L_X5_boardsIn_4
      simp only []
      rw [nw.2.2.1, h0]
      by_cases hz : M1 3 0 0 ≤ nI 0
      · rw [if_pos hz]
      · rw [if_neg hz, if_pos (by decide)]
    · rw [if_neg h0]
      refine wh_for (fun k => (bitsN (fun b => decide (wtB K rg n b = c)) k, nI k)) n _ (by omega) ?_ ?_
      · intro k hk
        have hwt : wtB K rg n k ≤ 2 ^ n := cn_le _ _
        unfold L_X5_boardsIn_4
        simp only []
        rw [eN1, if_neg (nI_ge hk (by omega)), nw.2.2.1, if_neg (nI_nle (by omega) (by omega)), c_with nw eK hK hn hk, nI_1]
        simp only [Option.bind]
        by_cases he : wtB K rg n k = c
        · rw [if_pos (by rw [he]), bitsN_st _ _ (decide_eq_true he)]
        · rw [if_neg (fun z => he ((nI_eq (by omega) (by omega)).mp z)), bitsN_sf _ _ (decide_eq_false he)]
      · unfold L_X5_boardsIn_4
        simp only []
        rw [eN1, if_pos (nI_le (Nat.le_refl _) (by omega))]
  unfold f_X5_boardsIn
  rw [key]; rfl
/-- what a window smells, as a number -/
def sN (w : Nat) : Nat := (if w.testBit 0 = true then 1 else 0) + (if w.testBit 1 = true then 2 else 0) + (if w.testBit 2 = true then 3 else 0) + (if w.testBit 3 = true then 4 else 0) + (if w.testBit 4 = true then 5 else 0)
theorem sN_lt (w : Nat) : sN w < 16 := by
  unfold sN
  repeat' split
  all_goals omega
theorem scN_n (w : Nat) : scN (bt (nI w)) = nI (sN w) := by
  unfold scN sN
  rw [sumN_s, sumN_s, sumN_s, sumN_s, sumN_s, bt_nI _ (by decide), bt_nI _ (by decide), bt_nI _ (by decide), bt_nI _ (by decide), bt_nI _ (by decide)]
  cases w.testBit 0 <;> cases w.testBit 1 <;> cases w.testBit 2 <;> cases w.testBit 3 <;> cases w.testBit 4 <;> rfl
def MX (f : Nat → Nat) (v : Int32) : Prop := ∃ u, v = nI u ∧ u ≤ 65536 ∧ (∀ s, s < 16 → f s ≤ u) ∧ (u = 0 ∨ ∃ s, s < 16 ∧ u = f s)
theorem MX_u {f : Nat → Nat} {v v' : Int32} (h : MX f v) (h' : MX f v') : v = v' := by
  obtain ⟨u, e, -, a, b⟩ := h
  obtain ⟨u', e', -, a', b'⟩ := h'
  have : u = u' := by
    have h1 : u ≤ u' := by
      rcases b with b | ⟨s, s1, s2⟩
      · omega
      · rw [s2]; exact a' s s1
    have h2 : u' ≤ u := by
      rcases b' with b | ⟨s, s1, s2⟩
      · omega
      · rw [s2]; exact a s s1
    omega
  rw [e, e', this]
theorem nsm_le {f : Nat → Nat} : ∀ {i j : Nat}, i ≤ j → nsm f i ≤ nsm f j := by
  intro i j h
  induction j with
  | zero => rw [show i = 0 by omega]; exact Nat.le_refl _
  | succ j ih =>
    by_cases e : i = j + 1
    · rw [e]; exact Nat.le_refl _
    · rw [nsm_s]
      have := ih (by omega)
      omega
/-- sets that are right by which BOARD b smells by s -/
def smB (K : Nat) (rg : Nat → Nat → Bool) (n b s : Nat) : Nat := cn (fun m => opP K rg n m && decide (sN (wd K (b + 1) (m % 2 ^ (b + 1))) = s)) (2 ^ n)
theorem c_most {K n : Nat} {rg : Nat → Nat → Bool} {M M1 : Mem} {b : Nat} (nw : NW K n rg M M1) (eK : M 3 0 13 = nI K) (hK : K ≤ 4) (hn : n ≤ 16) (hb : b < n) : ok (f_X5_mostLeftBy (nI b) M1) (fun r => MX (smB K rg n b) r.1 ∧ fr [50] M1 r.2) := by
  have hW := W32 hK
  have hp := p16 hn
  have tot : ∀ s, nsm (fun w => if decide (sN w = s) = true then aB K rg n b w else 0) (2 ^ (K + 1)) = smB K rg n b s := fun s => aB_sum (fun w => decide (sN w = s))
  have bnd : ∀ k, k ≤ 2 ^ (K + 1) → ∀ s, nsm (fun w => if decide (sN w = s) = true then aB K rg n b w else 0) k ≤ 65536 := by
    intro k hk s
    have h1 := nsm_le (f := fun w => if decide (sN w = s) = true then aB K rg n b w else 0) hk
    rw [tot s] at h1
    have h2 : smB K rg n b s ≤ 2 ^ n := cn_le _ _
    omega
  unfold f_X5_mostLeftBy
  refine ok_bind (P := fun r => MX (smB K rg n b) r.1 ∧ fr [50] M1 r.2) ?_ (fun r h => ok_some h)
  refine ok_wh (fun k st => st.2.1 = nI k ∧ fr [50] M1 st.2.2 ∧ (∀ s, s < 16 → st.2.2 50 0 s = nI (nsm (fun w => if decide (sN w = s) = true then aB K rg n b w else 0) k)) ∧ MX (fun s => nsm (fun w => if decide (sN w = s) = true then aB K rg n b w else 0) k) st.1) (2 ^ (K + 1)) (by exact ⟨rfl, fill_c, fun s hs => fill_e hs, 0, rfl, by decide, fun _ _ => Nat.le_refl _, Or.inl rfl⟩) (by omega) ?_ ?_
  · rintro k ⟨x2, y, M2⟩ hk ⟨e1, f1, v1, u, e2, u1, u2, u3⟩
    simp only at e1 f1 v1 e2
    subst e1 e2
    have eK2 : M2 3 0 13 = nI K := by rw [f1 3 (by decide), nw.1 3 (by decide)]; exact eK
    have hs := sN_lt k
    have ew : f_X5_waysBy (nI b) (nI k) M2 = some (nI (aB K rg n b k)) := by
      have e48 := f1 48 (by decide)
      have e49 := f1 49 (by decide)
      have := c_ways nw hK hn hb hk
      unfold f_X5_waysBy at this ⊢
      rw [e48, e49]
      exact this
    have new : ∀ s, nsm (fun w => if decide (sN w = s) = true then aB K rg n b w else 0) (k + 1) = nsm (fun w => if decide (sN w = s) = true then aB K rg n b w else 0) k + (if decide (sN k = s) = true then aB K rg n b k else 0) := fun s => rfl
    have ev : M2 50 0 (sN k) + nI (aB K rg n b k) = nI (nsm (fun w => if decide (sN w = sN k) = true then aB K rg n b w else 0) (k + 1)) := by rw [v1 _ hs, nI_add, new, decide_eq_true rfl]; rfl
    have bn := bnd (k + 1) (by omega) (sN k)
    unfold L_X5_mostLeftBy_12
    simp only [eK2, W2 K (by omega)]
    refine ok_ifn (nI_ge hk (by omega)) (ok_bindE (scent_eq _) ?_)
    rw [scN_n]
    refine ok_ifp (inb_n hs (by decide)) (ok_bindE ew ?_)
    rw [nI_clamp (show sN k < 2 ^ 31 by omega), u3_e, ev]
    refine ok_some ⟨nI_1 k, fr_u3 f1 (by decide), fun s hs2 => ?_, ?_⟩
    · show am_u3 M2 50 0 (sN k) _ 50 0 s = _
      by_cases e : s = sN k
      · rw [e, u3_e]
      · rw [u3_j (by omega), v1 s hs2, new, decide_eq_false (fun z => e z.symm)]; rfl
    · show MX _ (if nI u < nI _ then nI _ else nI u)
      by_cases hlt : u < nsm (fun w => if decide (sN w = sN k) = true then aB K rg n b w else 0) (k + 1)
      · rw [if_pos (nI_lt hlt (by omega))]
        refine ⟨_, rfl, bn, fun s hs2 => ?_, Or.inr ⟨sN k, hs, rfl⟩⟩
        by_cases e : s = sN k
        · rw [e]; exact Nat.le_refl _
        · have := u2 s hs2
          simp only [] at this ⊢
          rw [new s, decide_eq_false (fun z => e z.symm)]
          show _ + 0 ≤ _
          omega
      · rw [if_neg (nI_nlt (by omega) (by omega))]
        have le : ∀ s, s < 16 → nsm (fun w => if decide (sN w = s) = true then aB K rg n b w else 0) (k + 1) ≤ u := by
          intro s hs2
          by_cases e : s = sN k
          · rw [e]; omega
          · have := u2 s hs2
            simp only [] at this
            rw [new s, decide_eq_false (fun z => e z.symm)]
            show _ + 0 ≤ _
            omega
        refine ⟨u, rfl, u1, le, ?_⟩
        rcases u3 with u3 | ⟨s, s1, s2⟩
        · exact Or.inl u3
        · refine Or.inr ⟨s, s1, ?_⟩
          have h1 := le s s1
          simp only [] at s2 ⊢
          rw [new s] at h1 ⊢
          omega
  · rintro ⟨x2, y, M2⟩ ⟨e1, f1, v1, u⟩
    simp only at e1 f1 v1 u
    subst e1
    unfold L_X5_mostLeftBy_12
    simp only [f1 3 (by decide), nw.1 3 (by decide), eK, W2 K (by omega)]
    refine ok_ifp (nI_le (Nat.le_refl _) (by omega)) (ok_some ⟨?_, f1⟩)
    rw [show smB K rg n b = fun s => nsm (fun w => if decide (sN w = s) = true then aB K rg n b w else 0) (2 ^ (K + 1)) by funext s; exact (tot s).symm]
    exact u
theorem exL {p : Nat → Bool} : ∀ {N : Nat}, (∃ m, m < N ∧ p m = true) → ∃ m, m < N ∧ p m = true ∧ ∀ j, j < m → p j = false
  | 0, ⟨m, hm, _⟩ => by cases hm
  | N + 1, ⟨m, hm, hp⟩ => by
    by_cases h : ∃ m, m < N ∧ p m = true
    · obtain ⟨m', h1, h2, h3⟩ := exL h
      exact ⟨m', by omega, h2, h3⟩
    · refine ⟨m, hm, hp, fun j hj => ?_⟩
      cases hj2 : p j
      · rfl
      · exact absurd ⟨j, by omega, hj2⟩ h
/-- the least set's windows: the low bit is 0 where it can be -/
theorem low_0 {K n b ms : Nat} {rg : Nat → Nat → Bool} (hb : b ≤ n) (h1 : ms < 2 ^ n) (h2 : opP K rg n ms = true) (h3 : ∀ j, j < ms → opP K rg n j = false) (ht : 0 < tO K rg b (wd K b (ms % 2 ^ b) - 1)) : ¬ wd K b (ms % 2 ^ b) % 2 = 1 := by
  intro hv
  obtain ⟨m', g1, g2⟩ := cn_pos.mp ht
  rw [Bool.and_eq_true, decide_eq_true_eq] at g2
  obtain ⟨g2, g3⟩ := g2
  have hlt : m' < ms % 2 ^ b := by
    rcases Nat.lt_or_ge m' (ms % 2 ^ b) with z | z
    · exact z
    · have := wd_m (K := K) (c := b) z
      omega
  have hsm : m' + 2 ^ b * (ms / 2 ^ b) < ms := by
    have := Nat.mod_add_div ms (2 ^ b)
    omega
  have m1 : (m' + 2 ^ b * (ms / 2 ^ b)) % 2 ^ b = m' := by rw [Nat.add_mul_mod_self_left, Nat.mod_eq_of_lt g1]
  have m2 : (m' + 2 ^ b * (ms / 2 ^ b)) / 2 ^ b = ms / 2 ^ b := by rw [Nat.add_mul_div_left _ _ (Nat.two_pow_pos b), Nat.div_eq_of_lt g1, Nat.zero_add]
  have hi : ∀ e, wd K (b + e + 1) ((m' + 2 ^ b * (ms / 2 ^ b)) % 2 ^ (b + e + 1)) = wd K (b + e + 1) (ms % 2 ^ (b + e + 1)) := by
    intro e
    have bits : ∀ e, (m' + 2 ^ b * (ms / 2 ^ b)) / 2 ^ (b + e) % 2 = ms / 2 ^ (b + e) % 2 := by
      intro e
      rw [Nat.pow_add, ← Nat.div_div_eq_div_mul, ← Nat.div_div_eq_div_mul, m2]
    induction e with
    | zero =>
      have b0 := bits 0
      rw [Nat.add_zero] at b0
      rw [Nat.add_zero, wd_mod, wd_mod, m1, g3, b0]
      unfold bh
      congr 1
      omega
    | succ e ih =>
      rw [wd_mod, wd_mod (m := ms), show b + (e + 1) = b + e + 1 by omega, ih, show b + e + 1 = b + (e + 1) by omega, bits]
  have hop : opP K rg n (m' + 2 ^ b * (ms / 2 ^ b)) = true := by
    refine opP_iff.mpr (fun c hc => ?_)
    by_cases hcb : c < b
    · have a1 := opP_iff.mp g2 c hcb
      have e1 : (m' + 2 ^ b * (ms / 2 ^ b)) % 2 ^ (c + 1) = m' % 2 ^ (c + 1) := by
        rw [show b = (c + 1) + (b - (c + 1)) by omega, Nat.pow_add, Nat.mul_assoc, Nat.add_mul_mod_self_left]
      rw [e1]; exact a1
    · obtain ⟨e, rfl⟩ := Nat.exists_eq_add_of_le (Nat.not_lt.mp hcb)
      rw [hi e]
      exact opP_iff.mp h2 (b + e) hc
  rw [h3 _ hsm] at hop
  cases hop
theorem tO_ms {K n b ms : Nat} {rg : Nat → Nat → Bool} (hb : b ≤ n) (h2 : opP K rg n ms = true) : 0 < tO K rg b (wd K b (ms % 2 ^ b)) := by
  refine cn_pos.mpr ⟨ms % 2 ^ b, Nat.mod_lt _ (Nat.two_pow_pos b), ?_⟩
  rw [Bool.and_eq_true, decide_eq_true_eq]
  refine ⟨?_, rfl⟩
  rw [opP_c (m' := ms) (by rw [Nat.mod_mod])]
  exact opP_iff.mpr (fun c hc => opP_iff.mp h2 c (by omega))
theorem shI : ∀ K, K < 5 → ∀ w, w < 32 → w < 2 ^ (K + 1) → (nI w <<< ((1 : Int32) &&& 31)) &&& (nI (2 ^ (K + 1)) - 1) = nI (2 * w % 2 ^ (K + 1)) := by decide +kernel
theorem orI : ∀ w, w < 32 → w % 2 = 0 → nI w ||| 1 = nI (w + 1) := by decide +kernel
theorem c_first {K n : Nat} {rg : Nat → Nat → Bool} {M M1 : Mem} (nw : NW K n rg M M1) (eK : M 3 0 13 = nI K) (hK : K ≤ 4) (eN : M 3 0 0 = nI n) (hn : n ≤ 16) : ok (f_X5_firstSet M1) (fun v => v = fsb (opP K rg n) (2 ^ n)) := by
  have hW := W32 hK
  have hpW : 1 ≤ 2 ^ (K + 1) := Nat.one_le_two_pow
  have hp := p16 hn
  have hC := cn_le (opP K rg n) (2 ^ n)
  have eN1 : M1 3 0 0 = nI n := by rw [nw.1 3 (by decide)]; exact eN
  have eK1 : M1 3 0 13 = nI K := by rw [nw.1 3 (by decide)]; exact eK
  unfold f_X5_firstSet
  rw [nw.2.2.1]
  by_cases h0 : cn (opP K rg n) (2 ^ n) = 0
  · refine ok_ifp (by rw [h0]; rfl) (ok_some ?_)
    rw [fsb_no (cn_z.mp h0)]
  · refine ok_ifn (nI_ne0 (by omega) (by omega)) ?_
    obtain ⟨ms, h1, h2, h3⟩ := exL (cn_pos.mp (show 0 < cn (opP K rg n) (2 ^ n) by omega))
    have hwlt := wd_lt (K := K) h1
    have mmod : ms % 2 ^ n = ms := Nat.mod_eq_of_lt h1
    rw [fsb_at h1 (by omega) h3 h2]
    refine ok_bind (P := fun v => v = nI (wd K n ms)) ?_ ?_
    · unfold f_X5_leastWindow
      by_cases hn0 : n = 0
      · refine ok_bind (P := fun e => e = Sum.inr ()) ?_ ?_
        · refine ok_wh (fun k s => s = nI k) 0 rfl (by decide) (fun k s hk => by omega) ?_
          rintro s rfl
          unfold L_X5_leastWindow_2
          simp only [eN1]
          exact ok_ifp (by rw [hn0]; decide) (ok_some rfl)
        · rintro e rfl
          refine ok_some ?_
          subst hn0
          have : ms = 0 := by simpa using h1
          subst this
          unfold wd
          rw [Nat.zero_mul, Nat.zero_div]; rfl
      · refine ok_bind (P := fun e => e = Sum.inl (nI (wd K n ms))) ?_ ?_
        · have atb : ∀ k, aB K rg n (n - 1) k = cn (fun m => opP K rg n m && decide (wd K n m = k)) (2 ^ n) := by
            intro k
            unfold aB
            rw [show n - 1 + 1 = n by omega]
            exact cn_c (fun m hm => by rw [Nat.mod_eq_of_lt hm])
          refine ok_wh (fun k s => s = nI k) (wd K n ms) rfl (by omega) ?_ ?_
          · rintro k s hk rfl
            unfold L_X5_leastWindow_2
            simp only [eN1, eK1, W2 K (by omega)]
            refine ok_ifn (nI_nle (by omega) (by omega)) (ok_ifn (nI_ge (show k < 2 ^ (K + 1) by omega) (by omega)) ?_)
            rw [show nI n - 1 = nI (n - 1) from nI_sub (b := 1) (by omega)]
            refine ok_bindE (c_ways nw hK hn (by omega) (by omega)) ?_
            have : aB K rg n (n - 1) k = 0 := by
              rw [atb, cn_z]
              intro m hm
              cases ho : opP K rg n m
              · rfl
              · have hle : ms ≤ m := by
                  rcases Nat.lt_or_ge m ms with z | z
                  · rw [h3 m z] at ho; cases ho
                  · exact z
                have := wd_m (K := K) (c := n) hle
                rw [decide_eq_false (by omega)]; rfl
            rw [this]
            exact ok_ifp (by decide) (ok_some (nI_1 k))
          · rintro s rfl
            unfold L_X5_leastWindow_2
            simp only [eN1, eK1, W2 K (by omega)]
            refine ok_ifn (nI_nle (by omega) (by omega)) (ok_ifn (nI_ge hwlt (by omega)) ?_)
            rw [show nI n - 1 = nI (n - 1) from nI_sub (b := 1) (by omega)]
            refine ok_bindE (c_ways nw hK hn (by omega) hwlt) ?_
            have pos : 0 < aB K rg n (n - 1) (wd K n ms) := by
              rw [atb]
              exact cn_pos.mpr ⟨ms, h1, by rw [h2, decide_eq_true rfl]; rfl⟩
            have le : aB K rg n (n - 1) (wd K n ms) ≤ 2 ^ n := cn_le _ _
            exact ok_ifn (nI_nle pos (by omega)) (ok_some rfl)
        · rintro e rfl
          exact ok_some rfl
    · rintro v rfl
      rw [eN1]
      refine ok_bind (P := fun v => v = nI ms) ?_ (fun v h => ok_some h)
      refine ok_wh (fun k st => st = (nI (ms / 2 ^ (n - k) * 2 ^ (n - k)), nI (wd K (n - k) (ms % 2 ^ (n - k))), nI (n - k) - 1)) n (by rw [Nat.sub_zero, mmod, Nat.div_eq_of_lt h1, Nat.zero_mul]; rfl) (by omega) ?_ ?_
      · rintro k st hk rfl
        obtain ⟨b, eb⟩ : ∃ b, n - k = b + 1 := ⟨n - k - 1, by omega⟩
        have hbn : b < n := by omega
        rw [show n - (k + 1) = b by omega, eb, nI_pred]
        have hwl := wd_lt (K := K) (Nat.mod_lt ms (Nat.two_pow_pos (b + 1)))
        have hvl := wd_lt (K := K) (Nat.mod_lt ms (Nat.two_pow_pos b))
        have ebits : nI (ms / 2 ^ (b + 1) * 2 ^ (b + 1)) ||| (((nI (wd K (b + 1) (ms % 2 ^ (b + 1))) >>> (nI K &&& 31)) &&& 1) <<< (nI b &&& 31)) = nI (ms / 2 ^ b * 2 ^ b) := by
          rw [bit1_bt _ (by omega), bt_nI _ (by omega), wd_K]
          apply b_ext
          intro i hi
          rw [b_or, bt_nI _ hi, bt_nI _ hi, Nat.testBit_mul_two_pow, Nat.testBit_mul_two_pow, Nat.testBit_div_two_pow, Nat.testBit_div_two_pow]
          rcases Nat.lt_trichotomy i b with z | z | z
          · rw [decide_eq_false (show ¬ b + 1 ≤ i by omega), decide_eq_false (show ¬ b ≤ i by omega), b_shl b (by omega) _ hi, decide_eq_false (show ¬ b ≤ i by omega)]
            rfl
          · subst z
            rw [decide_eq_false (show ¬ i + 1 ≤ i by omega), decide_eq_true (Nat.le_refl i), b_shl i (by omega) _ hi, decide_eq_true (Nat.le_refl i), Nat.sub_self, Nat.zero_add, Bool.false_and, Bool.false_or, Bool.true_and, Bool.true_and]
            cases ms.testBit i <;> rfl
          · rw [decide_eq_true (show b + 1 ≤ i by omega), decide_eq_true (show b ≤ i by omega), b_shl b (by omega) _ hi, decide_eq_true (show b ≤ i by omega), show i - (b + 1) + (b + 1) = i by omega, show i - b + b = i by omega, Bool.true_and, Bool.true_and]
            have : bt (if ms.testBit b = true then (1 : Int32) else 0) (i - b) = false := by
              split
              · rw [b_1, decide_eq_false (by omega)]
              · rw [b_0]
            rw [this, Bool.or_false]
        have ew0 : 2 * wd K (b + 1) (ms % 2 ^ (b + 1)) % 2 ^ (K + 1) = wd K b (ms % 2 ^ b) - wd K b (ms % 2 ^ b) % 2 := by
          rw [wd_mod]
          unfold bh
          rw [Nat.mul_add, ← Nat.mul_assoc, Nat.mul_comm 2 (ms / 2 ^ b % 2), Nat.mul_assoc, Nat.mul_comm 2 (2 ^ K), ← Nat.pow_succ, Nat.add_mul_mod_self_right, Nat.mod_eq_of_lt (by omega)]
          omega
        unfold L_X5_firstSet_26
        simp only [eK1, W2 K (by omega)]
        rw [shI K (by omega) _ (by omega) hwl, ew0, ebits]
        refine ok_ifn (nI_pos (by omega)) ?_
        by_cases hb0 : b = 0
        · subst hb0
          refine ok_ifp (by decide) (ok_some ?_)
          have : wd K 0 (ms % 2 ^ 0) = 0 := by
            unfold wd
            rw [Nat.pow_zero, Nat.mod_one, Nat.zero_mul, Nat.zero_div]
          rw [this]; rfl
        · refine ok_ifn (nI_nle (by omega) (by omega)) ?_
          rw [show nI b - 1 = nI (b - 1) from nI_sub (b := 1) (by omega), ixI, nI_clamp (show 32 * (b - 1) + (wd K b (ms % 2 ^ b) - wd K b (ms % 2 ^ b) % 2) < 2 ^ 31 by omega)]
          refine ok_ifp (inb_n (by omega) (by decide)) ?_
          rw [nw.2.2.2.1 (b - 1) (by omega) _ (by omega), show b - 1 + 1 = b by omega]
          have tle : ∀ v, tO K rg b v ≤ 65536 := by
            intro v
            have q1 : tO K rg b v ≤ 2 ^ b := cn_le _ _
            have q2 := p16 (show b ≤ 16 by omega)
            omega
          have tpos := tO_ms (b := b) (by omega) h2
          have h01 : wd K b (ms % 2 ^ b) % 2 = 0 ∨ wd K b (ms % 2 ^ b) % 2 = 1 := by omega
          rcases h01 with hv | hv
          · rw [hv, Nat.sub_zero]
            refine ok_ifn (nI_ne0 tpos (by have := tle (wd K b (ms % 2 ^ b)); omega)) (ok_some rfl)
          · rw [hv]
            have tz : tO K rg b (wd K b (ms % 2 ^ b) - 1) = 0 := by
              rcases Nat.eq_zero_or_pos (tO K rg b (wd K b (ms % 2 ^ b) - 1)) with z | z
              · exact z
              · exact absurd hv (low_0 (by omega) h1 h2 h3 z)
            refine ok_ifp (by rw [tz]; rfl) (ok_some ?_)
            rw [orI _ (by omega) (by omega), show wd K b (ms % 2 ^ b) - 1 + 1 = wd K b (ms % 2 ^ b) by omega]
            rfl
      · rintro st rfl
        rw [Nat.sub_self]
        unfold L_X5_firstSet_26
        refine ok_ifp (by decide) (ok_some ?_)
        rw [Nat.pow_zero, Nat.div_one, Nat.mul_one]
        rfl
