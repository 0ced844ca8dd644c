/-! walk, reach: the model's rounds -/
theorem trd_b (fm : Nat → Bool) (a m b : Nat) : trd fm a m b b = if tw fm a b ≠ 0 ∧ tw fm a b ≤ m then nI (tw fm a b) else -1 := by
  unfold trd
  rw [if_neg (show ¬ b < b by omega)]
theorem trd_b1 (fm : Nat → Bool) (a m b : Nat) : trd fm a m (b + 1) b = if tw fm a b ≠ 0 ∧ tw fm a b ≤ m + 1 then nI (tw fm a b) else -1 := by
  unfold trd
  rw [if_pos (show b < b + 1 by omega)]
theorem trd_o {fm : Nat → Bool} {a m b x : Nat} (h : x ≠ b) : trd fm a m (b + 1) x = trd fm a m b x := by
  unfold trd
  by_cases hlt : x < b
  · rw [if_pos hlt, if_pos (show x < b + 1 by omega)]
  · rw [if_neg hlt, if_neg (show ¬ x < b + 1 by omega)]
theorem trd_n {fm : Nat → Bool} {a m n x : Nat} (h : x < n) : trd fm a m n x = trd fm a (m + 1) 0 x := by
  unfold trd
  rw [if_pos h, if_neg (show ¬ x < 0 by omega)]
theorem m_rnd {fm : Nat → Bool} {M : Mem} {x2 v1 : Int32} {a m n : Nat} (eN : M 58 0 0 = nI n) (hn : n ≤ 16) (ha : a < n) (hm : 1 ≤ m) (hm2 : m ≤ 16) (hfm : ∀ b, b < n → fm b = (!(bt v1 b) && decide (x2 ≤ M 60 (b + 1) 1))) (hv : ∀ x, x < n → M 81 0 x = trd fm a m 0 x) : ok (wh (L_X12_walks_78 x2 v1 (nI m)) FU ((0 : Int32), M)) (fun M' => fr [81] M M' ∧ ∀ x, x < n → M' 81 0 x = trd fm a (m + 1) 0 x) := by
  refine ok_wh (fun k s => s.1 = nI k ∧ fr [81] M s.2 ∧ ∀ x, x < n → s.2 81 0 x = trd fm a m k x) n ⟨rfl, fr_rfl, hv⟩ (by omega) ?_ ?_
  · rintro k ⟨y, M1⟩ hk ⟨e1, f1, v⟩
    simp only at e1 f1 v
    subst e1
    have st : (M1 81 0 k ≠ -1 ∨ fm k = false) → ∀ x, x < n → M1 81 0 x = trd fm a m (k + 1) x := by
      intro hc x hx
      rw [v x hx]
      by_cases hxk : x = k
      · subst hxk
        rw [trd_b, trd_b1]
        rcases hc with hc | hc
        · rw [v x hx, trd_b] at hc
          by_cases h0 : tw fm a x ≠ 0 ∧ tw fm a x ≤ m
          · rw [if_pos h0, if_pos ⟨h0.1, by omega⟩]
          · rw [if_neg h0] at hc
            exact absurd rfl hc
        · have h0 : tw fm a x = 0 := by
            by_cases hz : tw fm a x = 0
            · exact hz
            · have := tw_fm hz
              rw [hc] at this
              cases this
          rw [if_neg (fun z => z.1 h0), if_neg (fun z => z.1 h0)]
      · rw [trd_o hxk]
    unfold L_X12_walks_78
    simp only [f1 58 (by decide), f1 60 (by decide), eN, nI_clamp (show k < 2 ^ 31 by omega)]
    refine ok_ifn (nI_ge hk (by omega)) (ok_ifp (inb_n (by omega) (by decide)) ?_)
    by_cases h1 : M1 81 0 k = -1
    · refine ok_ifp h1 ?_
      cases hb : bt v1 k
      · refine ok_ifp ((has0 _ (by omega)).mpr hb) ?_
        by_cases h2 : x2 ≤ M 60 (k + 1) 1
        · refine ok_ifp h2 (ok_bind (m_round (fm := fm) (a := a) (by rw [f1 58 (by decide)]; exact eN) hn ha hk hm hm2 (by rw [hfm k hk, hb, decide_eq_true h2]; rfl) v h1) ?_)
          rintro M2 ⟨f2, v2⟩
          exact ok_some ⟨nI_1 k, fr_tr f1 f2, v2⟩
        · exact ok_ifn h2 (ok_some ⟨nI_1 k, f1, st (Or.inr (by rw [hfm k hk, decide_eq_false h2, Bool.and_false]))⟩)
      · exact ok_ifn (fun z => by rw [(has0 _ (by omega)).mp z] at hb; cases hb) (ok_some ⟨nI_1 k, f1, st (Or.inr (by rw [hfm k hk, hb]; rfl))⟩)
    · exact ok_ifn h1 (ok_some ⟨nI_1 k, f1, st (Or.inl h1)⟩)
  · rintro ⟨y, M1⟩ ⟨e1, f1, v⟩
    simp only at e1 f1 v
    subst e1
    unfold L_X12_walks_78
    simp only [f1 58 (by decide), eN]
    exact ok_ifp (nI_le (Nat.le_refl _) (by omega)) (ok_some ⟨f1, fun x hx => by rw [v x hx, trd_n hx]⟩)
theorem m_rnds {fm : Nat → Bool} {M : Mem} {x2 v1 : Int32} {a n : Nat} (eN : M 58 0 0 = nI n) (hn : n ≤ 16) (ha : a < n) (hfm : ∀ b, b < n → fm b = (!(bt v1 b) && decide (x2 ≤ M 60 (b + 1) 1))) (hv : ∀ x, x < n → M 81 0 x = trd fm a 1 0 x) : ok (wh (L_X12_walks_64 x2 v1) FU ((1 : Int32), M)) (fun M' => fr [81] M M' ∧ ∀ x, x < n → M' 81 0 x = enc (tw fm a x)) := by
  refine ok_wh (fun k s => s.1 = nI (k + 1) ∧ fr [81] M s.2 ∧ ∀ x, x < n → s.2 81 0 x = trd fm a (k + 1) 0 x) n ⟨rfl, fr_rfl, hv⟩ (by omega) ?_ ?_
  · rintro k ⟨y, M1⟩ hk ⟨e1, f1, v⟩
    simp only at e1 f1 v
    subst e1
    unfold L_X12_walks_64
    simp only [f1 58 (by decide), eN]
    refine ok_ifn (nI_nlt (show k + 1 ≤ n by omega) (by omega)) (ok_bind (m_rnd (fm := fm) (n := n) (a := a) (by rw [f1 58 (by decide)]; exact eN) hn ha (by omega) (by omega) (by rw [f1 60 (by decide)]; exact hfm) v) ?_)
    rintro M2 ⟨f2, v2⟩
    exact ok_some ⟨nI_1 _, fr_tr f1 f2, v2⟩
  · rintro ⟨y, M1⟩ ⟨e1, f1, v⟩
    simp only at e1 f1 v
    subst e1
    unfold L_X12_walks_64
    simp only [f1 58 (by decide), eN]
    refine ok_ifp (nI_lt (by omega) (by omega)) (ok_some ⟨f1, fun x hx => ?_⟩)
    rw [v x hx]
    have hb := tw_bound fm ha hx
    unfold trd enc
    rw [if_neg (show ¬ x < 0 by omega)]
    by_cases h0 : tw fm a x = 0
    · rw [if_pos h0, if_neg (fun z => z.1 h0)]
    · rw [if_neg h0, if_pos ⟨h0, by omega⟩]
theorem m_walks {qc qs : Nat} {M : Mem} {a w : Nat} (h : Rel qc qs M) (ha : a < nB M) : ok (f_X12_walks (nI a) (nI w) M) (fun M' => fr [69, 70, 81] M M' ∧ ∀ x, x < nB M → M' 81 0 x = enc (tw (bt (frm qc M (nI w))) a x)) := by
  have hn := R_n16 h
  unfold f_X12_walks
  refine ok_bind (m_openNow h) ?_
  rintro ⟨v1, M1⟩ ⟨e1, f1⟩
  simp only at e1 f1
  refine ok_bind (P := fun M' => fr [81] M1 M' ∧ ∀ x, x < 16 → M' 81 0 x = -1) ?_ ?_
  · refine ok_wh (fun k s => s.1 = nI k ∧ fr [81] M1 s.2 ∧ ∀ x, x < k → s.2 81 0 x = -1) 16 ⟨rfl, fr_rfl, fun x hx => by cases hx⟩ (by decide) ?_ ?_
    · rintro k ⟨y, M2⟩ hk ⟨e2, f2, v⟩
      simp only at e2 f2 v
      subst e2
      unfold L_X12_walks_12
      simp only [nI_clamp (show k < 2 ^ 31 by omega)]
      refine ok_ifn (nI_ge (b := 16) hk (by decide)) (ok_ifp (inb_n hk (by decide)) (ok_some ⟨nI_1 k, fr_u3 f2 (by decide), fun x hx => ?_⟩))
      show am_u3 M2 81 0 k (-1) 81 0 x = _
      by_cases hxk : x = k
      · rw [hxk, u3_e]
      · rw [u3_j (by omega)]; exact v x (by omega)
    · rintro ⟨y, M2⟩ ⟨e2, f2, v⟩
      simp only at e2 f2 v
      subst e2
      unfold L_X12_walks_12
      exact ok_ifp (by decide) (ok_some ⟨f2, v⟩)
  · rintro M4 ⟨f4, v4⟩
    have e58 : M4 58 0 0 = nI (nB M) := by rw [f4 58 (by decide), f1 58 (by decide)]; exact R_mB h
    have e60 : ∀ b, b < nB M → M4 60 (b + 1) 1 = M 5 0 b := fun b hb => by rw [f4 60 (by decide), f1 60 (by decide)]; exact (R_bd h hb).2.1
    have hfm : ∀ b, b < nB M → bt (frm qc M (nI w)) b = (!(bt v1 b) && decide (nI w ≤ M4 60 (b + 1) 1)) := by
      intro b hb
      rw [frm_b hn (by omega), decide_eq_true hb, Bool.true_and, e1, e60 b hb, Bool.and_comm]
      congr 1
      exact decide_eq_decide.mpr Int32.not_lt
    have F4 : fr [69, 70, 81] M M4 := fr_tr (fr_mono f1 (by decide)) (fr_mono f4 (by decide))
    have none : bt (frm qc M (nI w)) a = false → ok (some M4) (fun M' => fr [69, 70, 81] M M' ∧ ∀ x, x < nB M → M' 81 0 x = enc (tw (bt (frm qc M (nI w))) a x)) := by
      intro hz
      refine ok_some ⟨F4, fun x hx => ?_⟩
      rw [v4 x (by omega)]
      by_cases h0 : tw (bt (frm qc M (nI w))) a x = 0
      · rw [h0]; rfl
      · rw [tw_a h0] at hz; cases hz
    show ok (if f_X12_has v1 (nI a) = 0 then _ else _) _
    rw [nI_clamp (show a < 2 ^ 31 by omega)]
    cases hb : bt v1 a
    · refine ok_ifp ((has0 _ (by omega)).mpr hb) (ok_ifp (inb_n (by omega) (by decide)) ?_)
      by_cases h2 : nI w ≤ M4 60 (a + 1) 1
      · have hfa : bt (frm qc M (nI w)) a = true := by rw [hfm a ha, hb, decide_eq_true h2]; rfl
        refine ok_ifp h2 (ok_bind (m_rnds (fm := bt (frm qc M (nI w))) (n := nB M) (a := a) (by rw [u3_c (by decide)]; exact e58) hn ha (by rw [u3_c (by decide)]; exact hfm) (fun x hx => ?_)) ?_)
        · by_cases hxa : x = a
          · subst hxa
            rw [u3_e]
            unfold trd
            rw [tw_0, if_pos hfa, if_neg (show ¬ x < 0 by omega)]
            rfl
          · rw [u3_j (by omega), v4 x (by omega)]
            unfold trd
            rw [if_neg (show ¬ x < 0 by omega), if_neg]
            rintro ⟨z1, z2⟩
            exact hxa (tw_1 (show tw (bt (frm qc M (nI w))) a x = 1 by omega))
        · rintro M5 ⟨f5, v5⟩
          exact ok_some ⟨fr_tr (fr_u3 F4 (by decide)) (fr_mono f5 (by decide)), v5⟩
      · exact ok_ifn h2 (none (by rw [hfm a ha, decide_eq_false h2, Bool.and_false]))
    · exact ok_ifn (fun z => by rw [(has0 _ (by omega)).mp z] at hb; cases hb) (none (by rw [hfm a ha, hb]; rfl))
theorem frm_a {qc : Nat} {M M' : Mem} (hq : qc = 24 ∨ qc = 25) (a : asks M M') (w : Int32) : frm qc M' w = frm qc M w := by
  unfold frm
  rw [openA_a hq a, a_nB a, a.1 5 (by decide)]
theorem m_walk {qc qs : Nat} {M M1 : Mem} {a b w : Nat} (h : Rel qc qs M) (h1 : Rel qc qs M1) (a1 : asks M M1) (ha : a < nB M) (hb : b < nB M) (hw : w ≤ 20) : ok (f_X12_walk (nI a) (nI b) (nI w) M1) (fun r => r.1 = enc (tw (bt (frm qc M (nI w))) a b) ∧ r.2 54 0 0 = 0 ∧ mfr M1 r.2) := by
  have hn := R_n16 h
  have h0 := Rel_M0 h1
  have a0 : asks M (M0 M1) := asks_tr a1 (asks_m (mfr_M0 M1))
  have eB := a_nB a0
  unfold f_X12_walk
  refine ok_ifn (inT (a_mB h a0) (by omega) ha) (ok_ifn (inT (a_mB h a0) (by omega) hb) (ok_bindE (badM0 _ _ _) (ok_ifp rfl (ok_ifn (in_n (n := 20) (by decide) hw) (ok_bindE (badM0 _ _ _) (ok_ifp rfl (ok_bind (m_walks h0 (by rw [eB]; exact ha)) ?_)))))))
  rintro M2 ⟨f2, v2⟩
  refine ok_ifp (inb_n (by omega) (by decide)) (ok_some ⟨?_, ?_, ?_⟩)
  · show M2 81 0 (nI b).toNatClampNeg = _
    rw [nI_clamp (by omega), v2 b (by rw [eB]; exact hb), frm_a h.1.1 a0]
  · show M2 54 0 0 = 0
    rw [f2 54 (by decide)]; exact M0_t M1
  · exact mfr_tr (mfr_M0 M1) (mfr_f f2 (by decide))
theorem t_walk {qc qs qd : Nat} {x y z : Int32} {M : Mem} (h : Rel qc qs M) : ok (f_X11_walk qc qd x y z M) (fun r => ok (f_X12_walk x y z r.2) (fun r' => ans2 r.1 r'.1 (r'.2 54 0 0) ∧ Rel qc qs r'.2)) := by
  have hg := R_n16 h
  have em := R_mB h
  by_cases hx : x < 0 ∨ M 3 0 0 ≤ x
  · unfold f_X11_walk
    refine ok_bindE (bdF hx) (ok_some ?_)
    rw [R_eB h] at hx
    unfold f_X12_walk
    exact ok_ifp (inF em (by omega) hx) (ok_bindE (bad13 M (by decide)) (ok_ifn (by decide) (ok_some ⟨Or.inl ⟨rfl, RM_t 13 1 M⟩, Rel_RM (k := 13) (Or.inl rfl) h⟩)))
  · by_cases hy : y < 0 ∨ M 3 0 0 ≤ y
    · unfold f_X11_walk
      refine ok_bindE (bdT hx) (ok_bindE (bdF hy) (ok_some ?_))
      rw [R_eB h] at hx hy
      obtain ⟨b_0, rfl, hb_0⟩ := there_arg (by omega) hx
      unfold f_X12_walk
      exact ok_ifn (inT em (by omega) hb_0) (ok_ifp (inF em (by omega) hy) (ok_bindE (bad13 M (by decide)) (ok_ifn (by decide) (ok_some ⟨Or.inl ⟨rfl, RM_t 13 1 M⟩, Rel_RM (k := 13) (Or.inl rfl) h⟩))))
    · by_cases hz : z < 0 ∨ 20 < z
      · unfold f_X11_walk
        refine ok_bindE (bdT hx) (ok_bindE (bdT hy) (ok_bindE (fitF hz) (ok_some ?_)))
        rw [R_eB h] at hx hy
        obtain ⟨b_0, rfl, hb_0⟩ := there_arg (by omega) hx
        obtain ⟨b_1, rfl, hb_1⟩ := there_arg (by omega) hy
        unfold f_X12_walk
        exact ok_ifn (inT em (by omega) hb_0) (ok_ifn (inT em (by omega) hb_1) (ok_bindE (badM0 _ _ _) (ok_ifp rfl (ok_ifp ((in_eq _ _ _).mpr hz) (ok_bindE (bad14 M (by decide)) (ok_ifn (by decide) (ok_some ⟨Or.inr ⟨rfl, RM_t 14 2 M⟩, Rel_RM (k := 14) (Or.inr rfl) h⟩)))))))
      · rw [R_eB h] at hx hy
        obtain ⟨a_x, rfl, l_x⟩ := there_arg (by omega) hx
        obtain ⟨a_y, rfl, l_y⟩ := there_arg (by omega) hy
        obtain ⟨a_z, rfl, l_z⟩ := args (n := 20) rfl (by decide) hz
        exact t_of2 h (k_walk h l_x l_y l_z) (fun M1 h1 a1 => m_walk h h1 a1 l_x l_y l_z)
/-- who can be reached, as bits -/
def rcS (f r0 : Int32) (k : Nat) : Int32 := itr (fun _ r => r ||| (f &&& ((((r <<< ((1 : Int32) &&& 31)) ||| (r <<< ((2 : Int32) &&& 31))) ||| (r >>> ((1 : Int32) &&& 31))) ||| (r >>> ((2 : Int32) &&& 31))))) r0 k
theorem rcS_s (f r0 : Int32) (k : Nat) : rcS f r0 (k + 1) = rcS f r0 k ||| (f &&& ((((rcS f r0 k <<< ((1 : Int32) &&& 31)) ||| (rcS f r0 k <<< ((2 : Int32) &&& 31))) ||| (rcS f r0 k >>> ((1 : Int32) &&& 31))) ||| (rcS f r0 k >>> ((2 : Int32) &&& 31)))) := rfl
theorem rcS_b {f : Int32} {a : Nat} (ha : a < 16) (hf : ∀ i, 16 ≤ i → i < 32 → bt f i = false) : ∀ (k : Nat) {b : Nat}, b < 32 → bt (rcS f (f &&& ((1 : Int32) <<< (nI a &&& 31))) k) b = decide (tw (bt f) a b ≠ 0 ∧ tw (bt f) a b ≤ k + 1)
  | 0, b, hb => by
    show bt (f &&& ((1 : Int32) <<< (nI a &&& 31))) b = _
    rw [b_and, b_one (by omega) hb]
    by_cases e : b = a
    · subst e
      rw [tw_0, decide_eq_true rfl, Bool.and_true]
      cases bt f b <;> rfl
    · rw [decide_eq_false e, Bool.and_false]
      symm
      rw [decide_eq_false]
      rintro ⟨z1, z2⟩
      exact e (tw_1 (show tw (bt f) a b = 1 by omega))
  | k + 1, b, hb => by
    have ih := @rcS_b f a ha hf k
    rw [rcS_s]
    generalize rcS f (f &&& ((1 : Int32) <<< (nI a &&& 31))) k = r at ih
    rw [b_or, b_and, b_or, b_or, b_or, show (1 : Int32) = nI 1 from rfl, show (2 : Int32) = nI 2 from rfl, b_shl 1 (by decide) _ hb, b_shl 2 (by decide) _ hb, b_sshr 1 (by decide) _ hb, b_sshr 2 (by decide) _ hb]
    have top : ∀ i, 16 ≤ i → tw (bt f) a i = 0 := by
      intro i hi
      by_cases hz : tw (bt f) a i = 0
      · exact hz
      · have h1 := tw_fm hz
        by_cases h32 : i < 32
        · rw [hf i hi h32] at h1; cases h1
        · rw [b_big (by omega)] at h1; cases h1
    by_cases h1 : tw (bt f) a b ≠ 0 ∧ tw (bt f) a b ≤ k + 1
    · rw [ih hb, decide_eq_true h1, Bool.true_or, decide_eq_true ⟨h1.1, by omega⟩]
    · rw [ih hb, decide_eq_false h1, Bool.false_or]
      by_cases h16 : b < 16
      · rw [if_pos (by omega), if_pos (by omega), ih (b := 1 + b) (by omega), ih (b := 2 + b) (by omega), ih (b := b - 1) (by omega), ih (b := b - 2) (by omega)]
        cases hfb : bt f b
        · rw [Bool.false_and, decide_eq_false]
          rintro ⟨z, -⟩
          rw [tw_fm z] at hfb; cases hfb
        · rw [Bool.true_and]
          apply Bool.eq_iff_iff.mpr
          simp only [Bool.or_eq_true, Bool.and_eq_true, decide_eq_true_eq]
          constructor
          · rintro (((⟨g, z1, z2⟩ | ⟨g, z1, z2⟩) | ⟨z1, z2⟩) | ⟨z1, z2⟩)
            · have := tw_adj (a := a) (x := b - 1) hfb (by omega) (by omega) z1
              exact ⟨this.1, by omega⟩
            · have := tw_adj (a := a) (x := b - 2) hfb (by omega) (by omega) z1
              exact ⟨this.1, by omega⟩
            · have := tw_adj (a := a) (x := 1 + b) hfb (by omega) (by omega) z1
              exact ⟨this.1, by omega⟩
            · have := tw_adj (a := a) (x := 2 + b) hfb (by omega) (by omega) z1
              exact ⟨this.1, by omega⟩
          · rintro ⟨z1, z2⟩
            have z3 : tw (bt f) a b = k + 2 := by
              rcases Nat.lt_or_ge (tw (bt f) a b) (k + 2) with z | z
              · exact absurd ⟨z1, by omega⟩ h1
              · omega
            obtain ⟨x, x1, x2, -, x4⟩ := tw_pred (show 2 ≤ tw (bt f) a b by omega)
            have hx : x = b - 1 ∧ 1 ≤ b ∨ x = b - 2 ∧ 2 ≤ b ∨ x = 1 + b ∨ x = 2 + b := by
              by_cases e : x = b
              · subst e; omega
              · omega
            rcases hx with ⟨rfl, g⟩ | ⟨rfl, g⟩ | rfl | rfl
            · exact Or.inl (Or.inl (Or.inl ⟨g, by omega, by omega⟩))
            · exact Or.inl (Or.inl (Or.inr ⟨g, by omega, by omega⟩))
            · exact Or.inl (Or.inr ⟨by omega, by omega⟩)
            · exact Or.inr ⟨by omega, by omega⟩
      · rw [hf b (by omega) hb, Bool.false_and, decide_eq_false]
        rintro ⟨z, -⟩
        exact z (top b (by omega))
def vRch (qc : Nat) (M : Mem) (a w : Nat) : Int32 := bitsN (fun b => decide (tw (bt (frm qc M (nI w))) a b ≠ 0)) (nB M)
theorem k_reach {qc qs qd : Nat} {M : Mem} {a w : Nat} (h : Rel qc qs M) (ha : a < nB M) (hw : w ≤ 20) : ok (f_X11_reach qc qd (nI a) (nI w) M) (fun r => r.1 = .inl (vRch qc M a w) ∧ asks M r.2 ∧ cch qc r.2) := by
  have hn := R_n16 h
  unfold f_X11_reach
  refine ok_bindE (bdT (bd_n (R_eB h) (by omega) ha)) (ok_bindE (fitT (fit_n (n := 20) (by decide) hw)) (ok_bindE (c_bear (R_eB h) hn) (ok_bind (c_openNow h.1 (R_cch h)) ?_)))
  rintro ⟨v, M1⟩ ⟨rfl, f1, c1⟩
  simp only at f1 c1
  have o1 : OL qc M M1 := ⟨f1, c1⟩
  have hf0 : ∀ i, nB M ≤ i → i < 32 → bt (frm qc M (nI w)) i = false := by
    intro i hi h32
    rw [frm_b hn h32, decide_eq_false (show ¬ i < nB M by omega)]
    rfl
  have hf : ∀ i, 16 ≤ i → i < 32 → bt (frm qc M (nI w)) i = false := fun i hi h32 => hf0 i (by omega) h32
  have key : wh (L_X11_reach_39 qc qd (frm qc M (nI w))) FU (frm qc M (nI w) &&& ((1 : Int32) <<< (nI a &&& 31)), (0 : Int32)) = some (rcS (frm qc M (nI w)) (frm qc M (nI w) &&& ((1 : Int32) <<< (nI a &&& 31))) 16) := by
    refine wh_for (fun k => (rcS (frm qc M (nI w)) (frm qc M (nI w) &&& ((1 : Int32) <<< (nI a &&& 31))) k, nI k)) 16 _ (by decide) ?_ ?_
    · intro k hk
      unfold L_X11_reach_39
      simp only []
      rw [if_neg (show ¬ (16 : Int32) ≤ nI k from nI_ge (b := 16) hk (by decide)), nI_1, rcS_s]
    · unfold L_X11_reach_39
      simp only []
      rw [if_pos (by decide)]
  refine ok_bindE key (ok_some ⟨?_, OL_end o1⟩)
  show Sum.inl _ = _
  congr 1
  refine bitsN_eq (by omega) (fun i hi => ?_) (fun i hi h32 => ?_)
  · rw [rcS_b (by omega) hf 16 (by omega)]
    have := tw_bound (bt (frm qc M (nI w))) ha hi
    exact decide_eq_decide.mpr ⟨fun z => z.1, fun z => ⟨z, by omega⟩⟩
  · rw [rcS_b (by omega) hf 16 h32, decide_eq_false]
    rintro ⟨z, -⟩
    have := tw_fm z
    rw [hf0 i hi h32] at this
    cases this
theorem m_reach {qc qs : Nat} {M M1 : Mem} {a w : Nat} (h : Rel qc qs M) (h1 : Rel qc qs M1) (a1 : asks M M1) (ha : a < nB M) (hw : w ≤ 20) : ok (f_X12_reach (nI a) (nI w) M1) (fun r => r.1 = vRch qc M a w ∧ r.2 54 0 0 = 0 ∧ mfr M1 r.2) := by
  have hn := R_n16 h
  have h0 := Rel_M0 h1
  have a0 : asks M (M0 M1) := asks_tr a1 (asks_m (mfr_M0 M1))
  have eB := a_nB a0
  unfold f_X12_reach
  refine ok_ifn (inT (a_mB h a0) (by omega) ha) (ok_bindE (badM0 _ _ _) (ok_ifp rfl (ok_ifn (in_n (n := 20) (by decide) hw) (ok_bindE (badM0 _ _ _) (ok_ifp rfl (ok_bind (m_walks h0 (by rw [eB]; exact ha)) ?_))))))
  rintro M2 ⟨f2, v2⟩
  rw [eB, frm_a h.1.1 a0] at v2
  have e58 : M2 58 0 0 = nI (nB M) := by rw [f2 58 (by decide)]; exact a_mB h a0
  have key : wh (L_X12_reach_61 M2) FU ((0 : Int32), (0 : Int32)) = some (vRch qc M a w) := by
    refine wh_for (fun k => (bitsN (fun b => decide (tw (bt (frm qc M (nI w))) a b ≠ 0)) k, nI k)) (nB M) _ (by omega) ?_ ?_
    · intro k hk
      have hb := tw_bound (bt (frm qc M (nI w))) ha hk
      unfold L_X12_reach_61
      simp only []
      rw [e58, if_neg (nI_ge hk (by omega)), if_pos (inb_n (by omega) (by decide)), nI_clamp (by omega), nI_1, v2 k hk]
      by_cases hz : tw (bt (frm qc M (nI w))) a k = 0
      · rw [if_pos ((enc_0 (by omega)).mpr hz), bitsN_sf _ _ (decide_eq_false (fun z => z hz))]
      · rw [if_neg (fun z => hz ((enc_0 (by omega)).mp z)), bitsN_st _ _ (decide_eq_true hz)]
    · unfold L_X12_reach_61
      simp only []
      rw [e58, if_pos (nI_le (Nat.le_refl _) (by omega))]
      rfl
  refine ok_bindE key (ok_some ⟨rfl, ?_, mfr_tr (mfr_M0 M1) (mfr_f f2 (by decide))⟩)
  show M2 54 0 0 = 0
  rw [f2 54 (by decide)]; exact M0_t M1
theorem t_reach {qc qs qd : Nat} {x y : Int32} {M : Mem} (h : Rel qc qs M) : ok (f_X11_reach qc qd x y M) (fun r => ok (f_X12_reach x y r.2) (fun r' => ans2 r.1 r'.1 (r'.2 54 0 0) ∧ Rel qc qs r'.2)) := by
  have hg := R_n16 h
  have em := R_mB h
  have h8 := R_s8 h
  have emS := R_mS h
  by_cases hx_0 : x < 0 ∨ M 3 0 0 ≤ x
  · unfold f_X11_reach
    refine ok_bindE (bdF hx_0) (ok_some ?_)
    rw [R_eB h] at hx_0
    unfold f_X12_reach
    exact ok_ifp (inF em (by omega) hx_0) (ok_bindE (bad13 M (by decide)) (ok_ifn (by decide) (ok_some ⟨Or.inl ⟨rfl, RM_t 13 1 M⟩, Rel_RM (k := 13) (Or.inl rfl) h⟩)))
  · skip
    by_cases hy_1 : y < 0 ∨ 20 < y
    · unfold f_X11_reach
      refine ok_bindE (bdT hx_0) (ok_bindE (fitF hy_1) (ok_some ?_))
      rw [R_eB h] at hx_0
      obtain ⟨b_0, rfl, hb_0⟩ := there_arg (by omega) hx_0
      unfold f_X12_reach
      exact ok_ifn (inT em (by omega) hb_0) (ok_bindE (badM0 _ _ _) (ok_ifp rfl (ok_ifp ((in_eq _ _ _).mpr hy_1) (ok_bindE (bad14 M (by decide)) (ok_ifn (by decide) (ok_some ⟨Or.inr ⟨rfl, RM_t 14 2 M⟩, Rel_RM (k := 14) (Or.inr rfl) h⟩))))))
    · skip
      rw [R_eB h] at hx_0
      obtain ⟨a_x, rfl, l_x⟩ := there_arg (by omega) hx_0
      obtain ⟨a_y, rfl, l_y⟩ := args (n := 20) rfl (by decide) hy_1
      exact t_of2 h (k_reach h l_x l_y) (fun M1 h1 a1 => m_reach h h1 a1 l_x l_y)
