/-! feed -/
theorem i8_i8 (x : Int32) : (x.toInt8.toInt32).toInt8.toInt32 = x.toInt8.toInt32 := by
  rw [Int8.toInt8_toInt32]
theorem bt_i8 (x : Int32) {i : Nat} (hi : i < 8) : bt (x.toInt8.toInt32) i = bt x i := by
  unfold bt
  rw [Int8.toBitVec_toInt32, BitVec.getLsbD_signExtend, Int32.toBitVec_toInt8, BitVec.getLsbD_signExtend]
  simp [hi, show i < 32 by omega]
theorem i8_255 (x : Int32) : x.toInt8.toInt32 &&& 255 = x &&& 255 := by
  apply b_ext
  intro i hi
  rw [b_and, b_and, b_255]
  by_cases h8 : i < 8
  · rw [bt_i8 x h8]
  · rw [decide_eq_false h8, Bool.and_false, Bool.and_false]
theorem app_u (M1 : Mem) {cb cs : Nat} (p : Nat) (v w : Int32) (hne : cb ≠ cs) : am_u3 (am_u3 M1 cb 0 p v) cs 0 1 w cs 0 1 = w ∧ (∀ j, j ≠ 1 → am_u3 (am_u3 M1 cb 0 p v) cs 0 1 w cs 0 j = M1 cs 0 j) ∧ (∀ j, j ≠ p → am_u3 (am_u3 M1 cb 0 p v) cs 0 1 w cb 0 j = M1 cb 0 j) ∧ am_u3 (am_u3 M1 cb 0 p v) cs 0 1 w cb 0 p = v := by
  refine ⟨u3_e _ _ _ _ _, fun j hj => ?_, fun j hj => ?_, ?_⟩
  · rw [u3_j (by omega), u3_c (Ne.symm hne)]
  · rw [u3_c hne, u3_j (by omega)]
  · rw [u3_c hne, u3_e]
/-- byte k of a number -/
def byK (x : Int32) (k : Nat) : Int32 := x >>> (nI (24 - 8 * k) &&& 31)
def shf (k : Nat) : Int32 := ([24, 16, 8, 0, -8] : List Int32).getD k 0
theorem c_put {M : Mem} {x : Int32} {t : Nat} (e : M 1 0 1 = nI t) (ht : t + 4 ≤ 600) : ok (f_X10_put x M) (fun M' => fr [1, 2] M M' ∧ M' 1 0 1 = nI (t + 4) ∧ (∀ j, j ≠ 1 → M' 1 0 j = M 1 0 j) ∧ (∀ j, j < t → M' 2 0 j = M 2 0 j) ∧ ∀ k, k < 4 → M' 2 0 (t + k) = (byK x k).toInt8.toInt32) := by
  unfold f_X10_put
  refine ok_bind (P := fun M' => fr [1, 2] M M' ∧ M' 1 0 1 = nI (t + 4) ∧ (∀ j, j ≠ 1 → M' 1 0 j = M 1 0 j) ∧ (∀ j, j < t → M' 2 0 j = M 2 0 j) ∧ ∀ k, k < 4 → M' 2 0 (t + k) = (byK x k).toInt8.toInt32) ?_ (fun _ h => ok_some h)
  refine ok_wh (fun k s => s.1 = shf k ∧ fr [1, 2] M s.2 ∧ s.2 1 0 1 = nI (t + k) ∧ (∀ j, j ≠ 1 → s.2 1 0 j = M 1 0 j) ∧ (∀ j, j < t → s.2 2 0 j = M 2 0 j) ∧ ∀ i, i < k → s.2 2 0 (t + i) = (byK x i).toInt8.toInt32) 4 ⟨rfl, fr_rfl, e, fun _ _ => rfl, fun _ _ => rfl, fun i hi => by cases hi⟩ (by decide) ?_ ?_
  · rintro k ⟨y, M1⟩ hk ⟨e1, f1, s1, o1, b1, c1⟩
    simp only at e1 f1 s1 o1 b1 c1
    subst e1
    have h1 : ¬ shf k < 0 := (by decide : ∀ k, k < 4 → ¬ shf k < 0) k hk
    have h2 : shf k = nI (24 - 8 * k) := (by decide : ∀ k, k < 4 → shf k = nI (24 - 8 * k)) k hk
    have h3 : shf k + (-8) = shf (k + 1) := (by decide : ∀ k, k < 4 → shf k + (-8) = shf (k + 1)) k hk
    unfold L_X10_put_3
    simp only [s1, nI_clamp (show t + k < 2 ^ 31 by omega)]
    refine ok_ifn h1 (ok_ifn (nI_ge (b := 600) (by omega) (by decide)) (ok_ifp (inb_n (by omega) (by decide)) (ok_some ?_)))
    have hb : ((x >>> (shf k &&& 31)).toInt8.toInt32).toInt8.toInt32 = (byK x k).toInt8.toInt32 := by rw [i8_i8, h2]; rfl
    rw [hb, h3]
    obtain ⟨U1, U2, U3, U4⟩ := app_u M1 (cb := 2) (cs := 1) (t + k) (byK x k).toInt8.toInt32 (nI (t + k) + 1) (by decide)
    have F2 : fr [1, 2] M (am_u3 (am_u3 M1 2 0 (t + k) (byK x k).toInt8.toInt32) 1 0 1 (nI (t + k) + 1)) := fr_u3 (fr_u3 f1 (by decide)) (by decide)
    generalize am_u3 (am_u3 M1 2 0 (t + k) (byK x k).toInt8.toInt32) 1 0 1 (nI (t + k) + 1) = M2 at U1 U2 U3 U4 F2 ⊢
    refine ⟨rfl, F2, U1.trans (nI_1 _), fun j hj => (U2 j hj).trans (o1 j hj), fun j hj => (U3 j (by omega)).trans (b1 j hj), fun i hi => ?_⟩
    by_cases hik : i = k
    · subst hik
      exact U4
    · exact (U3 _ (by omega)).trans (c1 i (by omega))
  · rintro ⟨y, M1⟩ ⟨e1, f1, s1, o1, b1, c1⟩
    simp only at e1 f1 s1 o1 b1 c1
    unfold L_X10_put_3
    exact ok_ifp (by rw [e1]; decide) (ok_some ⟨f1, s1, o1, b1, c1⟩)
/-- which of the five -/
def arg5 (a b c d e : Int32) (k : Nat) : Int32 := if k < 4 then a else if k < 8 then b else if k < 12 then c else if k < 16 then d else e
theorem m_feed {M : Mem} {a b c d e : Int32} {t : Nat} (et : M 54 0 1 = nI t) (ht : t + 20 ≤ 600) : ok (wh (L_X12_feed_23 a b c d e) FU ((0 : Int32), M)) (fun M' => fr [54, 55] M M' ∧ M' 54 0 1 = nI (t + 20) ∧ (∀ j, j ≠ 1 → M' 54 0 j = M 54 0 j) ∧ (∀ j, j < t → M' 55 0 j = M 55 0 j) ∧ ∀ k, k < 20 → M' 55 0 (t + k) = byK (arg5 a b c d e k) (k % 4) &&& 255) := by
  refine ok_wh (fun k s => s.1 = nI k ∧ fr [54, 55] M s.2 ∧ s.2 54 0 1 = nI (t + k) ∧ (∀ j, j ≠ 1 → s.2 54 0 j = M 54 0 j) ∧ (∀ j, j < t → s.2 55 0 j = M 55 0 j) ∧ ∀ i, i < k → s.2 55 0 (t + i) = byK (arg5 a b c d e i) (i % 4) &&& 255) 20 ⟨rfl, fr_rfl, et, fun _ _ => rfl, fun _ _ => rfl, fun i hi => by cases hi⟩ (by decide) ?_ ?_
  · rintro k ⟨y, M1⟩ hk ⟨e1, f1, s1, o1, b1, c1⟩
    simp only at e1 f1 s1 o1 b1 c1
    subst e1
    have hs : (24 : Int32) - 8 * (nI k - nI k / 4 * 4) = nI (24 - 8 * (k % 4)) := by
      rw [show (4 : Int32) = nI 4 from rfl, nI_mod (by omega) (by decide), show (8 : Int32) = nI 8 from rfl, nI_mul, show (24 : Int32) = nI 24 from rfl, nI_sub (by omega)]
    have tail : ∀ x : Int32, x = arg5 a b c d e k → ok (if inb (nI (t + k)) 600 = true then some (Sum.inl (nI k + 1, (am_u3 (am_u3 M1 55 0 (t + k) ((x >>> (nI (24 - 8 * (k % 4)) &&& 31)) &&& (255 : Int32))) 54 0 1 (nI (t + k) + (1 : Int32))))) else none) (stp (fun s => s.1 = nI (k + 1) ∧ fr [54, 55] M s.2 ∧ s.2 54 0 1 = nI (t + (k + 1)) ∧ (∀ j, j ≠ 1 → s.2 54 0 j = M 54 0 j) ∧ (∀ j, j < t → s.2 55 0 j = M 55 0 j) ∧ ∀ i, i < k + 1 → s.2 55 0 (t + i) = byK (arg5 a b c d e i) (i % 4) &&& 255) (fun (M' : Mem) => fr [54, 55] M M' ∧ M' 54 0 1 = nI (t + 20) ∧ (∀ j, j ≠ 1 → M' 54 0 j = M 54 0 j) ∧ (∀ j, j < t → M' 55 0 j = M 55 0 j) ∧ ∀ k, k < 20 → M' 55 0 (t + k) = byK (arg5 a b c d e k) (k % 4) &&& 255)) := by
      intro x hx
      obtain ⟨U1, U2, U3, U4⟩ := app_u M1 (cb := 55) (cs := 54) (t + k) ((x >>> (nI (24 - 8 * (k % 4)) &&& 31)) &&& (255 : Int32)) (nI (t + k) + 1) (by decide)
      have F2 : fr [54, 55] M (am_u3 (am_u3 M1 55 0 (t + k) ((x >>> (nI (24 - 8 * (k % 4)) &&& 31)) &&& (255 : Int32))) 54 0 1 (nI (t + k) + 1)) := fr_u3 (fr_u3 f1 (by decide)) (by decide)
      generalize am_u3 (am_u3 M1 55 0 (t + k) ((x >>> (nI (24 - 8 * (k % 4)) &&& 31)) &&& (255 : Int32))) 54 0 1 (nI (t + k) + 1) = M2 at U1 U2 U3 U4 F2 ⊢
      refine ok_ifp (inb_n (by omega) (by decide)) (ok_some ⟨nI_1 k, F2, U1.trans (nI_1 _), fun j hj => (U2 j hj).trans (o1 j hj), fun j hj => (U3 j (by omega)).trans (b1 j hj), fun i hi => ?_⟩)
      by_cases hik : i = k
      · subst hik
        rw [← hx]
        exact U4
      · exact (U3 _ (by omega)).trans (c1 i (by omega))
    unfold L_X12_feed_23
    simp only [s1, nI_clamp (show t + k < 2 ^ 31 by omega), hs]
    refine ok_ifn (nI_ge (b := 20) hk (by decide)) ?_
    by_cases h4 : k < 4
    · exact ok_ifn (nI_ge (b := 4) h4 (by decide)) (tail a (by unfold arg5; rw [if_pos h4]))
    · refine ok_ifp (nI_le (a := 4) (by omega) (by omega)) ?_
      by_cases h8 : k < 8
      · exact ok_ifn (nI_ge (b := 8) h8 (by decide)) (tail b (by unfold arg5; rw [if_neg h4, if_pos h8]))
      · refine ok_ifp (nI_le (a := 8) (by omega) (by omega)) ?_
        by_cases h12 : k < 12
        · exact ok_ifn (nI_ge (b := 12) h12 (by decide)) (tail c (by unfold arg5; rw [if_neg h4, if_neg h8, if_pos h12]))
        · refine ok_ifp (nI_le (a := 12) (by omega) (by omega)) ?_
          by_cases h16 : k < 16
          · exact ok_ifn (nI_ge (b := 16) h16 (by decide)) (tail d (by unfold arg5; rw [if_neg h4, if_neg h8, if_neg h12, if_pos h16]))
          · exact ok_ifp (nI_le (a := 16) (by omega) (by omega)) (tail e (by unfold arg5; rw [if_neg h4, if_neg h8, if_neg h12, if_neg h16]))
  · rintro ⟨y, M1⟩ ⟨e1, f1, s1, o1, b1, c1⟩
    simp only at e1 f1 s1 o1 b1 c1
    unfold L_X12_feed_23
    exact ok_ifp (by rw [e1]; decide) (ok_some ⟨f1, s1, o1, b1, c1⟩)
theorem t_feed {qc qs : Nat} {a b c d e : Int32} {M : Mem} (h : Rel qc qs M) : ok (f_X11_feed a b c d e M) (fun r => ok (f_X12_feed a b c d e r.2) (fun r' => r.1 = r'.1 ∧ Rel qc qs r'.2)) := by
  obtain ⟨⟨t, t1, t2, t3, t4⟩, t5⟩ := h.2.2.2.1
  unfold f_X11_feed f_X10_hasRoom
  rw [t2, show (20 : Int32) = nI 20 from rfl, nI_add]
  by_cases hr : t + 20 ≤ 600
  · refine ok_ifn (by rw [if_neg (show ¬ (600 : Int32) < nI (t + 20) from nI_nlt (a := 600) hr (by decide))]; decide) ?_
    refine ok_bind (c_put t2 (by omega)) ?_
    rintro M1 ⟨f1, s1, o1, b1, c1⟩
    refine ok_bind (c_put s1 (by omega)) ?_
    rintro M2 ⟨f2, s2, o2, b2, c2⟩
    refine ok_bind (c_put s2 (by omega)) ?_
    rintro M3 ⟨f3, s3, o3, b3, c3⟩
    refine ok_bind (c_put s3 (by omega)) ?_
    rintro M4 ⟨f4, s4, o4, b4, c4⟩
    refine ok_bind (c_put s4 (by omega)) ?_
    rintro M5 ⟨f5, s5, o5, b5, c5⟩
    have F : fr [1, 2] M M5 := fr_tr f1 (fr_tr f2 (fr_tr f3 (fr_tr f4 f5)))
    have O : ∀ j, j ≠ 1 → M5 1 0 j = M 1 0 j := fun j hj => by rw [o5 j hj, o4 j hj, o3 j hj, o2 j hj, o1 j hj]
    have B : ∀ j, j < t → M5 2 0 j = M 2 0 j := fun j hj => by rw [b5 j (by omega), b4 j (by omega), b3 j (by omega), b2 j (by omega), b1 j hj]
    have C : ∀ k, k < 20 → M5 2 0 (t + k) = (byK (arg5 a b c d e k) (k % 4)).toInt8.toInt32 := by
      intro k hk
      unfold arg5
      by_cases h4 : k < 4
      · rw [if_pos h4, b5 _ (by omega), b4 _ (by omega), b3 _ (by omega), b2 _ (by omega), c1 k h4, show k % 4 = k by omega]
      · rw [if_neg h4]
        by_cases h8 : k < 8
        · rw [if_pos h8, b5 _ (by omega), b4 _ (by omega), b3 _ (by omega), show t + k = t + 4 + (k - 4) by omega, c2 (k - 4) (by omega), show k % 4 = k - 4 by omega]
        · rw [if_neg h8]
          by_cases h12 : k < 12
          · rw [if_pos h12, b5 _ (by omega), b4 _ (by omega), show t + k = t + 4 + 4 + (k - 8) by omega, c3 (k - 8) (by omega), show k % 4 = k - 8 by omega]
          · rw [if_neg h12]
            by_cases h16 : k < 16
            · rw [if_pos h16, b5 _ (by omega), show t + k = t + 4 + 4 + 4 + (k - 12) by omega, c4 (k - 12) (by omega), show k % 4 = k - 12 by omega]
            · rw [if_neg h16, show t + k = t + 4 + 4 + 4 + 4 + (k - 16) by omega, c5 (k - 16) (by omega), show k % 4 = k - 16 by omega]
    have S : M5 1 0 1 = nI (t + 20) := by rw [s5]
    refine ok_some ?_
    show ok (f_X12_feed a b c d e M5) (fun r' => M5 1 0 1 = r'.1 ∧ Rel qc qs r'.2)
    have e54 : M5 54 0 1 = nI t := by rw [F 54 (by decide)]; exact t3
    unfold f_X12_feed
    rw [e54, show (20 : Int32) = nI 20 from rfl, nI_add]
    refine ok_ifp (nI_le (b := 600) hr (by decide)) (ok_bind (m_feed (t := t) (show am_u3 M5 54 0 0 0 54 0 1 = nI t by rw [u3_j (by omega)]; exact e54) hr) ?_)
    rintro M6 ⟨g1, g2, g3, g4, g5⟩
    refine ok_some ⟨by rw [S]; exact g2.symm, ?_⟩
    show Rel qc qs M6
    have f6 : fr [1, 2, 54, 55] M M6 := fr_tr (fr_u3 (fr_mono F (by decide)) (by decide)) (fr_mono g1 (by decide))
    have k54 : ∀ j, j ≠ 1 → j ≠ 0 → M6 54 0 j = M 54 0 j := fun j h1 h2 => by rw [g3 j h1, u3_j (by omega), F 54 (by decide)]
    have e1 : M6 1 = M5 1 := by rw [g1 1 (by decide), u3_c (by decide)]
    have e2 : M6 2 = M5 2 := by rw [g1 2 (by decide), u3_c (by decide)]
    have e3 : M6 3 = M 3 := f6 3 (by decide)
    have ge : ∀ c, c ∈ gCells → M6 c = M c := fun c hc => f6 c (by revert c; decide)
    refine Rel_gen h ge (k54 19 (by decide) (by decide)) (k54 34 (by decide) (by decide)) (by rw [f6 45 (by decide)]) ?_ ?_ ?_ ?_ (cch_s h.1.1 ge (by rw [f6 38 (by decide)]) (f6 41 (by decide)) (by rw [f6 30 (by decide)]) (R_cch h))
    · refine ⟨⟨t + 20, by omega, by rw [e1]; exact S, g2, fun j hj => ?_⟩, ?_⟩
      · rw [e2]
        by_cases hjt : j < t
        · rw [g4 j hjt, u3_c (by decide), F 55 (by decide), B j hjt]; exact t4 j hjt
        · obtain ⟨k, rfl⟩ := Nat.exists_eq_add_of_le (Nat.not_lt.mp hjt)
          rw [g5 k (by omega), C k (by omega), i8_255]
          exact ⟨rfl, i8_i8 _⟩
      · rw [e1, O 6 (by decide), k54 3 (by decide) (by decide)]; exact t5
    · unfold rCnt
      rw [f6 0 (by decide), f6 56 (by decide), k54 36 (by decide) (by decide)]
      exact h.2.2.2.2.1
    · rw [f6 30 (by decide), f6 72 (by decide)]; exact h.2.2.2.2.2.1
    · have := h.2.2.2.2.2.2.1
      unfold rPast at *
      rw [nB_fr e3, nG_fr e3, f6 31 (by decide), f6 32 (by decide), f6 33 (by decide), f6 75 (by decide), f6 76 (by decide), k54 35 (by decide) (by decide), k54 37 (by decide) (by decide)]
      exact this
  · refine ok_ifp (by rw [if_pos (show (600 : Int32) < nI (t + 20) from nI_lt (a := 600) (by omega) (by omega))]) (ok_some ?_)
    show ok (f_X12_feed a b c d e M) (fun r' => -1 = r'.1 ∧ Rel qc qs r'.2)
    unfold f_X12_feed
    rw [t3, show (20 : Int32) = nI 20 from rfl, nI_add]
    exact ok_ifn (nI_ge (a := 600) (by omega) (by omega)) (ok_some ⟨rfl, Rel_M0 h⟩)
