/-! FLOOD: the class -/
def FB (n ns : Nat) (dr f t : Nat → Nat) (M : Mem) : Prop := M 3 0 0 = nI n ∧ M 3 0 8 = nI ns ∧ (∀ b, b < n → M 6 0 b = nI (dr b)) ∧ (∀ s, s < ns → M 10 0 s = nI (f s) ∧ M 11 0 s = nI (t s) ∧ f s ≤ t s ∧ t s < n)
theorem FB_fr {n ns : Nat} {dr f t : Nat → Nat} {M M' : Mem} (h : FB n ns dr f t M) (a : fr [43, 44] M M') : FB n ns dr f t M' := by
  unfold FB at *
  rw [a 3 (by decide), a 6 (by decide), a 10 (by decide), a 11 (by decide)]
  exact h
def laM (M : Mem) (s : Nat) : Int := (M 44 0 s).toInt
theorem pred_toInt {n : Nat} (hn : n < 2 ^ 31) : (nI n - 1).toInt = (n : Int) - 1 := by
  rw [Int32.toInt_sub, nI_toInt hn, show (1 : Int32).toInt = 1 from rfl]
  apply Int.bmod_eq_of_le <;> simp <;> omega
theorem sub_toInt {x : Int32} {k : Nat} (h1 : -1000 ≤ x.toInt) (h2 : x.toInt ≤ 1000) (hk : k ≤ 1000) : (x - nI k).toInt = x.toInt - k := by
  rw [Int32.toInt_sub, nI_toInt (by omega)]
  apply Int.bmod_eq_of_le <;> simp <;> omega
theorem c_could1 {n : Nat} {dr : Nat → Nat} {M : Mem} {f t d : Nat} (hn : n ≤ 16) (hdr : ∀ b, dr b ≤ 9) (e6 : ∀ b, b < n → M 6 0 b = nI (dr b)) (ft : f ≤ t) (tn : t < n) (hd : d ≤ n) : ok (wh (L_X2_couldHold_54 (if nI t < nI d - 1 then nI t else nI d - 1) M) FU ((0 : Int32), (0 : Int32), nI f)) (fun e => e = (nI (aN dr f t d), nI (xN dr f t d))) := by
  have hu : ∀ b, b < 100 → ((if nI t < nI d - 1 then nI t else nI d - 1) < nI b ↔ (t + 1 ≤ b ∨ d ≤ b)) := by
    intro b hb
    by_cases hc : nI t < nI d - 1
    · rw [if_pos hc]
      rw [Int32.lt_iff_toInt_lt, pred_toInt (by omega), nI_toInt (by omega)] at hc
      rw [Int32.lt_iff_toInt_lt, nI_toInt (by omega), nI_toInt (by omega)]
      omega
    · rw [if_neg hc]
      rw [Int32.lt_iff_toInt_lt, pred_toInt (by omega), nI_toInt (by omega)] at hc
      rw [Int32.lt_iff_toInt_lt, pred_toInt (by omega), nI_toInt (by omega)]
      omega
  generalize (if nI t < nI d - 1 then nI t else nI d - 1) = u at hu
  have a0 : aN dr f t f = 0 := by
    have := aN_out (dr := dr) (f := f) (t := t) (lo := 0) f (fun b _ hb => by omega)
    rw [Nat.zero_add] at this
    exact this
  have x0 : xN dr f t f = 0 := by
    have := xN_out (dr := dr) (f := f) (t := t) (lo := 0) f (fun b _ hb => by omega)
    rw [Nat.zero_add] at this
    exact this
  have fin : aN dr f t (f + (min d (t + 1) - f)) = aN dr f t d ∧ xN dr f t (f + (min d (t + 1) - f)) = xN dr f t d := by
    by_cases h1 : d ≤ f
    · rw [show f + (min d (t + 1) - f) = f by omega, a0, x0]
      have a1 := aN_out (dr := dr) (f := f) (t := t) (lo := 0) d (fun b _ hb => by omega)
      have x1 := xN_out (dr := dr) (f := f) (t := t) (lo := 0) d (fun b _ hb => by omega)
      rw [Nat.zero_add] at a1 x1
      exact ⟨a1.symm, x1.symm⟩
    · by_cases h2 : d ≤ t + 1
      · rw [show f + (min d (t + 1) - f) = d by omega]; exact ⟨rfl, rfl⟩
      · rw [show f + (min d (t + 1) - f) = t + 1 by omega]
        have a1 := aN_out (dr := dr) (f := f) (t := t) (lo := t + 1) (d - (t + 1)) (fun b hb _ => by omega)
        have x1 := xN_out (dr := dr) (f := f) (t := t) (lo := t + 1) (d - (t + 1)) (fun b hb _ => by omega)
        rw [show t + 1 + (d - (t + 1)) = d by omega] at a1 x1
        exact ⟨a1.symm, x1.symm⟩
  rw [← fin.1, ← fin.2]
  refine ok_wh (fun k st => st = (nI (aN dr f t (f + k)), nI (xN dr f t (f + k)), nI (f + k))) (min d (t + 1) - f) (by rw [Nat.add_zero, a0, x0]; rfl) (by omega) ?_ ?_
  · rintro k st hk rfl
    have b1 := aN_b (f := f) (t := t) hdr (f + k)
    have b2 := xN_b (f := f) (t := t) hdr (f + k)
    have b3 := hdr (f + k)
    unfold L_X2_couldHold_54
    simp only []
    refine ok_ifn (fun z => by have := (hu (f + k) (by omega)).mp z; omega) (ok_ifp (inb_n (by omega) (by decide)) (ok_some ?_))
    rw [nI_clamp (by omega), e6 (f + k) (by omega), nI_add, nI_1, show f + (k + 1) = f + k + 1 by omega, aN_s, xN_s, if_pos (show f ≤ f + k ∧ f + k ≤ t by omega)]
    show _ = _
    by_cases hc : xN dr f t (f + k) < dr (f + k)
    · rw [if_pos (nI_lt hc (by omega)), if_pos ⟨by omega, by omega, hc⟩]
    · rw [if_neg (nI_nlt (by omega) (by omega)), if_neg (fun z => hc z.2.2)]
  · rintro st rfl
    unfold L_X2_couldHold_54
    simp only []
    exact ok_ifp ((hu _ (by omega)).mpr (by omega)) (ok_some rfl)
theorem c_could {n ns : Nat} {dr f t : Nat → Nat} {M : Mem} {d k : Nat} (hB : FB n ns dr f t M) (hn : n ≤ 16) (h8 : ns ≤ 8) (hdr : ∀ b, dr b ≤ 9) (hd : d ≤ n) (hk : k ≤ 16) : ok (f_X2_couldHold (nI d - 1) (nI k) M) (fun v => (v = 0 ∧ ∀ m, ¬ Gd ns dr f t (laM M) d k m) ∨ (v = 1 ∧ (k = 0 → ∀ s, s < ns → laM M s ≤ 0))) := by
  obtain ⟨-, e8, e6, es⟩ := hB
  unfold f_X2_couldHold
  refine ok_bind (P := fun e => (e = Sum.inl () ∧ ∀ m, ¬ Gd ns dr f t (laM M) d k m) ∨ (e = Sum.inr () ∧ (k = 0 → ∀ s, s < ns → laM M s ≤ 0))) ?_ ?_
  · refine ok_wh (fun j s => s = nI j ∧ (k = 0 → ∀ s, s < j → laM M s ≤ 0)) ns ⟨rfl, fun _ s hs => by cases hs⟩ (by omega) ?_ ?_
    · rintro j s hj ⟨rfl, hz⟩
      obtain ⟨e10, e11, ft, tn⟩ := es j hj
      have cont : laM M j ≤ 0 ∨ k ≠ 0 → (k = 0 → ∀ s, s < j + 1 → laM M s ≤ 0) := by
        intro hc h0 s hs
        by_cases e : s = j
        · subst e
          rcases hc with hc | hc
          · exact hc
          · exact absurd h0 hc
        · exact hz h0 s (by omega)
      unfold L_X2_couldHold_2
      simp only [e8, nI_clamp (show j < 2 ^ 31 by omega), e10, e11]
      refine ok_ifn (nI_ge hj (by omega)) (ok_ifp (inb_n (by omega) (by decide)) ?_)
      by_cases h0 : M 44 0 j ≤ 0
      · refine ok_ifp h0 ?_
        rw [Int32.mul_zero, if_neg (show ¬ (0 : Int32) < 0 by decide)]
        exact ok_ifp h0 (ok_some ⟨nI_1 j, cont (Or.inl (Int32.le_iff_toInt_le.mp h0))⟩)
      · refine ok_ifn h0 (ok_bind (c_could1 hn hdr e6 ft tn hd) ?_)
        rintro ⟨x4, x5⟩ he
        obtain ⟨rfl, rfl⟩ := Prod.mk.inj he
        have b1 := aN_b (f := f j) (t := t j) hdr d
        have b2 := xN_b (f := f j) (t := t j) hdr d
        have b3 : k * xN dr (f j) (t j) d ≤ 16 * 9 := Nat.mul_le_mul hk b2
        have em : (if nI k * nI (xN dr (f j) (t j) d) < nI (aN dr (f j) (t j) d) then nI k * nI (xN dr (f j) (t j) d) else nI (aN dr (f j) (t j) d)) = nI (min (k * xN dr (f j) (t j) d) (aN dr (f j) (t j) d)) := by
          rw [nI_mul]
          by_cases hc : k * xN dr (f j) (t j) d < aN dr (f j) (t j) d
          · rw [if_pos (nI_lt hc (by omega)), Nat.min_eq_left (by omega)]
          · rw [if_neg (nI_nlt (by omega) (by omega)), Nat.min_eq_right (by omega)]
        show ok (if M 44 0 j ≤ (if nI k * nI (xN dr (f j) (t j) d) < nI (aN dr (f j) (t j) d) then nI k * nI (xN dr (f j) (t j) d) else nI (aN dr (f j) (t j) d)) then _ else _) _
        rw [em]
        by_cases hc : M 44 0 j ≤ nI (min (k * xN dr (f j) (t j) d) (aN dr (f j) (t j) d))
        · refine ok_ifp hc (ok_some ⟨nI_1 j, cont ?_⟩)
          by_cases hk0 : k = 0
          · left
            rw [hk0, Nat.zero_mul, Nat.zero_min] at hc
            exact Int32.le_iff_toInt_le.mp hc
          · exact Or.inr hk0
        · refine ok_ifn hc (ok_some (Or.inl ⟨rfl, ?_⟩))
          rintro m ⟨-, g2, g3⟩
          have w1 := wN_a dr (f j) (t j) m d
          have w2 := wN_x dr (f j) (t j) m d
          rw [g2] at w2
          have g4 := g3 j hj
          apply hc
          rw [Int32.le_iff_toInt_le, nI_toInt (by omega)]
          unfold laM at g4
          omega
    · rintro s ⟨rfl, hz⟩
      unfold L_X2_couldHold_2
      simp only [e8]
      exact ok_ifp (nI_le (Nat.le_refl _) (by omega)) (ok_some (Or.inr ⟨rfl, hz⟩))
  · rintro e (⟨rfl, h⟩ | ⟨rfl, h⟩)
    · exact ok_some (Or.inl ⟨rfl, h⟩)
    · exact ok_some (Or.inr ⟨rfl, h⟩)
theorem c_drain {n ns : Nat} {dr f t : Nat → Nat} {M : Mem} {b : Nat} {w : Int32} (hB : FB n ns dr f t M) (hn : n ≤ 16) (h8 : ns ≤ 8) (hb : b < 16) : ok (f_X2_drain (nI b) w M) (fun M' => fr [44] M M' ∧ ∀ j, M' 44 0 j = if j < ns ∧ f j ≤ b ∧ b ≤ t j then M 44 0 j - w else M 44 0 j) := by
  obtain ⟨-, e8, e6, es⟩ := hB
  unfold f_X2_drain
  refine ok_bind (P := fun M' => fr [44] M M' ∧ ∀ j, M' 44 0 j = if j < ns ∧ f j ≤ b ∧ b ≤ t j then M 44 0 j - w else M 44 0 j) ?_ (fun _ h => ok_some h)
  refine ok_wh (fun k s => s.1 = nI k ∧ fr [44] M s.2 ∧ ∀ j, s.2 44 0 j = if j < k ∧ f j ≤ b ∧ b ≤ t j then M 44 0 j - w else M 44 0 j) ns ⟨rfl, fr_rfl, fun j => by rw [if_neg (by omega)]⟩ (by omega) ?_ ?_
  · rintro k ⟨y, M1⟩ hk ⟨e1, f1, o1⟩
    simp only at e1 f1 o1
    subst e1
    obtain ⟨e10, e11, ft, tn⟩ := es k hk
    have same : ¬ (f k ≤ b ∧ b ≤ t k) → ∀ j, M1 44 0 j = if j < k + 1 ∧ f j ≤ b ∧ b ≤ t j then M 44 0 j - w else M 44 0 j := by
      intro hc j
      rw [o1 j]
      by_cases e : j = k
      · subst e
        rw [if_neg (by omega), if_neg (fun z => hc z.2)]
      · by_cases hj : j < k
        · by_cases h2 : f j ≤ b ∧ b ≤ t j
          · rw [if_pos ⟨hj, h2⟩, if_pos ⟨by omega, h2⟩]
          · rw [if_neg (fun z => h2 z.2), if_neg (fun z => h2 z.2)]
        · rw [if_neg (by omega), if_neg (by omega)]
    unfold L_X2_drain_2
    simp only [f1 3 (by decide), f1 10 (by decide), f1 11 (by decide), e8, e10, e11, nI_clamp (show k < 2 ^ 31 by omega)]
    refine ok_ifn (nI_ge hk (by omega)) (ok_ifp (inb_n (by omega) (by decide)) ?_)
    by_cases h1 : f k ≤ b
    · refine ok_ifn (nI_nlt h1 (by omega)) ?_
      by_cases h2 : b ≤ t k
      · refine ok_ifn (nI_nlt h2 (by omega)) (ok_some ⟨nI_1 k, fr_u3 f1 (by decide), fun j => ?_⟩)
        show am_u3 M1 44 0 k (M1 44 0 k - w) 44 0 j = _
        by_cases e : j = k
        · subst e
          rw [u3_e, o1 j, if_neg (by omega), if_pos ⟨by omega, h1, h2⟩]
        · rw [u3_j (by omega), o1 j]
          by_cases hj : j < k
          · by_cases h2 : f j ≤ b ∧ b ≤ t j
            · rw [if_pos ⟨hj, h2⟩, if_pos ⟨by omega, h2⟩]
            · rw [if_neg (fun z => h2 z.2), if_neg (fun z => h2 z.2)]
          · rw [if_neg (by omega), if_neg (by omega)]
      · exact ok_ifp (nI_lt (by omega) (by omega)) (ok_some ⟨nI_1 k, f1, same (by omega)⟩)
    · exact ok_ifp (nI_lt (by omega) (by omega)) (ok_some ⟨nI_1 k, f1, same (by omega)⟩)
  · rintro ⟨y, M1⟩ ⟨e1, f1, o1⟩
    simp only at e1 f1 o1
    subst e1
    unfold L_X2_drain_2
    simp only [f1 3 (by decide), e8]
    exact ok_ifp (nI_le (Nat.le_refl _) (by omega)) (ok_some ⟨f1, o1⟩)
theorem or_hi {T d : Nat} (hd : d < 31) (h : T < 2 ^ d) : nI T ||| ((1 : Int32) <<< (nI d &&& 31)) = nI (2 ^ d + T) := by
  apply b_ext
  intro i hi
  rw [b_or, bt_nI _ hi, b_one (by omega) hi, bt_nI _ hi]
  rcases Nat.lt_trichotomy i d with z | z | z
  · rw [hi_b i z, decide_eq_false (by omega), Bool.or_false]
  · subst z
    rw [hi_d h, decide_eq_true rfl, Bool.or_true]
  · have h1 : 2 ^ (d + 1) ≤ 2 ^ i := Nat.pow_le_pow_right (by decide) (by omega)
    rw [Nat.pow_succ] at h1
    rw [decide_eq_false (by omega), Bool.or_false, Nat.testBit_lt_two_pow (by omega), Nat.testBit_lt_two_pow (by omega)]
theorem Gd_c {ns : Nat} {dr f t : Nat → Nat} {la la' : Nat → Int} {d k m : Nat} (h : ∀ s, s < ns → la s = la' s) : Gd ns dr f t la d k m ↔ Gd ns dr f t la' d k m := by
  unfold Gd
  constructor
  · rintro ⟨h1, h2, h3⟩
    exact ⟨h1, h2, fun s hs => by rw [← h s hs]; exact h3 s hs⟩
  · rintro ⟨h1, h2, h3⟩
    exact ⟨h1, h2, fun s hs => by rw [h s hs]; exact h3 s hs⟩
theorem Bst_c {ns : Nat} {dr f t : Nat → Nat} {la la' : Nat → Int} {d k m : Nat} (h : ∀ s, s < ns → la s = la' s) (hb : Bst ns dr f t la d k m) : Bst ns dr f t la' d k m :=
  ⟨(Gd_c h).mp hb.1, fun m' h' => hb.2 m' ((Gd_c h).mpr h')⟩
theorem c_choose {n ns : Nat} {dr f t : Nat → Nat} (hn : n ≤ 16) (h8 : ns ≤ 8) (hdr : ∀ b, dr b ≤ 9) : ∀ (d F k : Nat) (M : Mem), d < F → d ≤ n → k ≤ 16 → FB n ns dr f t M → (∀ s, s < ns → -(9 * (16 - (d : Int))) ≤ laM M s ∧ laM M s ≤ 40) → M 43 0 2 = 0 → ok (rec_choose F (nI d - 1) (nI k) M) (fun r => (r.1 = 1 ∧ fr [43, 44] M r.2 ∧ ∃ m, Bst ns dr f t (laM M) d k m ∧ r.2 43 0 2 = nI m) ∨ (r.1 = 0 ∧ fr [43, 44] M r.2 ∧ (∀ m, ¬ Gd ns dr f t (laM M) d k m) ∧ r.2 43 0 2 = 0 ∧ ∀ j, r.2 44 0 j = M 44 0 j))
  | _, 0, _, _, h, _, _, _, _, _ => by omega
  | d, F + 1, k, M, hF, hd, hk, hB, hla, h43 => by
    unfold rec_choose f_RX2_choose
    refine ok_bind (c_could hB hn h8 hdr hd hk) ?_
    rintro v (⟨rfl, hno⟩ | ⟨rfl, h0⟩)
    · exact ok_ifp rfl (ok_some (Or.inr ⟨rfl, fr_rfl, hno, h43, fun _ => rfl⟩))
    · refine ok_ifn (by decide) ?_
      by_cases hk0 : k = 0
      · refine ok_ifp (by rw [hk0]; rfl) (ok_some (Or.inl ⟨rfl, fr_rfl, 0, ⟨⟨Nat.two_pow_pos d, by rw [pc_z, hk0], fun s hs => ?_⟩, fun m' _ => Nat.zero_le _⟩, h43⟩))
        have := h0 hk0 s hs
        omega
      · refine ok_ifn (nI_ne0 (by omega) (by omega)) ?_
        match d, hF, hd, hla with
        | 0, hF, hd, hla =>
          refine ok_ifn (by decide) (ok_some (Or.inr ⟨rfl, fr_rfl, ?_, h43, fun _ => rfl⟩))
          rintro m ⟨-, g, -⟩
          exact hk0 g.symm
        | d + 1, hF, hd, hla =>
          have c9 := hdr d
          rw [nI_pred]
          refine ok_ifp (nI_pos' (by omega)) (ok_bind (c_choose hn h8 hdr d F k M (by omega) (by omega) hk hB (fun s hs => by have := hla s hs; omega) h43) ?_)
          rintro ⟨v, M5⟩ (⟨e1, f1, m, g1, g2⟩ | ⟨e1, f1, g1, g2, g3⟩)
          · simp only at e1 f1 g2
            subst e1
            exact ok_ifn (by decide) (ok_some (Or.inl ⟨rfl, f1, m, Bst_lo g1, g2⟩))
          · simp only at e1 f1 g2 g3
            subst e1
            refine ok_ifp rfl (ok_ifp (inb_n (by omega) (by decide)) ?_)
            rw [nI_clamp (show d < 2 ^ 31 by omega)]
            have hB5 := FB_fr hB f1
            refine ok_bind (c_drain hB5 hn h8 (by omega)) ?_
            rintro M8 ⟨f8, o8⟩
            have F8 : fr [43, 44] M M8 := fr_tr f1 (fr_mono f8 (by decide))
            have hB8 := FB_fr hB F8
            have e6 : M5 6 0 d = nI (dr d) := hB5.2.2.1 d (by omega)
            have l8 : ∀ s, s < ns → laM M8 s = laD dr f t d (laM M) s := by
              intro s hs
              unfold laM laD
              rw [o8 s, g3 s, e6]
              by_cases hc : f s ≤ d ∧ d ≤ t s
              · have := hla s hs
                unfold laM at this
                rw [if_pos ⟨hs, hc⟩, if_pos hc, sub_toInt (by omega) (by omega) (by omega)]
              · rw [if_neg (fun z => hc z.2), if_neg hc]
                show _ = (M 44 0 s).toInt - 0
                omega
            have hB9 : ∀ s, s < ns → -(9 * (16 - (d : Int))) ≤ laM M8 s ∧ laM M8 s ≤ 40 := by
              intro s hs
              have := hla s hs
              rw [l8 s hs]
              unfold laD
              split <;> omega
            rw [show nI k - 1 = nI (k - 1) from nI_sub (b := 1) (by omega)]
            refine ok_bind (c_choose hn h8 hdr d F (k - 1) M8 (by omega) (by omega) (by omega) hB8 hB9 (by rw [f8 43 (by decide)]; exact g2)) ?_
            rintro ⟨v, M9⟩ (⟨e9, f9, m, q1, q2⟩ | ⟨e9, f9, q1, q2, q3⟩)
            · simp only at e9 f9 q2
              subst e9
              refine ok_ifn (by decide) (ok_some (Or.inl ⟨rfl, fr_u3 (fr_tr F8 f9) (by decide), 2 ^ d + m, Bst_hi (by omega) g1 (Bst_c l8 q1), ?_⟩))
              show am_u3 M9 43 0 2 (M9 43 0 2 ||| ((1 : Int32) <<< (nI d &&& 31))) 43 0 2 = nI (2 ^ d + m)
              rw [u3_e, q2, or_hi (by omega) q1.1.1]
            · simp only at e9 f9 q2 q3
              subst e9
              refine ok_ifp rfl (ok_bind (c_drain (FB_fr hB8 f9) hn h8 (by omega)) ?_)
              rintro M11 ⟨f11, o11⟩
              refine ok_some (Or.inr ⟨rfl, fr_tr F8 (fr_tr f9 (fr_mono f11 (by decide))), Gd_no (by omega) g1 (fun m z => q1 m ((Gd_c l8).mpr z)), ?_, fun j => ?_⟩)
              · show M11 43 0 2 = 0
                rw [f11 43 (by decide)]; exact q2
              · show M11 44 0 j = _
                have e69 : M9 6 0 d = M5 6 0 d := by rw [f9 6 (by decide), f8 6 (by decide)]
                rw [o11 j, q3 j, o8 j, g3 j, e69]
                by_cases hc : j < ns ∧ f j ≤ d ∧ d ≤ t j
                · rw [if_pos hc, if_pos hc]
                  generalize M5 6 0 d = w
                  generalize M 44 0 j = x
                  grind
                · rw [if_neg hc, if_neg hc]
