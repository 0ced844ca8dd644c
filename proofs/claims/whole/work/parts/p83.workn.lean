/-! WORKS: the model reads a STEP, and all -/
theorem MS_w {T : Nat → Nat} {n p : Nat} {M M' : Mem} (h : MS T n p M) (e55 : M' 55 = M 55) (e : ∀ j, j ∈ [1, 2, 4, 5] → M' 54 0 j = M 54 0 j) : MS T n p M' := by
  obtain ⟨⟨h1, h2, h3, h4⟩, h5, h6, h7⟩ := h
  exact ⟨⟨(e 2 (by decide)).trans h1, h2, (e 1 (by decide)).trans h3, fun j hj => by rw [e55]; exact h4 j hj⟩, h5, (e 4 (by decide)).trans h6, (e 5 (by decide)).trans h7⟩
theorem MF_w {T : Nat → Nat} {n k q : Nat} {M M' : Mem} (h : MF T n k q M) (e55 : M' 55 = M 55) (e : ∀ j, j ∈ [1, 2, 4, 5, 6] → M' 54 0 j = M 54 0 j) : MF T n k q M' := by
  obtain ⟨⟨h1, h2, h3, h4⟩, h5, h6, h7, p, hp, h8⟩ := h
  exact ⟨⟨(e 2 (by decide)).trans h1, h2, (e 1 (by decide)).trans h3, fun j hj => by rw [e55]; exact h4 j hj⟩, (e 5 (by decide)).trans h5, h6, (e 6 (by decide)).trans h7, p, hp, (e 4 (by decide)).trans h8⟩
theorem LQ_w {T : Nat → Nat} {n m c v : Nat} {X : RW} {M : Mem} (h : LQ T n (m + 1) (c + 1) X M) (h1 : M 71 (c + 1) 0 = 4) (h2 : ∀ x, X = Sum.inl x → M 71 (c + 1) 1 = nI v) : LQ T n m c (xW v X) (am_u3 (am_u3 M 54 0 8 (M 54 0 8 - 1)) 71 (c + 1) 2 (M 54 0 28)) ∧ wmm c M (am_u3 (am_u3 M 54 0 8 (M 54 0 8 - 1)) 71 (c + 1) 2 (M 54 0 28)) := by
  refine ⟨?_, wmm_r (wmm_u wmm_rfl (by decide))⟩
  rcases X with x | f
  · obtain ⟨s, e8, a, b⟩ := h
    refine ⟨MS_w s (by rw [u3_c (by decide), u3_c (by decide)]) (fun j hj => by rw [u3_c (by decide), u3_j (by rintro ⟨-, rfl⟩; revert hj; decide)]), ?_, ?_, fun i hi => ?_⟩
    · rw [u3_c (by decide), u3_e, e8, nI_sub1 (by omega)]; rfl
    · rw [u3_c (by decide), u3_j (by omega), a]
      show nI (c + 1 + x.2.length) = nI (c + ((4, v, x.2.length + 1) :: x.2).length)
      rw [List.length_cons, show c + 1 + x.2.length = c + (x.2.length + 1) by omega]
    · cases i with
      | zero =>
        rw [Nat.add_zero]
        refine ⟨?_, fun _ => ?_, ?_⟩
        · rw [u3_j (by omega), u3_c (by decide), h1]; rfl
        · rw [u3_j (by omega), u3_c (by decide), h2 x rfl]; rfl
        · rw [u3_e, a]
          show nI (c + 1 + x.2.length) = nI (c + (x.2.length + 1))
          rw [show c + 1 + x.2.length = c + (x.2.length + 1) by omega]
      | succ i =>
        have hi2 : i < x.2.length := by simpa using hi
        have := b i hi2
        rw [show c + (i + 1) = c + 1 + i by omega, u3_rr (by omega), u3_c (by decide)]
        exact this
  · exact MF_w h (by rw [u3_c (by decide), u3_c (by decide)]) (fun j hj => by rw [u3_c (by decide), u3_j (by rintro ⟨-, rfl⟩; revert hj; decide)])
theorem m_stepW {T : Nat → Nat} {n nb d : Nat} {r : Mem → Option Mem} (hn : n ≤ 150) (hnb : nb ≤ 16) (hd : d ≤ 6) (hr : ∀ d', d = d' + 1 → mSt T n nb (6 - d') r (stP T n nb (rwO T n nb d'))) : mSt T n nb (6 - d) (f_RX12_readsStep r) (stP T n nb (rwO T n nb d)) := by
  intro p M c h h58 h8 h28 hcp
  have hs := sk_f (T := T) h.2.1
  have hle := lE_f (T := T) hs.2.1
  obtain ⟨s1, m1, -⟩ := m_again h
  unfold f_RX12_readsStep
  refine ok_bindE (m_step h) ?_
  have w1 : wmm c M (am_u3 M 54 0 4 (nI (sk T n p))) := wmm_m m1
  have e58 : (am_u3 M 54 0 4 (nI (sk T n p))) 58 0 0 = nI nb := by rw [u3_c (by decide)]; exact h58
  have e8 : (am_u3 M 54 0 4 (nI (sk T n p))) 54 0 8 = nI (6 - d) := (u3_j (by omega)).trans h8
  have e28 : (am_u3 M 54 0 4 (nI (sk T n p))) 54 0 28 = nI c := (u3_j (by omega)).trans h28
  generalize am_u3 M 54 0 4 (nI (sk T n p)) = M1 at s1 w1 e58 e8 e28
  dsimp only
  by_cases hw : wrd T n nm5 p = -1
  · rw [if_pos hw, hw, if_neg (by decide), s1.2.2.1]
    have b := MS_b (k := 1) (q := sk T n p) s1 (by decide)
    have eu : stP T n nb (rwO T n nb d) p = Sum.inr (1, sk T n p) := by unfold stP; rw [if_pos hw]
    rw [eu]
    exact ok_ifn (show ¬ (f_X12_wrong 1 (nI (sk T n p)) M1) 54 0 5 = 0 from MF_ne b.1) (ok_some ⟨wmm_tr w1 (wmm_m b.2.1) (Nat.le_refl _), b.1⟩)
  · rw [if_neg hw]
    obtain ⟨k, k5, ek, kl, kl4⟩ := wrd5 hw
    -- the word is skipped
    have skp : ∀ (m' : Nat) (M2 : Mem), MS T n (sk T n p) M2 → f_X12_skipWord M2 = some (am_u3 M2 54 0 4 (nI (lE T n (sk T n p)))) ∧ MS T n (lE T n (sk T n p)) (am_u3 M2 54 0 4 (nI (lE T n (sk T n p)))) ∧ mmv M2 (am_u3 M2 54 0 4 (nI (lE T n (sk T n p)))) := by
      intro _ M2 s2
      have mv : mmv M2 (am_u3 M2 54 0 4 (nI (lE T n (sk T n p)))) := mmv_u mmv_rfl (by decide)
      exact ⟨m_skipW s2.1 s2.2.1 s2.2.2.1, ⟨MT_m s2.1 mv, hle.2.1, u3_e _ _ _ _ _, (u3_j (by omega)).trans s2.2.2.2⟩, mv⟩
    have c80 : c < 80 := by omega
    by_cases h4 : wrd T n nm5 p = 4
    · rw [if_pos h4]
      have hk4 : k = 4 := (nI_eq (b := 4) (by omega) (by decide)).mp (ek.symm.trans h4)
      have kl5 := kl4 hk4
      have md : MD (6 - d) [] (am_u3 M1 54 0 20 0) := ⟨(u3_j (by omega)).trans e8, u3_e _ _ _ _ _, fun i hi => by cases hi⟩
      cases d with
      | zero =>
        have eu : stP T n nb (rwO T n nb 0) p = Sum.inr (3, sk T n p) := by unfold stP; rw [if_neg hw, if_pos h4]; rfl
        have b := MS_b (k := 3) (q := sk T n p) s1 (by decide)
        have o6 : f_X12_opensOne M1 = (0, f_X12_wrong (nI 3) (nI (sk T n p)) M1) := by
          unfold f_X12_opensOne
          rw [if_pos s1.2.2.2, e8, if_pos (by decide), s1.2.2.1]
          exact if_neg (show ¬ (f_X12_wrong 3 (nI (sk T n p)) M1) 54 0 5 = 0 from MF_ne b.1)
        rw [o6, eu]
        exact ok_ifp rfl (ok_some ⟨wmm_tr w1 (wmm_m b.2.1) (Nat.le_refl _), b.1⟩)
      | succ d' =>
        have hS' := hr d' rfl
        have eu0 : stP T n nb (rwO T n nb (d' + 1)) p = bd (num T n 0 61 (lE T n (sk T n p))) (fun x => bd (exq T n 91 x.1) (fun e1 => bd (rwD T n nb d' e1) (fun y => bd (exq T n 93 y.1) (fun e3 => bd (exq T n 59 e3) (fun e4 => Sum.inl (e4, (4, x.2, y.2.length + 1) :: y.2)))))) := by unfold stP; rw [if_neg hw, if_pos h4]; rfl
        have om : f_X12_opensOne M1 = (1, am_u3 M1 54 0 8 (nI (6 - (d' + 1) + 1))) := by
          unfold f_X12_opensOne
          rw [if_pos s1.2.2.2, e8, if_neg (show ¬ nI (6 - (d' + 1)) = 6 from fun z => by have := (nI_eq (b := 6) (by omega) (by decide)).mp z; omega), nI_1]
        rw [om]
        refine ok_ifn (show ¬ (1 : Int32) = 0 by decide) ?_
        dsimp only
        have s2 : MS T n (sk T n p) (am_u3 M1 54 0 8 (nI (6 - (d' + 1) + 1))) := MS_u8 s1
        have w2 : wmm c M (am_u3 M1 54 0 8 (nI (6 - (d' + 1) + 1))) := wmm_u w1 (by decide)
        have f8 : (am_u3 M1 54 0 8 (nI (6 - (d' + 1) + 1))) 54 0 8 = nI (6 - (d' + 1) + 1) := u3_e _ _ _ _ _
        have f28 : (am_u3 M1 54 0 8 (nI (6 - (d' + 1) + 1))) 54 0 28 = nI c := (u3_j (by omega)).trans e28
        have f58 : (am_u3 M1 54 0 8 (nI (6 - (d' + 1) + 1))) 58 0 0 = nI nb := by rw [u3_c (by decide)]; exact e58
        generalize am_u3 M1 54 0 8 (nI (6 - (d' + 1) + 1)) = M2 at s2 w2 f8 f28 f58
        refine ok_ifp s2.2.2.2 ?_
        obtain ⟨sk1, s3, m3⟩ := skp 0 M2 s2
        refine ok_bindE sk1 ?_
        have w3 : wmm c M (am_u3 M2 54 0 4 (nI (lE T n (sk T n p)))) := wmm_tr w2 (wmm_m m3) (Nat.le_refl _)
        have g8 := (m3.2 8 (by decide)).trans f8
        have g28 := (m3.2 28 (by decide)).trans f28
        generalize am_u3 M2 54 0 4 (nI (lE T n (sk T n p))) = M3 at s3 m3 w3 g8 g28
        refine ok_ifp (by rw [g28]; exact inb_n c80 (by decide)) (ok_ifp (by rw [h4]; decide) ?_)
        rw [g28, nI_clamp (show c < 2 ^ 31 by omega), nI_1]
        have s4 : MS T n (lE T n (sk T n p)) (am_u3 (am_u3 M3 54 0 28 (nI (c + 1))) 71 (c + 1) 0 (wrd T n nm5 p)) := MS_w s3 (by rw [u3_c (by decide), u3_c (by decide)]) (fun j hj => by rw [u3_c (by decide), u3_j (by rintro ⟨-, rfl⟩; revert hj; decide)])
        have w4 : wmm c M (am_u3 (am_u3 M3 54 0 28 (nI (c + 1))) 71 (c + 1) 0 (wrd T n nm5 p)) := wmm_r (wmm_u w3 (by decide))
        have q8 : (am_u3 (am_u3 M3 54 0 28 (nI (c + 1))) 71 (c + 1) 0 (wrd T n nm5 p)) 54 0 8 = nI (6 - (d' + 1) + 1) := by rw [u3_c (by decide), u3_j (by omega)]; exact g8
        have q28 : (am_u3 (am_u3 M3 54 0 28 (nI (c + 1))) 71 (c + 1) 0 (wrd T n nm5 p)) 54 0 28 = nI (c + 1) := by rw [u3_c (by decide), u3_e]
        have q0 : (am_u3 (am_u3 M3 54 0 28 (nI (c + 1))) 71 (c + 1) 0 (wrd T n nm5 p)) 71 (c + 1) 0 = 4 := by rw [u3_e]; exact h4
        generalize am_u3 (am_u3 M3 54 0 28 (nI (c + 1))) 71 (c + 1) 0 (wrd T n nm5 p) = M4 at s4 w4 q8 q28 q0
        refine ok_bind (m_num (a := 0) (b := 61) s4 (by decide) (by decide)) ?_
        rintro ⟨v, M5⟩ ⟨c5, m5⟩
        simp only at c5 m5
        dsimp only
        have w5 : wmm c M (am_u3 M5 71 (c + 1) 1 v) := wmm_r (wmm_tr w4 (wmm_m m5) (Nat.le_refl _))
        have r0 : (am_u3 M5 71 (c + 1) 1 v) 71 (c + 1) 0 = 4 := by rw [u3_j (by omega), m5.1 71 (by decide)]; exact q0
        generalize hN : num T n 0 61 (lE T n (sk T n p)) = X at c5
        have key : ∃ v', LQ T n (6 - (d' + 1) + 1) (c + 1) (bd X (fun x => Sum.inl (x.1, []))) (am_u3 M5 71 (c + 1) 1 v) ∧ (∀ x, X = Sum.inl x → v' = x.2 ∧ (am_u3 M5 71 (c + 1) 1 v) 71 (c + 1) 1 = nI x.2) ∧ (∀ x, X = Sum.inl x → x.1 ≤ n ∧ 5 * (c + 1) ≤ x.1) := by
          rcases X with x | f
          · obtain ⟨rfl, s5⟩ := c5
            have gx := num_f (e := x.1) (v := x.2) hle.2.1 hN
            refine ⟨x.2, ⟨MS_w s5 (u3_c (by decide)) (fun j hj => by rw [u3_c (by decide)]), ?_, ?_, fun i hi => by cases hi⟩, fun z hz => ?_, fun z hz => ?_⟩
            · rw [u3_c (by decide), m5.2 8 (by decide)]; exact q8
            · rw [u3_c (by decide), m5.2 28 (by decide)]; exact q28
            · injection hz with hz; subst hz; exact ⟨rfl, u3_e _ _ _ _ _⟩
            · injection hz with hz; subst hz; exact ⟨gx.2.2.2, by omega⟩
          · obtain ⟨rfl, s5⟩ := c5
            exact ⟨0, MF_w s5 (u3_c (by decide)) (fun j hj => by rw [u3_c (by decide)]), fun z hz => (by cases hz), fun z hz => (by cases hz)⟩
        obtain ⟨v', l5, hv, hx⟩ := key
        have f58' : (am_u3 M5 71 (c + 1) 1 v) 58 0 0 = nI nb := by rw [w5.1 58 (by decide)]; exact h58
        generalize am_u3 M5 71 (c + 1) 1 v = M6 at w5 r0 l5 hv f58'
        refine ok_bind (LQ_e (ch := 91) (by decide) l5) ?_
        rintro M7 ⟨m7, l7⟩
        have hrow : ok (Option.bind (f_X12_blanks M7) (fun M18 => wh (L_RX12_readsStep_114 r) FU M18)) (fun M8 => wmm (c + 1) M7 M8 ∧ LQ T n (6 - (d' + 1) + 1) (c + 1) (bd (xQ T n 91 (bd X (fun x => Sum.inl (x.1, [])))) (fun y => rwD T n nb d' y.1)) M8) := by
          have dead : ∀ f : Nat × Nat, MF T n f.1 f.2 M7 → ok (Option.bind (f_X12_blanks M7) (fun M18 => wh (L_RX12_readsStep_114 r) FU M18)) (fun M8 => wmm (c + 1) M7 M8 ∧ MF T n f.1 f.2 M8) := by
            intro f hf
            refine ok_bind (m_blF hf) ?_
            rintro M18 ⟨mm, ss⟩
            exact ok_of (wh_out (n := 99999) (b_in (T := T) (n := n).1 M18 (MF_ne ss))) ⟨wmm_m mm, ss⟩
          rcases X with x | f
          · have e0 : xQ T n 91 (bd (Sum.inl x : (Nat × Nat) ⊕ (Nat × Nat)) (fun x => Sum.inl (x.1, []))) = bd (exq T n 91 x.1) (fun e => Sum.inl (e, [])) := rfl
            rw [e0] at l7 ⊢
            obtain ⟨hx1, hx2⟩ := hx x rfl
            generalize hE : exq T n 91 x.1 = Y at l7
            rcases Y with e | f
            · have ge := exq_f hx1 hE
              obtain ⟨s7, t8, t28, -⟩ := l7
              obtain ⟨s8, m8, -⟩ := m_again s7
              have hse : e ≤ sk T n e := (sk_f (T := T) s7.2.1).1
              refine ok_bindE (m_blanks s7.1 s7.2.1 s7.2.2.1) ?_
              have hm6 : 6 - (d' + 1) + 1 = 6 - d' := by omega
              rw [hm6] at t8 ⊢
              have hr2 := m_rowW (nest := true) (S := rwO T n nb d') hn b_in hS' (st_ok (T := T) (nb := nb) (d := d') rwO_ok) (st_l rwO_d) (sk T n e) _ (c + 1) s8 (sk_sk s7.2.1) (by rw [m8.1 58 (by decide), m7.1 58 (by decide)]; exact f58') ((m8.2 8 (by decide)).trans t8) ((m8.2 28 (by decide)).trans t28) (by omega)
              refine ok_mono hr2 ?_
              rintro M9 ⟨w9, l9⟩
              refine ⟨wmm_tr (wmm_m m8) w9 (Nat.le_refl _), ?_⟩
              rw [rwP_sk s7.2.1 (by decide), ← rwD_e] at l9
              exact l9
            · exact dead f l7
          · exact dead f l7
        refine ok_bind2 hrow ?_
        rintro M8 ⟨w8, l8⟩
        refine ok_bind (LQ_e (ch := 93) (by decide) l8) ?_
        rintro M9 ⟨m9, l9⟩
        have w69 : wmm (c + 1) M6 M9 := wmm_tr (wmm_m m7) (wmm_tr w8 (wmm_m m9) (Nat.le_refl _)) (Nat.le_refl _)
        have y71 : M9 71 (c + 1) = M6 71 (c + 1) := w69.2.2 (c + 1) (Nat.le_refl _)
        obtain ⟨l10, w10⟩ := LQ_w (v := v') (m := 6 - (d' + 1)) l9 (by rw [y71]; exact r0) (fun z hz => by
          rw [y71]
          rcases X with x | f
          · have := hv x rfl
            rw [this.2, this.1]
          · cases hz)
        refine ok_bind (LQ_e (ch := 59) (by decide) l10) ?_
        rintro M11 ⟨m11, l11⟩
        refine ok_some ⟨wmm_tr w5 (wmm_tr (c' := c) ⟨w69.1, w69.2.1, fun r hr => w69.2.2 r (by omega)⟩ (wmm_tr w10 (wmm_m m11) (Nat.le_refl _)) (Nat.le_refl _)) (Nat.le_refl _), ?_⟩
        rw [eu0, hN]
        rcases X with x | f
        · have := hv x rfl
          rw [this.1] at l11
          simp only [xQ, xW, bd_as, bd_in] at l11
          simp only [bd_in]
          exact l11
        · exact l11
    · rw [if_neg h4]
      refine ok_ifp s1.2.2.2 ?_
      obtain ⟨sk1, s3, m3⟩ := skp 0 M1 s1
      refine ok_bindE sk1 ?_
      have w3 : wmm c M (am_u3 M1 54 0 4 (nI (lE T n (sk T n p)))) := wmm_tr w1 (wmm_m m3) (Nat.le_refl _)
      have g8 := (m3.2 8 (by decide)).trans e8
      have g28 := (m3.2 28 (by decide)).trans e28
      have g58 : (am_u3 M1 54 0 4 (nI (lE T n (sk T n p)))) 58 0 0 = nI nb := by rw [u3_c (by decide)]; exact e58
      generalize am_u3 M1 54 0 4 (nI (lE T n (sk T n p))) = M3 at s3 m3 w3 g8 g28 g58
      refine ok_ifp (by rw [g28]; exact inb_n c80 (by decide)) ?_
      by_cases h3 : wrd T n nm5 p = 3
      · have eu0 : stP T n nb (rwO T n nb d) p = bd (exq T n 59 (lE T n (sk T n p))) (fun e4 => Sum.inl (e4, [(3, 0, 1)])) := by unfold stP; rw [if_neg hw, if_neg h4, if_pos h3]
        refine ok_ifp (by rw [h3]; decide) ?_
        rw [g28, nI_clamp (show c < 2 ^ 31 by omega), nI_1, h3]
        have l4 : LQ T n (6 - d) c (Sum.inl (lE T n (sk T n p), [(3, 0, 1)])) (am_u3 (am_u3 (am_u3 M3 54 0 28 (nI (c + 1))) 71 (c + 1) 0 3) 71 (c + 1) 2 (nI (c + 1))) := by
          refine ⟨MS_w s3 (by rw [u3_c (by decide), u3_c (by decide), u3_c (by decide)]) (fun j hj => by rw [u3_c (by decide), u3_c (by decide), u3_j (by rintro ⟨-, rfl⟩; revert hj; decide)]), ?_, ?_, fun i hi => ?_⟩
          · rw [u3_c (by decide), u3_c (by decide), u3_j (by omega)]; exact g8
          · rw [u3_c (by decide), u3_c (by decide), u3_e]; rfl
          · have : i = 0 := by simpa using hi
            subst this
            simp only [Nat.add_zero]
            refine ⟨?_, fun z => absurd rfl z, ?_⟩
            · rw [u3_j (by omega), u3_e]; rfl
            · rw [u3_e]; rfl
        have w4 : wmm c M (am_u3 (am_u3 (am_u3 M3 54 0 28 (nI (c + 1))) 71 (c + 1) 0 3) 71 (c + 1) 2 (nI (c + 1))) := wmm_r (wmm_r (wmm_u w3 (by decide)))
        refine ok_bind (LQ_e (ch := 59) (by decide) l4) ?_
        rintro M5 ⟨m5, l5⟩
        rw [eu0]
        exact ok_some ⟨wmm_tr w4 (wmm_m m5) (Nat.le_refl _), l5⟩
      · have eu0 : stP T n nb (rwO T n nb d) p = bd (num T n 0 nb (lE T n (sk T n p))) (fun x => bd (exq T n 59 x.1) (fun e4 => Sum.inl (e4, [(k, x.2, 1)]))) := by unfold stP; rw [if_neg hw, if_neg h4, if_neg h3, ek, nI_clamp (show k < 2 ^ 31 by omega)]
        have hk3 : k < 3 := by
          have : k ≠ 3 := fun z => h3 (by rw [ek, z]; rfl)
          have : k ≠ 4 := fun z => h4 (by rw [ek, z]; rfl)
          omega
        refine ok_ifn (show ¬ (3 : Int32) ≤ wrd T n nm5 p by rw [ek]; exact nI_ge (b := 3) hk3 (by decide)) ?_
        rw [g28, nI_clamp (show c < 2 ^ 31 by omega), nI_1, g58, ek]
        have s4 : MS T n (lE T n (sk T n p)) (am_u3 (am_u3 M3 54 0 28 (nI (c + 1))) 71 (c + 1) 0 (nI k)) := MS_w s3 (by rw [u3_c (by decide), u3_c (by decide)]) (fun j hj => by rw [u3_c (by decide), u3_j (by rintro ⟨-, rfl⟩; revert hj; decide)])
        have w4 : wmm c M (am_u3 (am_u3 M3 54 0 28 (nI (c + 1))) 71 (c + 1) 0 (nI k)) := wmm_r (wmm_u w3 (by decide))
        have q8 : (am_u3 (am_u3 M3 54 0 28 (nI (c + 1))) 71 (c + 1) 0 (nI k)) 54 0 8 = nI (6 - d) := by rw [u3_c (by decide), u3_j (by omega)]; exact g8
        have q28 : (am_u3 (am_u3 M3 54 0 28 (nI (c + 1))) 71 (c + 1) 0 (nI k)) 54 0 28 = nI (c + 1) := by rw [u3_c (by decide), u3_e]
        have q0 : (am_u3 (am_u3 M3 54 0 28 (nI (c + 1))) 71 (c + 1) 0 (nI k)) 71 (c + 1) 0 = nI k := by rw [u3_e]
        generalize am_u3 (am_u3 M3 54 0 28 (nI (c + 1))) 71 (c + 1) 0 (nI k) = M4 at s4 w4 q8 q28 q0
        refine ok_bind (m_num (a := 0) (b := nb) s4 (by decide) (by omega)) ?_
        rintro ⟨v, M5⟩ ⟨c5, m5⟩
        simp only at c5 m5
        dsimp only
        have w5 : wmm c M (am_u3 (am_u3 M5 71 (c + 1) 1 v) 71 (c + 1) 2 (M5 54 0 28)) := wmm_r (wmm_r (wmm_tr w4 (wmm_m m5) (Nat.le_refl _)))
        generalize hN : num T n 0 nb (lE T n (sk T n p)) = X at c5
        have l5 : LQ T n (6 - d) c (bd X (fun x => Sum.inl (x.1, [(k, x.2, 1)]))) (am_u3 (am_u3 M5 71 (c + 1) 1 v) 71 (c + 1) 2 (M5 54 0 28)) := by
          rcases X with x | f
          · obtain ⟨rfl, s5⟩ := c5
            refine ⟨MS_w s5 (by rw [u3_c (by decide), u3_c (by decide)]) (fun j hj => by rw [u3_c (by decide), u3_c (by decide)]), ?_, ?_, fun i hi => ?_⟩
            · rw [u3_c (by decide), u3_c (by decide), m5.2 8 (by decide)]; exact q8
            · rw [u3_c (by decide), u3_c (by decide), m5.2 28 (by decide), q28]; rfl
            · have : i = 0 := by simpa using hi
              subst this
              simp only [Nat.add_zero]
              refine ⟨?_, fun z => ?_, ?_⟩
              · rw [u3_j (by omega), u3_j (by omega), m5.1 71 (by decide)]; exact q0
              · rw [u3_j (by omega), u3_e]; rfl
              · rw [u3_e, m5.2 28 (by decide), q28]; rfl
          · obtain ⟨rfl, s5⟩ := c5
            exact MF_w s5 (by rw [u3_c (by decide), u3_c (by decide)]) (fun j hj => by rw [u3_c (by decide), u3_c (by decide)])
        refine ok_bind (LQ_e (ch := 59) (by decide) l5) ?_
        rintro M6 ⟨m6, l6⟩
        refine ok_some ⟨wmm_tr w5 (wmm_m m6) (Nat.le_refl _), ?_⟩
        rw [eu0, hN]
        simp only [xQ, bd_as, bd_in] at l6
        exact l6
theorem m_stepsD {T : Nat → Nat} {n nb : Nat} (hn : n ≤ 150) (hnb : nb ≤ 16) : ∀ d f, d ≤ 6 → d + 1 ≤ f → mSt T n nb (6 - d) (rec_readsStep f) (stP T n nb (rwO T n nb d)) := by
  intro d
  induction d with
  | zero =>
    intro f _ hf
    obtain ⟨g, rfl⟩ : ∃ g, f = g + 1 := ⟨f - 1, by omega⟩
    exact m_stepW (d := 0) hn hnb (by decide) (fun d' h => by omega)
  | succ d ih =>
    intro f hd hf
    obtain ⟨g, rfl⟩ : ∃ g, f = g + 1 := ⟨f - 1, by omega⟩
    exact m_stepW (d := d + 1) hn hnb hd (fun d' h => by have : d = d' := by omega
                                                         subst this; exact ih g (by omega) (by omega))
