/-! WORKS: the class reads a STEP, and all -/
theorem ok_bindA {α β γ : Type} {a : Option α} {f : α → Option β} {g : β → Option γ} {P : α → Prop} {Q : γ → Prop} (h : ok a P) (k : ∀ x, P x → ok (Option.bind (f x) g) Q) : ok (Option.bind (Option.bind a f) g) Q := by
  obtain ⟨x, rfl, hp⟩ := h
  exact k x hp
def xQ (T : Nat → Nat) (n ch : Nat) (X : RW) : RW := bd X (fun y => bd (exq T n ch y.1) (fun e => Sum.inl (e, y.2)))
def xW (v : Nat) (X : RW) : RW := bd X (fun y => Sum.inl (y.1, (4, v, y.2.length + 1) :: y.2))
theorem LW_e {T : Nat → Nat} {n c ch : Nat} {X : RW} {M : Mem} (hc : ch < 256) (h : LW T n c X M) : ok (f_X10_expect (nI ch) M) (fun M' => cmv M M' ∧ LW T n c (xQ T n ch X) M') := by
  rcases X with x | f
  · obtain ⟨s, a⟩ := h
    refine ok_mono (c_expect s hc) ?_
    rintro M' ⟨r, m⟩
    have e0 : xQ T n ch (Sum.inl x) = bd (exq T n ch x.1) (fun e => Sum.inl (e, x.2)) := rfl
    rw [e0]
    generalize exq T n ch x.1 = Y at r
    rcases Y with e | f
    · exact ⟨m, r, AP_m a m⟩
    · exact ⟨m, r⟩
  · refine ok_mono (c_expectF h hc) ?_
    rintro M' ⟨r, m⟩
    exact ⟨m, r⟩
theorem LW_w {T : Nat → Nat} {n c v : Nat} {X : RW} {M : Mem} (h : LW T n (c + 1) X M) (h1 : M 35 0 c = 4) (h2 : M 36 0 c = nI v) : LW T n c (xW v X) (am_u3 M 37 0 c (M 34 0 3)) ∧ wmv c M (am_u3 M 37 0 c (M 34 0 3)) := by
  refine ⟨?_, fr_u3 fr_rfl (by decide), by rw [u3_c (by decide)], fun j _ => by rw [u3_c (by decide)], fun i hi => ⟨by rw [u3_c (by decide)], by rw [u3_c (by decide)], u3_j (by omega)⟩⟩
  rcases X with x | f
  · obtain ⟨s, a, b⟩ := h
    refine ⟨CS_o s (u3_c (by decide)) (u3_c (by decide)), ?_, fun i hi => ?_⟩
    · rw [u3_c (by decide), a]
      show nI (c + 1 + x.2.length) = nI (c + ((4, v, x.2.length + 1) :: x.2).length)
      rw [List.length_cons, show c + 1 + x.2.length = c + (x.2.length + 1) by omega]
    · cases i with
      | zero =>
        rw [u3_c (by decide), u3_c (by decide), Nat.add_zero, u3_e, h1, h2, a]
        refine ⟨rfl, rfl, ?_⟩
        show nI (c + 1 + x.2.length) = nI (c + (x.2.length + 1))
        rw [show c + 1 + x.2.length = c + (x.2.length + 1) by omega]
      | succ i =>
        have hi2 : i < x.2.length := by simpa using hi
        have := b i hi2
        rw [show c + (i + 1) = c + 1 + i by omega, u3_c (by decide), u3_c (by decide), u3_j (by omega)]
        exact this
  · exact CF_o h (u3_c (by decide)) (u3_c (by decide))
def deeW (T : Nat → Nat) (n nb m : Nat) (rR : Int32 → Int32 → Mem → Option Mem) (S : Option (Nat → RW)) : Prop := (m = 6 ∧ S = none) ∨ (m < 6 ∧ ∃ S', S = some S' ∧ cRw T n nb (m + 1) rR S')
theorem AP_1 {c k v : Nat} {M : Mem} (hc : M 34 0 3 = nI c) : AP c [(k, v, 1)] (am_u3 (am_u3 (am_u3 (am_u3 M 34 0 3 (nI (c + 1))) 35 0 c (nI k)) 36 0 c (nI v)) 37 0 c (nI (c + 1))) := by
  refine ⟨by rw [u3_c (by decide), u3_c (by decide), u3_c (by decide), u3_e]; rfl, fun i hi => ?_⟩
  have : i = 0 := by simpa using hi
  subst this
  simp only [Nat.add_zero]
  rw [u3_c (by decide), u3_c (by decide), u3_e, u3_c (by decide), u3_e, u3_e]
  exact ⟨rfl, rfl, rfl⟩
theorem wmv_4 {c : Nat} {a b d e : Int32} {M : Mem} : wmv c M (am_u3 (am_u3 (am_u3 (am_u3 M 34 0 3 a) 35 0 c b) 36 0 c d) 37 0 c e) := by
  refine ⟨fr_u3 (fr_u3 (fr_u3 (fr_u3 fr_rfl (by decide)) (by decide)) (by decide)) (by decide), ?_, fun j hj => ?_, fun i hi => ⟨?_, ?_, ?_⟩⟩
  · rw [u3_c (by decide), u3_c (by decide), u3_c (by decide), u3_c (by decide)]
  · rw [u3_c (by decide), u3_c (by decide), u3_c (by decide), u3_j (by omega)]
  · rw [u3_c (by decide), u3_c (by decide), u3_j (by omega), u3_c (by decide)]
  · rw [u3_c (by decide), u3_j (by omega), u3_c (by decide), u3_c (by decide)]
  · rw [u3_j (by omega), u3_c (by decide), u3_c (by decide), u3_c (by decide)]
theorem wmv_3 {c : Nat} {a b d : Int32} {M : Mem} : wmv c M (am_u3 (am_u3 (am_u3 M 34 0 3 a) 35 0 c b) 36 0 c d) := by
  refine ⟨fr_u3 (fr_u3 (fr_u3 fr_rfl (by decide)) (by decide)) (by decide), ?_, fun j hj => ?_, fun i hi => ⟨?_, ?_, ?_⟩⟩
  · rw [u3_c (by decide), u3_c (by decide), u3_c (by decide)]
  · rw [u3_c (by decide), u3_c (by decide), u3_j (by omega)]
  · rw [u3_c (by decide), u3_j (by omega), u3_c (by decide)]
  · rw [u3_j (by omega), u3_c (by decide), u3_c (by decide)]
  · rw [u3_c (by decide), u3_c (by decide), u3_c (by decide)]
theorem exF {T : Nat → Nat} {n c k q : Nat} {M M' : Mem} {P : RW} (hP : P = Sum.inr (k, q)) (w : wmv c M M') (h : CF T n k q M') : ok (f_X10_expect 59 M') (fun M'' => wmv c M M'' ∧ LW T n c P M'') := by
  refine ok_mono (c_expectF (c := 59) h (by decide)) ?_
  rintro M'' ⟨r, m⟩
  rw [hP]
  exact ⟨wmv_tr w (wmv_c m) (Nat.le_refl _), r⟩
theorem c_stepW {T : Nat → Nat} {n nb m : Nat} {rR rS : Int32 → Int32 → Mem → Option Mem} {S : Option (Nat → RW)} (hn : n ≤ 150) (hnb : nb ≤ 16) (hS : deeW T n nb m rR S) (hd : cDw T n rR) : cSt T n nb m (f_RX9_readStep rR rS) (stP T n nb S) := by
  intro p M c h hc hcp
  have hs := sk_f (T := T) h.2.1
  have hle := lE_f (T := T) hs.2.1
  unfold f_RX9_readStep
  refine ok_bindA (c_word (k1 := 5) (ws := nm5) h (by decide) lay5) ?_
  rintro ⟨v, M1⟩ ⟨c1, m1, e1⟩
  simp only at c1 m1 e1
  have hc1 : M1 34 0 3 = nI c := by rw [m1.1 34 (by decide)]; exact hc
  have w1 : wmv c M M1 := wmv_c m1
  unfold CW at c1
  by_cases hw : wrd T n nm5 p = -1
  · rw [if_pos hw] at c1
    obtain ⟨rfl, s1⟩ := c1
    have eu : stP T n nb S p = Sum.inr (1, sk T n p) := by unfold stP; rw [if_pos hw]
    dsimp only
    rw [if_neg (by decide), if_neg (by decide)]
    refine ok_bindA (c_numF s1) ?_
    rintro ⟨v2, M2⟩ ⟨-, s2, m2⟩
    simp only at s2 m2
    dsimp only
    rw [if_neg (fty1 s2)]
    exact exF eu (wmv_tr w1 (wmv_c m2) (Nat.le_refl _)) s2
  · rw [if_neg hw] at c1
    obtain ⟨rfl, s1⟩ := c1
    obtain ⟨k, k5, ek, kl, kl4⟩ := wrd5 hw
    dsimp only
    by_cases h4 : wrd T n nm5 p = 4
    · rw [if_pos h4]
      have hk4 : k = 4 := (nI_eq (b := 4) (by omega) (by decide)).mp (ek.symm.trans h4)
      have kl5 := kl4 hk4
      rcases hS with ⟨rfl, rfl⟩ | ⟨hm, S', rfl, hS'⟩
      · have eu : stP T n nb none p = Sum.inr (3, sk T n p) := by unfold stP; rw [if_neg hw, if_pos h4]
        rw [if_pos (by decide), e1]
        have b := CS_b (k := 3) (q := sk T n p) s1 (by decide)
        refine ok_bindA (c_numF b.1) ?_
        rintro ⟨v2, M2⟩ ⟨-, s2, m2⟩
        simp only at s2 m2
        dsimp only
        rw [if_neg (fty1 s2)]
        exact exF eu (wmv_tr w1 (wmv_c (cmv_tr b.2.1 m2)) (Nat.le_refl _)) s2
      · have eu0 : stP T n nb (some S') p = bd (num T n 0 61 (lE T n (sk T n p))) (fun x => bd (exq T n 91 x.1) (fun e1 => bd (S' e1) (fun y => bd (exq T n 93 y.1) (fun e3 => bd (exq T n 59 e3) (fun e4 => Sum.inl (e4, (4, x.2, y.2.length + 1) :: y.2)))))) := by unfold stP; rw [if_neg hw, if_pos h4]
        rw [if_neg (show ¬ nI m = 6 from fun z => by have := (nI_eq (b := 6) (by omega) (by decide)).mp z; omega)]
        refine ok_bindA (c_num (a := 0) (b := 61) s1 (by decide) (by decide)) ?_
        rintro ⟨v2, M2⟩ ⟨c2, m2, -⟩
        simp only at c2 m2
        dsimp only
        have w2 : wmv c M M2 := wmv_tr w1 (wmv_c m2) (Nat.le_refl _)
        have hc2 : M2 34 0 3 = nI c := by rw [m2.1 34 (by decide)]; exact hc1
        generalize hN : num T n 0 61 (lE T n (sk T n p)) = X at c2
        rcases X with x | f
        · obtain ⟨rfl, s2⟩ := c2
          have gx := num_f (e := x.1) (v := x.2) hle.2.1 hN
          rw [hN, bd_in] at eu0
          rw [if_pos (fty0 s2), if_pos (show M2 34 0 3 < 150 by rw [hc2]; exact nI_lt (b := 150) (by omega) (by decide)), if_pos (show inb (M2 34 0 3) 150 = true by rw [hc2]; exact inb_n (show c < 150 by omega) (by decide)), hc2, nI_clamp (show c < 2 ^ 31 by omega), nI_1]
          have w3 := wmv_3 (c := c) (a := nI (c + 1)) (b := wrd T n nm5 p) (d := nI x.2) (M := M2)
          have s3 : CS T n x.1 (am_u3 (am_u3 (am_u3 M2 34 0 3 (nI (c + 1))) 35 0 c (wrd T n nm5 p)) 36 0 c (nI x.2)) := CS_o s2 (by rw [u3_c (by decide), u3_c (by decide), u3_c (by decide)]) (by rw [u3_c (by decide), u3_c (by decide), u3_c (by decide)])
          have k3 : (am_u3 (am_u3 (am_u3 M2 34 0 3 (nI (c + 1))) 35 0 c (wrd T n nm5 p)) 36 0 c (nI x.2)) 34 0 3 = nI (c + 1) := by rw [u3_c (by decide), u3_c (by decide), u3_e]
          have k35 : (am_u3 (am_u3 (am_u3 M2 34 0 3 (nI (c + 1))) 35 0 c (wrd T n nm5 p)) 36 0 c (nI x.2)) 35 0 c = 4 := by rw [u3_c (by decide), u3_e]; exact h4
          have k36 : (am_u3 (am_u3 (am_u3 M2 34 0 3 (nI (c + 1))) 35 0 c (wrd T n nm5 p)) 36 0 c (nI x.2)) 36 0 c = nI x.2 := by rw [u3_e]
          generalize am_u3 (am_u3 (am_u3 M2 34 0 3 (nI (c + 1))) 35 0 c (wrd T n nm5 p)) 36 0 c (nI x.2) = M3 at w3 s3 k3 k35 k36
          have st3 : LW T n (c + 1) (Sum.inl (x.1, [])) M3 := ⟨s3, k3, fun i hi => by cases hi⟩
          refine ok_bindA (LW_e (ch := 91) (by decide) st3) ?_
          rintro M4 ⟨m4, l4⟩
          have hrow : ok (rR (nI nb) (nI m + 1) M4) (fun M5 => wmv (c + 1) M4 M5 ∧ LW T n (c + 1) (bd (xQ T n 91 (Sum.inl (x.1, []))) (fun y => S' y.1)) M5) := by
            have e0 : xQ T n 91 (Sum.inl (x.1, [])) = bd (exq T n 91 x.1) (fun e => Sum.inl (e, [])) := rfl
            rw [e0] at l4 ⊢
            generalize hE : exq T n 91 x.1 = Y at l4
            rcases Y with e | f
            · have ge := exq_f gx.2.2.2 hE
              rw [nI_1]
              exact hS' e M4 (c + 1) l4.1 l4.2.1 (by omega)
            · rw [hd _ _ _ _ M4 l4]
              exact ok_some ⟨wmv_rfl, l4⟩
          refine ok_bindA hrow ?_
          rintro M5 ⟨w5, l5⟩
          refine ok_bindA (LW_e (ch := 93) (by decide) l5) ?_
          rintro M6 ⟨m6, l6⟩
          have w46 : wmv (c + 1) M3 M6 := wmv_tr (wmv_c m4) (wmv_tr w5 (wmv_c m6) (Nat.le_refl _)) (Nat.le_refl _)
          obtain ⟨l7, w7⟩ := LW_w (v := x.2) l6 ((w46.2.2.2 c (by omega)).1.trans k35) ((w46.2.2.2 c (by omega)).2.1.trans k36)
          show ok (f_X10_expect 59 (am_u3 M6 37 0 c (M6 34 0 3))) _
          refine ok_mono (LW_e (ch := 59) (by decide) l7) ?_
          rintro M8 ⟨m8, l8⟩
          refine ⟨wmv_tr w2 (wmv_tr w3 (wmv_tr (c' := c) ⟨w46.1, w46.2.1, w46.2.2.1, fun i hi => w46.2.2.2 i (by omega)⟩ (wmv_tr w7 (wmv_c m8) (Nat.le_refl _)) (Nat.le_refl _)) (Nat.le_refl _)) (Nat.le_refl _), ?_⟩
          rw [eu0]
          simp only [xQ, xW, bd_as, bd_in] at l8
          exact l8
        · obtain ⟨rfl, s2⟩ := c2
          rw [hN, bd_r rfl] at eu0
          rw [if_neg (fty1 s2)]
          exact exF eu0 w2 s2
    · rw [if_neg h4]
      by_cases h3 : wrd T n nm5 p = 3
      · have eu0 : stP T n nb S p = bd (exq T n 59 (lE T n (sk T n p))) (fun e4 => Sum.inl (e4, [(3, 0, 1)])) := by unfold stP; rw [if_neg hw, if_neg h4, if_pos h3]
        rw [if_pos h3, if_pos (fty0 s1), hc1, if_pos (show nI c < 150 from nI_lt (b := 150) (by omega) (by decide)), if_pos (inb_n (show c < 150 by omega) (by decide)), nI_clamp (show c < 2 ^ 31 by omega), nI_1, h3]
        have a2 := AP_1 (k := 3) (v := 0) hc1
        have w2 := wmv_4 (c := c) (a := nI (c + 1)) (b := nI 3) (d := nI 0) (e := nI (c + 1)) (M := M1)
        have s2 : CS T n (lE T n (sk T n p)) (am_u3 (am_u3 (am_u3 (am_u3 M1 34 0 3 (nI (c + 1))) 35 0 c (nI 3)) 36 0 c (nI 0)) 37 0 c (nI (c + 1))) := CS_o s1 (by rw [u3_c (by decide), u3_c (by decide), u3_c (by decide), u3_c (by decide)]) (by rw [u3_c (by decide), u3_c (by decide), u3_c (by decide), u3_c (by decide)])
        have l2 : LW T n c (Sum.inl (lE T n (sk T n p), [(3, 0, 1)])) (am_u3 (am_u3 (am_u3 (am_u3 M1 34 0 3 (nI (c + 1))) 35 0 c (nI 3)) 36 0 c (nI 0)) 37 0 c (nI (c + 1))) := ⟨s2, a2⟩
        show ok (f_X10_expect 59 (am_u3 (am_u3 (am_u3 (am_u3 M1 34 0 3 (nI (c + 1))) 35 0 c (nI 3)) 36 0 c (nI 0)) 37 0 c (nI (c + 1)))) _
        refine ok_mono (LW_e (ch := 59) (by decide) l2) ?_
        rintro M8 ⟨m8, l8⟩
        refine ⟨wmv_tr w1 (wmv_tr w2 (wmv_c m8) (Nat.le_refl _)) (Nat.le_refl _), ?_⟩
        rw [eu0]; exact l8
      · have eu0 : stP T n nb S p = bd (num T n 0 nb (lE T n (sk T n p))) (fun x => bd (exq T n 59 x.1) (fun e4 => Sum.inl (e4, [(k, x.2, 1)]))) := by unfold stP; rw [if_neg hw, if_neg h4, if_neg h3, ek, nI_clamp (show k < 2 ^ 31 by omega)]
        rw [if_neg h3, ek]
        refine ok_bindA (c_num (a := 0) (b := nb) s1 (by decide) (by omega)) ?_
        rintro ⟨v2, M2⟩ ⟨c2, m2, -⟩
        simp only at c2 m2
        dsimp only
        have w2 : wmv c M M2 := wmv_tr w1 (wmv_c m2) (Nat.le_refl _)
        have hc2 : M2 34 0 3 = nI c := by rw [m2.1 34 (by decide)]; exact hc1
        generalize hN : num T n 0 nb (lE T n (sk T n p)) = X at c2
        rcases X with x | f
        · obtain ⟨rfl, s2⟩ := c2
          rw [hN, bd_in] at eu0
          rw [if_pos (fty0 s2), if_pos (show M2 34 0 3 < 150 by rw [hc2]; exact nI_lt (b := 150) (by omega) (by decide)), if_pos (show inb (M2 34 0 3) 150 = true by rw [hc2]; exact inb_n (show c < 150 by omega) (by decide)), hc2, nI_clamp (show c < 2 ^ 31 by omega), nI_1]
          have a3 := AP_1 (k := k) (v := x.2) hc2
          have w3 := wmv_4 (c := c) (a := nI (c + 1)) (b := nI k) (d := nI x.2) (e := nI (c + 1)) (M := M2)
          have s3 : CS T n x.1 (am_u3 (am_u3 (am_u3 (am_u3 M2 34 0 3 (nI (c + 1))) 35 0 c (nI k)) 36 0 c (nI x.2)) 37 0 c (nI (c + 1))) := CS_o s2 (by rw [u3_c (by decide), u3_c (by decide), u3_c (by decide), u3_c (by decide)]) (by rw [u3_c (by decide), u3_c (by decide), u3_c (by decide), u3_c (by decide)])
          have l3 : LW T n c (Sum.inl (x.1, [(k, x.2, 1)])) (am_u3 (am_u3 (am_u3 (am_u3 M2 34 0 3 (nI (c + 1))) 35 0 c (nI k)) 36 0 c (nI x.2)) 37 0 c (nI (c + 1))) := ⟨s3, a3⟩
          show ok (f_X10_expect 59 (am_u3 (am_u3 (am_u3 (am_u3 M2 34 0 3 (nI (c + 1))) 35 0 c (nI k)) 36 0 c (nI x.2)) 37 0 c (nI (c + 1)))) _
          refine ok_mono (LW_e (ch := 59) (by decide) l3) ?_
          rintro M8 ⟨m8, l8⟩
          refine ⟨wmv_tr w2 (wmv_tr w3 (wmv_c m8) (Nat.le_refl _)) (Nat.le_refl _), ?_⟩
          rw [eu0]; exact l8
        · obtain ⟨rfl, s2⟩ := c2
          rw [hN, bd_r rfl] at eu0
          rw [if_neg (fty1 s2)]
          exact exF eu0 w2 s2
theorem c_rowD {T : Nat → Nat} {n : Nat} {rR rS : Int32 → Int32 → Mem → Option Mem} : cDw T n (f_RX9_readRow rR rS) := by
  intro x y k q M h
  unfold f_RX9_readRow
  have : wh (L_RX9_readRow_3 rS x y) FU ((0 : Int32), M) = some (Sum.inr M) := by
    refine wh_out (n := 99999) ?_
    unfold L_RX9_readRow_3
    show (if (150 : Int32) ≤ 0 then _ else (if f_X10_isFaulty M = 0 then _ else _)) = _
    rw [if_neg (by decide), if_neg (fty1 h)]
  rw [this]
  rfl
theorem st_l {T : Nat → Nat} {n nb : Nat} {S : Option (Nat → RW)} (hS : ∀ S', S = some S' → ∃ d', wOK n nb d' S') : ∀ p e K, stP T n nb S p = Sum.inl (e, K) → p ≤ n → p + 2 ≤ e := by
  intro p e K h hp
  have hs := sk_f (T := T) hp
  have hle := lE_f (T := T) hs.2.1
  unfold stP at h
  by_cases h1 : wrd T n nm5 p = -1
  · rw [if_pos h1] at h; cases h
  · obtain ⟨k, k5, ek, kl, kl4⟩ := wrd5 h1
    rw [if_neg h1] at h
    by_cases h4 : wrd T n nm5 p = 4
    · rw [if_pos h4] at h
      cases S with
      | none => cases h
      | some S' =>
        obtain ⟨d', hS'⟩ := hS S' rfl
        obtain ⟨x, a1, h⟩ := bd_i h
        obtain ⟨e1, a2, h⟩ := bd_i h
        obtain ⟨y, a3, h⟩ := bd_i h
        obtain ⟨e3, a4, h⟩ := bd_i h
        obtain ⟨e4, a5, h⟩ := bd_i h
        have g1 := num_f (e := x.1) (v := x.2) hle.2.1 a1
        have g2 := exq_f g1.2.2.2 a2
        have g3 := hS' e1 y.1 y.2 g2.2 a3
        have g4 := exq_f g3.2.1 a4
        have g5 := exq_f g4.2 a5
        injection h with h
        obtain ⟨rfl, rfl⟩ := Prod.mk.inj h
        omega
    · rw [if_neg h4] at h
      by_cases h3 : wrd T n nm5 p = 3
      · rw [if_pos h3] at h
        obtain ⟨e4, a5, h⟩ := bd_i h
        have g5 := exq_f hle.2.1 a5
        injection h with h
        obtain ⟨rfl, rfl⟩ := Prod.mk.inj h
        omega
      · rw [if_neg h3] at h
        obtain ⟨x, a1, h⟩ := bd_i h
        obtain ⟨e4, a5, h⟩ := bd_i h
        have g1 := num_f (e := x.1) (v := x.2) hle.2.1 a1
        have g5 := exq_f g1.2.2.2 a5
        injection h with h
        obtain ⟨rfl, rfl⟩ := Prod.mk.inj h
        omega
theorem rwO_d {T : Nat → Nat} {n nb d : Nat} : ∀ S', rwO T n nb d = some S' → ∃ d', wOK n nb d' S' := fun S' h => by obtain ⟨d', -, h'⟩ := rwO_ok S' h; exact ⟨d', h'⟩
theorem c_rowsD {T : Nat → Nat} {n nb : Nat} (hn : n ≤ 150) (hnb : nb ≤ 16) : ∀ d f, d ≤ 5 → 2 * d + 4 ≤ f → cRw T n nb (6 - d) (rec_readRow f).1 (rwD T n nb d) := by
  intro d
  induction d with
  | zero =>
    intro f _ hf
    obtain ⟨g, rfl⟩ : ∃ g, f = g + 3 := ⟨f - 3, by omega⟩
    exact c_rowW (rR := (rec_readRow (g + 2)).1) (rS := (rec_readRow (g + 2)).2) hn (by decide) ⟨fun _ => by decide, fun _ => rfl⟩ (c_stepW (rR := (rec_readRow (g + 1)).1) (rS := (rec_readRow (g + 1)).2) hn hnb (Or.inl ⟨rfl, rfl⟩) (c_rowD (rR := (rec_readRow g).1) (rS := (rec_readRow g).2))) (st_ok (d := 0) (S := none) (fun S' h => by cases h)) (st_l (fun S' h => by cases h)) (fun p hp => st_sk hp)
  | succ d ih =>
    intro f hd hf
    obtain ⟨g, rfl⟩ : ∃ g, f = g + 3 := ⟨f - 3, by omega⟩
    have ihg := ih (g + 1) (by omega) (by omega)
    rw [show 6 - d = 6 - (d + 1) + 1 by omega] at ihg
    exact c_rowW (rR := (rec_readRow (g + 2)).1) (rS := (rec_readRow (g + 2)).2) hn (by omega) ⟨fun _ => by omega, fun _ => rfl⟩ (c_stepW (rR := (rec_readRow (g + 1)).1) (rS := (rec_readRow (g + 1)).2) hn hnb (Or.inr ⟨by omega, rwD T n nb d, rfl, ihg⟩) (c_rowD (rR := (rec_readRow g).1) (rS := (rec_readRow g).2))) (st_ok (d := d + 1) (S := rwO T n nb (d + 1)) rwO_ok) (st_l (fun S' h => by injection h with h; subst h; exact ⟨d, rwD_ok d⟩)) (fun p hp => st_sk hp)
theorem c_rowT {T : Nat → Nat} {n nb : Nat} (hn : n ≤ 150) (hnb : nb ≤ 16) : cRw T n nb 0 f_X9_readRow (fun p => rwP T n false (stP T n nb (rwO T n nb 6)) 151 p []) := by
  have ih := c_rowsD (T := T) hn hnb 5 28 (by decide) (by decide)
  exact c_rowW (rR := (rec_readRow 29).1) (rS := (rec_readRow 29).2) hn (by decide) ⟨fun z => (by cases z), fun z => absurd rfl z⟩ (c_stepW (rR := (rec_readRow 28).1) (rS := (rec_readRow 28).2) hn hnb (Or.inr ⟨by decide, rwD T n nb 5, rfl, ih⟩) (c_rowD (rR := (rec_readRow 27).1) (rS := (rec_readRow 27).2))) (st_ok (d := 6) (S := rwO T n nb 6) rwO_ok) (st_l (fun S' h => by injection h with h; subst h; exact ⟨5, rwD_ok 5⟩)) (fun p hp => st_sk hp)
theorem rw_end {T : Nat → Nat} {n : Nat} {nest : Bool} {U : Nat → RW} (hn : n ≤ 150) (uo : ∀ p e K, U p = Sum.inl (e, K) → p ≤ n → p + 2 ≤ e ∧ e ≤ n) : ∀ f p L e K, 302 ≤ p + 2 * f → p ≤ n → rwP T n nest U f p L = Sum.inl (e, K) → ∃ p', p' ≤ n ∧ stopW T n nest p' ∧ e = sk T n p'
  | 0, p, L, e, K, h1, h2, _ => by omega
  | f + 1, p, L, e, K, h1, h2, h => by
    by_cases hst : stopW T n nest p
    · rw [rwP_s hst] at h
      injection h with h
      obtain ⟨rfl, rfl⟩ := Prod.mk.inj h
      exact ⟨p, h2, hst, rfl⟩
    · generalize hu : U p = Y
      rcases Y with y | z
      · rw [rwP_i hst hu] at h
        have g := uo p y.1 y.2 hu h2
        exact rw_end hn uo f y.1 (L ++ y.2) e K (by omega) g.2 h
      · rw [rwP_r hst hu] at h; cases h
theorem wk_end {T : Nat → Nat} {n nb e : Nat} {K : List Rc} (hn : n ≤ 150) (h : wkP T n nb = Sum.inl (e, K)) : ¬ e < n ∧ sk T n e = e := by
  obtain ⟨p', h1, h2, h3⟩ := rw_end hn (fun p e K h hp => ⟨st_l rwO_d p e K h hp, (st_ok (d := 6) rwO_ok p e K hp h).2.1⟩) 151 0 [] e K (by decide) (Nat.zero_le _) h
  have h2' : stopB T n false p' = true := h2
  unfold stopB at h2'
  rw [if_neg (by decide), decide_eq_true_eq] at h2'
  rw [h3, sk_sk h1]
  exact ⟨h2', rfl⟩
theorem c_workR {T : Nat → Nat} {n nb : Nat} {M : Mem} (hn : n ≤ 150) (hnb : nb ≤ 16) (h : CS T n 0 M) : ok (f_X9_read (nI nb) M) (fun M' => fr [1, 34, 35, 36, 37] M M' ∧ M' 1 0 1 = 0 ∧ LW T n 0 (wkP T n nb) M') := by
  have s0 : CS T n 0 (am_u3 M 34 0 3 0) := CS_o h (u3_c (by decide)) (u3_c (by decide))
  have f0 : fr [1, 34, 35, 36, 37] M (am_u3 M 34 0 3 0) := fr_u3 fr_rfl (by decide)
  have k0 : am_u3 M 34 0 3 0 34 0 3 = nI 0 := u3_e _ _ _ _ _
  unfold f_X9_read
  generalize am_u3 M 34 0 3 0 = M0' at s0 f0 k0
  refine ok_bind (c_rowT hn hnb 0 M0' 0 s0 k0 (Nat.zero_le _)) ?_
  rintro M1 ⟨w1, l1⟩
  have l1' : LW T n 0 (wkP T n nb) M1 := l1
  have t1 : M1 1 0 1 = 0 := by
    rw [w1.2.1]; exact s0.1.2.2.1
  have F1 := fr_tr f0 w1.1
  generalize hX : wkP T n nb = X at l1'
  clear l1
  unfold f_X10_expectEnd
  rcases X with y | f
  · obtain ⟨s1, a1⟩ := l1'
    obtain ⟨he1, he2⟩ := wk_end hn hX
    obtain ⟨-, s2, m2⟩ := CS_n s1
    rw [he2] at s2 m2
    refine ok_bind (P := fun M2 => cmv M1 M2 ∧ CS T n y.1 M2) ?_ ?_
    · refine ok_bindE (c_end s1) ?_
      rw [he2, if_neg he1]
      exact ok_ifn (by decide) (ok_some ⟨m2, s2⟩)
    · rintro M2 ⟨mm, ss⟩
      exact ok_some ⟨fr_tr F1 (fr_mono mm.1 (by decide)), mm.2.1.trans t1, ss, AP_m a1 mm⟩
  · refine ok_bind (P := fun M' => CF T n f.1 f.2 M' ∧ cmv M1 M') ?_ ?_
    · unfold f_X10_isAtEnd
      refine ok_bind (P := fun r => CF T n f.1 f.2 r.2 ∧ cmv M1 r.2) ?_ ?_
      · refine ok_bind (CF_n l1') ?_
        rintro ⟨v, M2⟩ ⟨h2, m2, -⟩
        exact ok_if (fun _ => ok_some ⟨h2, m2⟩) (fun _ => ok_some ⟨h2, m2⟩)
      · rintro ⟨v, M2⟩ ⟨h2, m2⟩
        simp only at h2 m2
        exact ok_if (fun _ => ok_some ⟨by rw [CF_b h2]; exact h2, by rw [CF_b h2]; exact m2⟩) (fun _ => ok_some ⟨h2, m2⟩)
    · rintro M2 ⟨h2, m2⟩
      exact ok_some ⟨fr_tr F1 (fr_mono m2.1 (by decide)), m2.2.1.trans t1, h2⟩
