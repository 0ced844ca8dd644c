/-! LAWS: the model's loops -/
theorem m_tks {T : Nat → Nat} {n p c : Nat} {M : Mem} (h : MS T n p M) (hc : c < 256) : f_X12_takesSign (nI c) M = some (if sk T n p < n ∧ T (sk T n p) = c then 1 else 0, am_u3 M 54 0 4 (nI (if sk T n p < n ∧ T (sk T n p) = c then sk T n p + 1 else sk T n p))) := by
  obtain ⟨s1, -, -⟩ := m_again h
  unfold f_X12_takesSign
  rw [if_pos h.2.2.2, m_blanks h.1 h.2.1 h.2.2.1]
  simp only [Option.bind]
  rw [u3_e, byT s1.1 s1.2.1]
  simp only []
  have hb := nb_c (p := p) (fun j hj => (h.1.2.2.2 j hj).2) hc
  unfold nb at hb
  by_cases hx : sk T n p < n ∧ T (sk T n p) = c
  · rw [if_pos (hb.mpr hx), if_pos hx, if_pos hx, nI_1, u3_u]
  · rw [if_neg (fun z => hx (hb.mp z)), if_neg hx, if_neg hx]
abbrev LB : Type := Mem → Option (Mem ⊕ (Mem ⊕ Mem))
def bOK (T : Nat → Nat) (n : Nat) (sg : List Nat) (w : Nat) (rU : Mem → Option Mem) (B : LB) : Prop := (∀ M, ¬ M 54 0 5 = 0 → B M = some (Sum.inr (Sum.inr M))) ∧ (∀ p M, MS T n p M → sgI T n sg p = none → B M = some (Sum.inr (Sum.inl (am_u3 M 54 0 4 (nI (sk T n p)))))) ∧ (∀ p M i, MS T n p M → sgI T n sg p = some i → B M = Option.bind (rU (am_u3 M 54 0 4 (nI (sk T n p + 1)))) (fun M7 => Option.bind (f_X12_notes (nI (w + i)) 0 M7) (fun M8 => some (Sum.inl M8))))
theorem b_sum {T : Nat → Nat} {n : Nat} {rU : Mem → Option Mem} : bOK T n sg1 2 rU (L_RX12_sum_4 rU) := by
  refine ⟨fun M h => by unfold L_RX12_sum_4; rw [if_neg h], fun p M h hs => ?_, fun p M i h hs => ?_⟩
  · obtain ⟨s1, -, -⟩ := m_again h
    have sk2 := sk_sk (T := T) h.2.1
    have n43 : ¬ (sk T n p < n ∧ T (sk T n p) = 43) := fun z => by
      unfold sgI at hs; rw [if_pos z.1] at hs; exact ixO_n hs 43 (by decide) z.2
    have n45 : ¬ (sk T n p < n ∧ T (sk T n p) = 45) := fun z => by
      unfold sgI at hs; rw [if_pos z.1] at hs; exact ixO_n hs 45 (by decide) z.2
    unfold L_RX12_sum_4
    rw [if_pos h.2.2.2, show (43 : Int32) = nI 43 from rfl, m_tks h (by decide), if_neg n43, if_neg n43]
    show Option.bind (f_X12_takesSign 45 (am_u3 M 54 0 4 (nI (sk T n p)))) _ = _
    rw [show (45 : Int32) = nI 45 from rfl, m_tks s1 (by decide), sk2, if_neg n45, if_neg n45, u3_u]
    rfl
  · obtain ⟨s1, -, -⟩ := m_again h
    have sk2 := sk_sk (T := T) h.2.1
    have hlt : sk T n p < n := by
      unfold sgI at hs
      by_cases z : sk T n p < n
      · exact z
      · rw [if_neg z] at hs; cases hs
    unfold sgI at hs
    rw [if_pos hlt] at hs
    obtain ⟨-, i2, i3⟩ := ixO_b hs
    have i2' : i < 2 := by rw [Nat.zero_add] at i2; exact i2
    rw [Nat.sub_zero] at i3
    unfold L_RX12_sum_4
    rw [if_pos h.2.2.2, show (43 : Int32) = nI 43 from rfl, m_tks h (by decide)]
    have : i = 0 ∨ i = 1 := by omega
    rcases this with rfl | rfl
    · rw [if_pos ⟨hlt, i3.symm⟩, if_pos ⟨hlt, i3.symm⟩]; rfl
    · have e45 : T (sk T n p) = 45 := i3.symm
      have n43 : ¬ (sk T n p < n ∧ T (sk T n p) = 43) := fun z => by omega
      rw [if_neg n43, if_neg n43]
      show Option.bind (f_X12_takesSign 45 (am_u3 M 54 0 4 (nI (sk T n p)))) _ = _
      rw [show (45 : Int32) = nI 45 from rfl, m_tks s1 (by decide), sk2, if_pos ⟨hlt, e45⟩, if_pos ⟨hlt, e45⟩, u3_u]; rfl
theorem b_prod {T : Nat → Nat} {n : Nat} {rU : Mem → Option Mem} : bOK T n sg2 4 rU (L_RX12_product_4 rU) := by
  refine ⟨fun M h => by unfold L_RX12_product_4; rw [if_neg h], fun p M h hs => ?_, fun p M i h hs => ?_⟩
  · obtain ⟨s1, -, -⟩ := m_again h
    have sk2 := sk_sk (T := T) h.2.1
    have nn : ∀ c, c ∈ sg2 → ¬ (sk T n p < n ∧ T (sk T n p) = c) := fun c hc z => by
      unfold sgI at hs; rw [if_pos z.1] at hs; exact ixO_n hs c hc z.2
    have n42 := nn 42 (by decide)
    have n47 := nn 47 (by decide)
    have n37 := nn 37 (by decide)
    unfold L_RX12_product_4
    rw [if_pos h.2.2.2, show (42 : Int32) = nI 42 from rfl, m_tks h (by decide), if_neg n42, if_neg n42]
    show Option.bind (f_X12_takesSign 47 (am_u3 M 54 0 4 (nI (sk T n p)))) _ = _
    rw [show (47 : Int32) = nI 47 from rfl, m_tks s1 (by decide), sk2, if_neg n47, if_neg n47, u3_u]
    show Option.bind (f_X12_takesSign 37 (am_u3 M 54 0 4 (nI (sk T n p)))) _ = _
    rw [show (37 : Int32) = nI 37 from rfl, m_tks s1 (by decide), sk2, if_neg n37, if_neg n37, u3_u]
    rfl
  · obtain ⟨s1, -, -⟩ := m_again h
    have sk2 := sk_sk (T := T) h.2.1
    have hlt : sk T n p < n := by
      unfold sgI at hs
      by_cases z : sk T n p < n
      · exact z
      · rw [if_neg z] at hs; cases hs
    unfold sgI at hs
    rw [if_pos hlt] at hs
    obtain ⟨-, i2, i3⟩ := ixO_b hs
    have i2' : i < 3 := by rw [Nat.zero_add] at i2; exact i2
    rw [Nat.sub_zero] at i3
    unfold L_RX12_product_4
    rw [if_pos h.2.2.2, show (42 : Int32) = nI 42 from rfl, m_tks h (by decide)]
    have : i = 0 ∨ i = 1 ∨ i = 2 := by omega
    rcases this with rfl | rfl | rfl
    · rw [if_pos ⟨hlt, i3.symm⟩, if_pos ⟨hlt, i3.symm⟩]; rfl
    · have e47 : T (sk T n p) = 47 := i3.symm
      have n42 : ¬ (sk T n p < n ∧ T (sk T n p) = 42) := fun z => by omega
      rw [if_neg n42, if_neg n42]
      show Option.bind (f_X12_takesSign 47 (am_u3 M 54 0 4 (nI (sk T n p)))) _ = _
      rw [show (47 : Int32) = nI 47 from rfl, m_tks s1 (by decide), sk2, if_pos ⟨hlt, e47⟩, if_pos ⟨hlt, e47⟩, u3_u]; rfl
    · have e37 : T (sk T n p) = 37 := i3.symm
      have n42 : ¬ (sk T n p < n ∧ T (sk T n p) = 42) := fun z => by omega
      have n47 : ¬ (sk T n p < n ∧ T (sk T n p) = 47) := fun z => by omega
      rw [if_neg n42, if_neg n42]
      show Option.bind (f_X12_takesSign 47 (am_u3 M 54 0 4 (nI (sk T n p)))) _ = _
      rw [show (47 : Int32) = nI 47 from rfl, m_tks s1 (by decide), sk2, if_neg n47, if_neg n47, u3_u]
      show Option.bind (f_X12_takesSign 37 (am_u3 M 54 0 4 (nI (sk T n p)))) _ = _
      rw [show (37 : Int32) = nI 37 from rfl, m_tks s1 (by decide), sk2, if_pos ⟨hlt, e37⟩, if_pos ⟨hlt, e37⟩, u3_u]; rfl
theorem m_tm {T : Nat → Nat} {n m w base : Nat} {U : Nat → RLq} {rU : Mem → Option Mem} {sg : List Nat} {B : LB} (hn : n ≤ 150) (hB : bOK T n sg w rU B) (hmr : ∀ i, i < sg.length → mrel (nI (base + i)) (nI (w + i)) 0) (hU : mSp T n rU m U) (hUd : mDd rU) (uo : rOK n U) (p : Nat) (M : Mem) (L0 : List Nat) (h : MS T n p M) (hD : MD m L0 M) (hl : L0.length ≤ p) : ok (Option.bind (rU M) (fun (M1 : Mem) => (Option.bind (wh B FU M1) (fun e11 => match e11 with | (Sum.inl M11) => some M11 | (Sum.inr M11) => some M11)))) (fun M' => mlv M M' ∧ LPm T n m L0 (tmP T n U sg base p) M') := by
  obtain ⟨hB1, hB2, hB3⟩ := hB
  refine ok_bind (hU p M L0 h hD hl) ?_
  rintro M1 ⟨m1, l1⟩
  unfold tmP
  generalize hu : U p = X0 at l1
  rcases X0 with y | f
  · obtain ⟨s1, d1⟩ := l1
    have g := uo p y.1 y.2 h.2.1 hu
    rw [bd_l rfl]
    generalize hX : lpP T n U sg base 151 y.1 y.2 = X
    refine ok_bind (P := fun e => ∃ M8, (e = Sum.inl M8 ∨ e = Sum.inr M8) ∧ mlv M M8 ∧ LPm T n m L0 X M8) ?_ ?_
    · refine ok_wh (fun k s => mlv M s ∧ ((∃ p K, MS T n p s ∧ MD m (L0 ++ K) s ∧ k + 1 ≤ p ∧ (L0 ++ K).length ≤ p ∧ lpP T n U sg base (151 - k) p K = X) ∨ (∃ f, X = Sum.inr f ∧ MF T n f.1 f.2 s))) 150 ⟨m1, Or.inl ⟨y.1, y.2, s1, d1, by have := g.2.2.2.1; omega, by simp; omega, hX⟩⟩ (by decide) ?_ ?_
      · rintro k M2 hk2 ⟨m2, gg⟩
        rcases gg with ⟨p', K, s2, d2, hkp, hlp, ex⟩ | ⟨f, ex, s2⟩
        · rw [show 151 - k = (150 - k) + 1 by omega] at ex
          have hs := sk_f (T := T) s2.2.1
          cases hsg : sgI T n sg p' with
          | none =>
            rw [hB2 p' M2 s2 hsg]
            obtain ⟨s4, m4, -⟩ := m_again s2
            refine ok_some ⟨_, Or.inl rfl, mlv_tr m2 (mlv_m m4), ?_⟩
            rw [← ex, lpP_n hsg]
            exact ⟨s4, MD_m d2 m4⟩
          | some i =>
            rw [hB3 p' M2 i s2 hsg]
            have hlt : sk T n p' < n := by
              unfold sgI at hsg
              by_cases z : sk T n p' < n
              · exact z
              · rw [if_neg z] at hsg; cases hsg
            have hil : i < sg.length := by
              unfold sgI at hsg
              rw [if_pos hlt] at hsg
              have := ixO_b hsg
              omega
            have m4 : mmv M2 (am_u3 M2 54 0 4 (nI (sk T n p' + 1))) := mmv_u mmv_rfl (by decide)
            have s4 : MS T n (sk T n p' + 1) (am_u3 M2 54 0 4 (nI (sk T n p' + 1))) := ⟨MT_m s2.1 m4, by omega, u3_e _ _ _ _ _, (u3_j (by omega)).trans s2.2.2.2⟩
            refine ok_bind (hU (sk T n p' + 1) _ (L0 ++ K) s4 (MD_m d2 m4) (by omega)) ?_
            rintro M6 ⟨m6, l6⟩
            generalize hu2 : U (sk T n p' + 1) = Y at l6
            rcases Y with y2 | f
            · obtain ⟨s6, d6⟩ := l6
              have g2 := uo (sk T n p' + 1) y2.1 y2.2 (by omega) hu2
              have hlen : (L0 ++ K ++ y2.2).length ≤ sk T n p' + y2.2.length := by rw [List.length_append]; omega
              refine ok_bind (m_notes (c := base + i) s6 d6 (by omega) (hmr i hil)) ?_
              rintro M7 ⟨m7, s7, d7⟩
              refine ok_some ⟨mlv_tr m2 (mlv_tr (mlv_m m4) (mlv_tr m6 m7)), Or.inl ⟨y2.1, K ++ y2.2 ++ [base + i], s7, ?_, by omega, ?_, ?_⟩⟩
              · rw [← List.append_assoc, ← List.append_assoc]; exact d7
              · rw [← List.append_assoc, ← List.append_assoc, List.length_append]
                have : ([base + i] : List Nat).length = 1 := rfl
                omega
              · rw [show 151 - (k + 1) = 150 - k by omega, ← ex, lpP_i hsg hu2]
            · refine ok_bindE (notes_F (MF_ne l6)) (ok_some ⟨mlv_tr m2 (mlv_tr (mlv_m m4) m6), Or.inr ⟨f, by rw [← ex, lpP_r hsg hu2], l6⟩⟩)
        · rw [hB1 M2 (MF_ne s2)]
          refine ok_some ⟨M2, Or.inr rfl, m2, ?_⟩
          rw [ex]; exact s2
      · rintro M2 ⟨m2, gg⟩
        rcases gg with ⟨p', K, s2, d2, hkp, -⟩ | ⟨f, ex, s2⟩
        · have := s2.2.1; omega
        · rw [hB1 M2 (MF_ne s2)]
          refine ok_some ⟨M2, Or.inr rfl, m2, ?_⟩
          rw [ex]; exact s2
    · rintro e ⟨M8, (rfl | rfl), m8, l8⟩
      · exact ok_some ⟨m8, l8⟩
      · exact ok_some ⟨m8, l8⟩
  · rw [bd_r rfl]
    refine ok_bindE (wh_out (n := 99999) (hB1 M1 (MF_ne l1))) (ok_some ⟨m1, l1⟩)
theorem m_tmF {T : Nat → Nat} {n w : Nat} {rU : Mem → Option Mem} {sg : List Nat} {B : LB} (hB : bOK T n sg w rU B) (hUd : mDd rU) (M : Mem) (h : ¬ M 54 0 5 = 0) : Option.bind (rU M) (fun (M1 : Mem) => (Option.bind (wh B FU M1) (fun e11 => match e11 with | (Sum.inl M11) => some M11 | (Sum.inr M11) => some M11))) = some M := by
  rw [hUd M h]
  show Option.bind (wh B FU M) _ = _
  rw [show wh B FU M = some (Sum.inr M) from wh_out (n := 99999) (hB.1 M h)]
  rfl
theorem mr1 : ∀ i, i < sg1.length → mrel (nI (10 + i)) (nI (2 + i)) 0 := by
  intro i hi
  have : i < 2 := hi
  have : i = 0 ∨ i = 1 := by omega
  rcases this with rfl | rfl
  · exact Or.inr (Or.inr (Or.inl ⟨rfl, rfl⟩))
  · exact Or.inr (Or.inr (Or.inr (Or.inl ⟨rfl, rfl⟩)))
theorem mr2 : ∀ i, i < sg2.length → mrel (nI (12 + i)) (nI (4 + i)) 0 := by
  intro i hi
  have : i < 3 := hi
  have : i = 0 ∨ i = 1 ∨ i = 2 := by omega
  rcases this with rfl | rfl | rfl
  · exact Or.inr (Or.inr (Or.inr (Or.inr (Or.inl ⟨rfl, rfl⟩))))
  · exact Or.inr (Or.inr (Or.inr (Or.inr (Or.inr (Or.inl ⟨rfl, rfl⟩)))))
  · exact Or.inr (Or.inr (Or.inr (Or.inr (Or.inr (Or.inr (Or.inl ⟨rfl, rfl⟩))))))
theorem m_oneD (g : Nat) : mDd (rec_sum (g + 1)).2.2 := m_oneF (rS := (rec_sum g).1) (rP := (rec_sum g).2.1) (rU := (rec_sum g).2.2)
theorem m_prD (g : Nat) : mDd (rec_sum (g + 2)).2.1 := fun M h => m_tmF (T := fun _ => 0) (n := 0) b_prod (m_oneD g) M h
theorem m_suD (g : Nat) : mDd (rec_sum (g + 3)).1 := fun M h => m_tmF (T := fun _ => 0) (n := 0) b_sum (m_prD g) M h
theorem m_sumD {T : Nat → Nat} {n : Nat} (hn : n ≤ 150) : ∀ d f, d ≤ 6 → 3 * d + 6 ≤ f → mSp T n (rec_sum f).1 (6 - d) (sD T n d) := by
  intro d
  induction d with
  | zero =>
    intro f _ hf
    obtain ⟨g, rfl⟩ : ∃ g, f = g + 6 := ⟨f - 6, by omega⟩
    have u : mSp T n (rec_sum (g + 4)).2.2 6 (unP T n none) := m_one (rP := (rec_sum (g + 3)).2.1) (rU := (rec_sum (g + 3)).2.2) hn (Or.inl ⟨rfl, rfl⟩) (m_suD g)
    have pr : mSp T n (rec_sum (g + 5)).2.1 6 (prP T n none) := fun p M L0 h hD hl => m_tm hn b_prod mr2 u (m_oneD (g + 3)) (un_ok (fun S' h => by cases h)) p M L0 h hD hl
    exact fun p M L0 h hD hl => m_tm hn b_sum mr1 pr (m_prD (g + 3)) (pr_ok (fun S' h => by cases h)) p M L0 h hD hl
  | succ d ih =>
    intro f hd hf
    obtain ⟨g, rfl⟩ : ∃ g, f = g + 6 := ⟨f - 6, by omega⟩
    have ihg := ih (g + 3) (by omega) (by omega)
    rw [show 6 - d = 6 - (d + 1) + 1 by omega] at ihg
    have so : ∀ S', some (sD T n d) = some S' → rOK n S' := fun S' h => by injection h with h; subst h; exact sD_ok d
    have u : mSp T n (rec_sum (g + 4)).2.2 (6 - (d + 1)) (unP T n (some (sD T n d))) := m_one (rP := (rec_sum (g + 3)).2.1) (rU := (rec_sum (g + 3)).2.2) hn (Or.inr ⟨by omega, sD T n d, rfl, ihg, sD_ok d⟩) (m_suD g)
    have pr : mSp T n (rec_sum (g + 5)).2.1 (6 - (d + 1)) (prP T n (some (sD T n d))) := fun p M L0 h hD hl => m_tm hn b_prod mr2 u (m_oneD (g + 3)) (un_ok so) p M L0 h hD hl
    exact fun p M L0 h hD hl => m_tm hn b_sum mr1 pr (m_prD (g + 3)) (pr_ok so) p M L0 h hD hl
theorem un_sk {T : Nat → Nat} {n p : Nat} {S : Option (Nat → RLq)} (hp : p ≤ n) : unP T n S (sk T n p) = unP T n S p := by unfold unP; rw [num_sk hp, wrd_sk hp, sk_sk hp]
theorem sD_sk {T : Nat → Nat} {n p d : Nat} (hp : p ≤ n) : sD T n d (sk T n p) = sD T n d p := by
  rw [sD_e, sD_e]
  unfold suP tmP prP tmP
  rw [un_sk hp]
