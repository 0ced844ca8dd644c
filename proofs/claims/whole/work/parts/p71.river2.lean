/-! river: the model -/
theorem rv_sk {T : Nat → Nat} {n f c p : Nat} {B : Bd} (hp : p ≤ n) : rv T n f c B (sk T n p) = rv T n f c B p := by
  match f with
  | 0 => rfl
  | f + 1 =>
    show (if sk T n (sk T n p) < n then bd (cla T n B c (sk T n p)) _ else _) = (if sk T n p < n then bd (cla T n B c p) _ else _)
    rw [cla_sk hp, sk_sk hp]
theorem m_nothing {M : Mem} : ok (f_X12_tellsNothing M) (fun M' => fr [57] M M' ∧ MB B0 M') := by
  unfold f_X12_tellsNothing
  refine ok_bind (P := fun M' => fr [57] M M' ∧ ∀ j, j < 3 → M' 57 0 j = 0) ?_ ?_
  · refine ok_wh (fun k s => s.1 = nI k ∧ fr [57] M s.2 ∧ ∀ j, j < k → s.2 57 0 j = 0) 3 ⟨rfl, fr_rfl, fun j hj => by cases hj⟩ (by decide) ?_ ?_
    · rintro k ⟨y, M1⟩ hk ⟨e1, f1, v1⟩
      simp only at e1 f1 v1
      subst e1
      unfold L_X12_tellsNothing_2
      simp only [nI_clamp (show k < 2 ^ 31 by omega)]
      refine ok_ifn (nI_ge (b := 3) hk (by decide)) (ok_ifp (inb_n (by omega) (by decide)) (ok_some ⟨nI_1 k, fr_u3 f1 (by decide), fun j hj => ?_⟩))
      show am_u3 M1 57 0 k 0 57 0 j = 0
      by_cases e : j = k
      · rw [e, u3_e]
      · rw [u3_j (by omega)]; exact v1 j (by omega)
    · rintro ⟨y, M1⟩ ⟨e1, f1, v1⟩
      simp only at e1 f1 v1
      subst e1
      unfold L_X12_tellsNothing_2
      exact ok_ifp (by decide) (ok_some ⟨f1, v1⟩)
  · rintro M1 ⟨f1, v1⟩
    refine ok_some ⟨fr_u3 (fr_u3 f1 (by decide)) (by decide), fun k hk => ?_, fun j hj => absurd hj (by show ¬ j < 0; omega), fun j hj => absurd hj (by show ¬ j < 0; omega), fun j hj => absurd hj (by show ¬ j < 0; omega)⟩
    have : k = 0 ∨ k = 1 ∨ k = 2 ∨ k = 3 ∨ k = 4 := by omega
    rcases this with rfl | rfl | rfl | rfl | rfl
    · rw [u3_j (by omega), u3_j (by omega), v1 0 (by decide)]; rfl
    · rw [u3_j (by omega), u3_j (by omega), v1 1 (by decide)]; rfl
    · rw [u3_j (by omega), u3_j (by omega), v1 2 (by decide)]; rfl
    · rw [u3_j (by omega), u3_e]; rfl
    · rw [u3_e]; rfl
theorem m_rv {T : Nat → Nat} {n : Nat} {M : Mem} (h : MS T n (sk T n 0) M) (hB : MB B0 M) (h7 : M 54 0 7 = 0) : ok (wh L_X12_river_42 FU M) (fun M' => pmv M M' ∧ ((∃ B p, rv T n 61 0 B0 0 = Sum.inl B ∧ MS T n p M' ∧ MB B M' ∧ WB B) ∨ (∃ f, rv T n 61 0 B0 0 = Sum.inr f ∧ MF T n f.1 f.2 M'))) := by
  generalize hX : rv T n 61 0 B0 0 = X
  have h600 := h.1.2.1
  refine ok_wh (fun k M' => pmv M M' ∧ ((∃ B p, MS T n p M' ∧ sk T n p = p ∧ MB B M' ∧ WB B ∧ M' 54 0 7 = nI k ∧ k ≤ 60 ∧ rv T n (61 - k) k B p = X) ∨ (∃ f, X = Sum.inr f ∧ MF T n f.1 f.2 M'))) 61 ⟨pmv_rfl, Or.inl ⟨B0, sk T n 0, h, sk_sk (Nat.zero_le _), hB, WB_0, h7, by decide, by rw [rv_sk (Nat.zero_le _)]; exact hX⟩⟩ (by decide) ?_ ?_
  · rintro k M1 hk ⟨m1, g⟩
    unfold L_X12_river_42
    rcases g with ⟨B, p, s1, hp, b1, w1, c1, hk6, ex⟩ | ⟨f, ex, s1⟩
    · rw [show 61 - k = (60 - k) + 1 by omega] at ex
      have hp2 := s1.2.1
      refine ok_ifp s1.2.2.2 ?_
      rw [s1.1.1, s1.2.2.1]
      by_cases hpn : p < n
      · have hend : sk T n p < n := by rw [hp]; exact hpn
        refine ok_ifn (nI_ge hpn (by omega)) (ok_bind (m_clause s1 b1 w1 c1 hk6) ?_)
        rintro M2 ⟨m2, q2⟩
        generalize hb : cla T n B k p = Y at q2
        rcases Y with y | f
        · obtain ⟨s2, b2, w2, c2⟩ := q2
          refine ok_bind (m_blanksS s2) ?_
          rintro M3 ⟨s3, m3⟩
          refine ok_some ⟨pmv_tr m1 (pmv_tr m2 (pmv_m m3)), Or.inl ⟨y.2, sk T n y.1, s3, sk_sk s2.2.1, MB_o b2 (m3.1 57 (by decide)) (m3.1 59 (by decide)) (m3.1 61 (by decide)) (m3.1 63 (by decide)), w2, by rw [m3.2 7 (by decide)]; exact c2, ?_, ?_⟩⟩
          · by_cases h60 : k = 60
            · subst h60
              obtain ⟨f, hf⟩ := cla_60 (T := T) (n := n) (p := p) (B := B)
              rw [hf] at hb; cases hb
            · omega
          · rw [show 61 - (k + 1) = 60 - k by omega, rv_sk s2.2.1, ← ex, rv_2 hend hb]
        · refine ok_bind (m_blanksF q2) ?_
          rintro M3 ⟨s3, m3⟩
          exact ok_some ⟨pmv_tr m1 (pmv_tr m2 (pmv_m m3)), Or.inr ⟨f, by rw [← ex, rv_1 hend hb], s3⟩⟩
      · refine ok_ifp (nI_le (by omega) (by omega)) (ok_some ⟨m1, Or.inl ⟨B, p, ?_, s1, b1, w1⟩⟩)
        rw [← ex, rv_3 (by rw [hp]; exact hpn)]
    · exact ok_ifn (MF_ne s1) (ok_some ⟨m1, Or.inr ⟨f, ex, s1⟩⟩)
  · rintro M1 ⟨m1, g⟩
    unfold L_X12_river_42
    rcases g with ⟨B, p, s1, hp, b1, w1, c1, hk6, ex⟩ | ⟨f, ex, s1⟩
    · omega
    · exact ok_ifn (MF_ne s1) (ok_some ⟨m1, Or.inr ⟨f, ex, s1⟩⟩)
/-- all is told anew -/
def NB (B : Bd) (M : Mem) : Prop := (∀ k, k < 5 → M 58 0 k = nI (B 0 k)) ∧ (∀ j, j < B 0 0 → M 60 (j + 1) 0 = nI (B 1 j) ∧ M 60 (j + 1) 1 = nI (B 2 j) ∧ M 60 (j + 1) 2 = nI (B 3 j) ∧ M 60 (j + 1) 3 = nI (B 4 j)) ∧ (∀ j, j < B 0 1 → M 62 (j + 1) 0 = nI (B 5 j) ∧ M 62 (j + 1) 1 = nI (B 6 j)) ∧ (∀ j, j < B 0 2 → M 64 (j + 1) 0 = nI (B 7 j) ∧ M 64 (j + 1) 1 = nI (B 8 j) ∧ M 64 (j + 1) 2 = nI (B 9 j))
def aC : List Nat := [54, 58, 60, 62, 64, 72]
def a54 : List Nat := [19, 34, 35, 36, 37]
theorem m_anew {B : Bd} {M : Mem} (h : MB B M) (hW : WB B) : ok (f_X12_beginsAnew M) (fun M' => fr aC M M' ∧ NB B M' ∧ (∀ j, j < 66 → M' 72 0 j = if (58 ≤ j ∧ j ≤ 62) ∨ j = 64 then -1 else 0) ∧ (∀ j, j ∈ a54 → M' 54 0 j = 0) ∧ ∀ j, j ∉ a54 → M' 54 0 j = M 54 0 j) := by
  obtain ⟨h0, h1, h2, h3⟩ := h
  unfold f_X12_beginsAnew
  refine ok_bind (P := fun M' => fr [58] M M' ∧ ∀ j, j < 5 → M' 58 0 j = nI (B 0 j)) ?_ ?_
  · refine ok_wh (fun k s => s.1 = nI k ∧ fr [58] M s.2 ∧ ∀ j, j < k → s.2 58 0 j = nI (B 0 j)) 5 ⟨rfl, fr_rfl, fun j hj => by cases hj⟩ (by decide) ?_ ?_
    · rintro k ⟨y, M1⟩ hk ⟨e1, f1, v1⟩
      simp only at e1 f1 v1
      subst e1
      unfold L_X12_beginsAnew_2
      simp only [nI_clamp (show k < 2 ^ 31 by omega)]
      refine ok_ifn (nI_ge (b := 5) hk (by decide)) (ok_ifp (inb_n (by omega) (by decide)) (ok_some ⟨nI_1 k, fr_u3 f1 (by decide), fun j hj => ?_⟩))
      show am_u3 M1 58 0 k (M1 57 0 k) 58 0 j = _
      by_cases e : j = k
      · rw [e, u3_e, f1 57 (by decide)]; exact h0 k hk
      · rw [u3_j (by omega)]; exact v1 j (by omega)
    · rintro ⟨y, M1⟩ ⟨e1, f1, v1⟩
      simp only at e1 f1 v1
      subst e1
      unfold L_X12_beginsAnew_2
      exact ok_ifp (by decide) (ok_some ⟨f1, v1⟩)
  · rintro M3 ⟨f3, v3⟩
    rw [v3 0 (by decide)]
    refine ok_bind (m_layB hW.1) ?_
    rintro M4 ⟨f4, v4⟩
    rw [f4 58 (by decide), v3 1 (by decide)]
    refine ok_bind (m_layG hW.2.1) ?_
    rintro M5 ⟨f5, v5⟩
    rw [f5 58 (by decide), f4 58 (by decide), v3 2 (by decide)]
    refine ok_bind (m_layS hW.2.2.1) ?_
    rintro M6 ⟨f6, v6⟩
    refine ok_bind (P := fun M' => fr [72] M6 M' ∧ ∀ j, j < 66 → M' 72 0 j = if (58 ≤ j ∧ j ≤ 62) ∨ j = 64 then -1 else 0) ?_ ?_
    · refine ok_wh (fun k s => s.1 = nI k ∧ fr [72] M6 s.2 ∧ ∀ j, j < k → s.2 72 0 j = if (58 ≤ j ∧ j ≤ 62) ∨ j = 64 then -1 else 0) 66 ⟨rfl, fr_rfl, fun j hj => by cases hj⟩ (by decide) ?_ ?_
      · rintro k ⟨y, M1⟩ hk ⟨e1, f1, v1⟩
        simp only at e1 f1 v1
        subst e1
        have put : ∀ x : Int32, x = (if (58 ≤ k ∧ k ≤ 62) ∨ k = 64 then -1 else 0) → ok (some (Sum.inl (nI k + 1, am_u3 M1 72 0 k x)) : Option ((Int32 × Mem) ⊕ Mem)) (stp (fun s => s.1 = nI (k + 1) ∧ fr [72] M6 s.2 ∧ ∀ j, j < k + 1 → s.2 72 0 j = if (58 ≤ j ∧ j ≤ 62) ∨ j = 64 then -1 else 0) (fun M' => fr [72] M6 M' ∧ ∀ j, j < 66 → M' 72 0 j = if (58 ≤ j ∧ j ≤ 62) ∨ j = 64 then -1 else 0)) := by
          intro x hx
          refine ok_some ⟨nI_1 k, fr_u3 f1 (by decide), fun j hj => ?_⟩
          show am_u3 M1 72 0 k x 72 0 j = _
          by_cases e : j = k
          · rw [e, u3_e, hx]
          · rw [u3_j (by omega)]; exact v1 j (by omega)
        unfold L_X12_beginsAnew_78
        simp only [nI_clamp (show k < 2 ^ 31 by omega)]
        refine ok_ifn (nI_ge (b := 66) hk (by decide)) ?_
        have hin : f_X12_in (nI k) 58 62 = 0 ↔ ¬ (58 ≤ k ∧ k ≤ 62) := by
          rw [in_eq, show (58 : Int32) = nI 58 from rfl, show (62 : Int32) = nI 62 from rfl, nI_ltI (by omega) (by decide), nI_ltI (by decide) (by omega)]
          omega
        by_cases h1 : 58 ≤ k ∧ k ≤ 62
        · exact ok_ifn (fun z => hin.mp z h1) (ok_ifp (inb_n hk (by decide)) (put (-1) (by rw [if_pos (Or.inl h1)])))
        · refine ok_ifp (hin.mpr h1) ?_
          by_cases h2 : k = 64
          · exact ok_ifp (by rw [h2]; rfl) (ok_ifp (inb_n hk (by decide)) (put (-1) (by rw [if_pos (Or.inr h2)])))
          · exact ok_ifn (show ¬ nI k = 64 from fun z => h2 ((nI_eq (b := 64) (by omega) (by decide)).mp z)) (ok_ifp (inb_n hk (by decide)) (put 0 (by rw [if_neg (by omega)])))
      · rintro ⟨y, M1⟩ ⟨e1, f1, v1⟩
        simp only at e1 f1 v1
        subst e1
        unfold L_X12_beginsAnew_78
        exact ok_ifp (by decide) (ok_some ⟨f1, v1⟩)
    · rintro M13 ⟨f13, v13⟩
      have F : fr [58, 60, 62, 64, 72] M M13 := fr_tr (fr_mono f3 (by decide)) (fr_tr (fr_mono f4 (by decide)) (fr_tr (fr_mono f5 (by decide)) (fr_tr (fr_mono f6 (by decide)) (fr_mono f13 (by decide)))))
      have g : ∀ j, (am_u3 (am_u3 (am_u3 (am_u3 (am_u3 M13 54 0 19 (0 : Int32)) 54 0 34 (0 : Int32)) 54 0 35 (0 : Int32)) 54 0 36 (0 : Int32)) 54 0 37 (0 : Int32)) 54 0 j = if j = 37 then 0 else if j = 36 then 0 else if j = 35 then 0 else if j = 34 then 0 else if j = 19 then 0 else M13 54 0 j := by
        intro j
        simp only [u3_x, true_and]
      have gc : ∀ c, c ≠ 54 → (am_u3 (am_u3 (am_u3 (am_u3 (am_u3 M13 54 0 19 (0 : Int32)) 54 0 34 (0 : Int32)) 54 0 35 (0 : Int32)) 54 0 36 (0 : Int32)) 54 0 37 (0 : Int32)) c = M13 c := by
        intro c hc
        rw [u3_c hc, u3_c hc, u3_c hc, u3_c hc, u3_c hc]
      refine ok_some ?_
      generalize (am_u3 (am_u3 (am_u3 (am_u3 (am_u3 M13 54 0 19 (0 : Int32)) 54 0 34 (0 : Int32)) 54 0 35 (0 : Int32)) 54 0 36 (0 : Int32)) 54 0 37 (0 : Int32)) = M14 at g gc
      refine ⟨fun c hc => ?_, ⟨fun k hk => ?_, fun j hj => ?_, fun j hj => ?_, fun j hj => ?_⟩, fun j hj => ?_, fun j hj => ?_, fun j hj => ?_⟩
      · rw [gc c (by rintro rfl; exact hc (by decide)), F c (fun z => hc (List.mem_cons_of_mem _ z))]
      · rw [gc 58 (by decide), f13 58 (by decide), f6 58 (by decide), f5 58 (by decide), f4 58 (by decide)]; exact v3 k hk
      · rw [gc 60 (by decide), f13 60 (by decide), f6 60 (by decide), f5 60 (by decide), v4 j hj 0 (by decide), v4 j hj 1 (by decide), v4 j hj 2 (by decide), v4 j hj 3 (by decide), f3 59 (by decide)]
        exact h1 j hj
      · rw [gc 62 (by decide), f13 62 (by decide), f6 62 (by decide), v5 j hj 0 (by decide), v5 j hj 1 (by decide), f4 61 (by decide), f3 61 (by decide)]
        exact h2 j hj
      · rw [gc 64 (by decide), f13 64 (by decide), v6 j hj 0 (by decide), v6 j hj 1 (by decide), v6 j hj 2 (by decide), f5 63 (by decide), f4 63 (by decide), f3 63 (by decide)]
        exact h3 j hj
      · rw [gc 72 (by decide)]; exact v13 j hj
      · rw [g j]
        unfold a54 at hj
        simp at hj
        rcases hj with rfl | rfl | rfl | rfl | rfl <;> rfl
      · rw [g j, if_neg (fun z => hj (by rw [z]; decide)), if_neg (fun z => hj (by rw [z]; decide)), if_neg (fun z => hj (by rw [z]; decide)), if_neg (fun z => hj (by rw [z]; decide)), if_neg (fun z => hj (by rw [z]; decide)), F 54 (by decide)]
