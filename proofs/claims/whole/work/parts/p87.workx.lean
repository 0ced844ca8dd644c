/-! work: the model's call -/
def kW : List Nat := [0, 1, 2, 3, 4, 5, 6, 7, 8, 28, 35, 36, 40, 41]
theorem sW : ∀ j, j ∉ kW → j ∉ s54 ∧ j ∉ k28 ∧ j ≠ 0 ∧ j ≠ 3 ∧ j ≠ 28 ∧ j ≠ 35 ∧ j ≠ 36 ∧ j ≠ 40 ∧ j ≠ 41 := by
  intro j hj
  refine ⟨fun z => hj ?_, fun z => hj ?_, ?_, ?_, ?_, ?_, ?_, ?_, ?_⟩
  · exact (by decide : ∀ j, j ∈ s54 → j ∈ kW) j z
  · exact (by decide : ∀ j, j ∈ k28 → j ∈ kW) j z
  all_goals (rintro rfl; exact hj (by decide))
theorem m_workP {T : Nat → Nat} {t n nb w : Nat} {Mc : Mem} {Q : Int32 × Mem → Prop} (ht : t ≤ 600) (t3 : Mc 54 0 1 = nI t) (hnt : n ≤ min t 150) (hT : ∀ j, j < n → Mc 55 0 j = nI (T j) ∧ T j < 256) (h35 : Mc 54 0 35 = nI w) (hw : w < 16) (h58 : Mc 58 0 0 = nI nb) (hnb : nb ≤ 16)
    (hS : ∀ e K N1, wkP T n nb = Sum.inl (e, K) → fr [54, 71, 75] Mc N1 → (∀ j, j ∉ kW → N1 54 0 j = Mc 54 0 j) → N1 54 0 0 = 0 → N1 54 0 1 = 0 → N1 54 0 3 = -1 → N1 54 0 35 = nI (w + 1) → N1 54 0 36 = 0 → N1 54 0 40 = 0 → N1 54 0 41 = 0 → (∀ j, j < 66 → N1 75 (w + 1) j = Mc 72 0 j) → (∀ r, r ≠ w + 1 → N1 75 r = Mc 75 r) → AQ 0 K N1 → ok (Option.bind (f_X12_goes 0 (nI K.length) N1) (fun M24 => some (M24 54 0 41, M24))) Q)
    (hF : ∀ f N1, wkP T n nb = Sum.inr f → fr [54, 71] Mc N1 → (∀ j, j ∉ [0, 1, 2, 3, 4, 5, 6, 7, 8, 28] → N1 54 0 j = Mc 54 0 j) → N1 54 0 0 = 0 → N1 54 0 1 = 0 → N1 54 0 3 = nI f.2 → Q (nI f.1 - 10, N1)) : ok (f_X12_work (nI n) Mc) Q := by
  unfold f_X12_work
  have i1 : ¬ f_X12_in (nI n) 0 (Mc 54 0 1) = 0 := by
    rw [in_t t3]
    rintro (z | z)
    · exact nI_pos (by omega) z
    · rw [nI_ltI (by omega) (by omega)] at z; omega
  refine ok_ifn i1 (ok_ifp (show nI n ≤ 150 from nI_le (b := 150) (by omega) (by decide)) (ok_bindE (badM0 _ _ _) (ok_ifp rfl ?_)))
  have n16 : ¬ (M0 Mc) 54 0 35 = 16 := by
    rw [M0_j (by decide), h35]
    exact fun z => by have := (nI_eq (b := 16) (by omega) (by decide)).mp z; omega
  refine ok_ifn n16 (ok_bind (m_starts (T := T) (n := n) (M := M0 Mc) (by omega) (fun j hj => ?_)) ?_)
  · rw [M0_cc (by decide)]; exact hT j hj
  · rintro M19 ⟨s19, f19, g19, -, g8⟩
    have k19 : ∀ j, j ∉ s54 → j ≠ 0 → M19 54 0 j = Mc 54 0 j := fun j hj h0 => by rw [g19 j hj, M0_j h0]
    have s20 : MS T n (sk T n 0) (am_u3 M19 54 0 28 0) := MS_w s19 (u3_c (by decide)) (fun j hj => u3_j (by rintro ⟨-, rfl⟩; revert hj; decide))
    have e8 : (am_u3 M19 54 0 28 0) 54 0 8 = nI 0 := (u3_j (by omega)).trans g8
    have e28 : (am_u3 M19 54 0 28 0) 54 0 28 = nI 0 := u3_e _ _ _ _ _
    have e58 : (am_u3 M19 54 0 28 0) 58 0 0 = nI nb := by rw [u3_c (by decide), f19 58 (by decide), M0_cc (by decide)]; exact h58
    have w20 : wmm 0 M19 (am_u3 M19 54 0 28 0) := wmm_u wmm_rfl (by decide)
    generalize am_u3 M19 54 0 28 0 = M20 at s20 e8 e28 e58 w20
    have row := m_rowW (nest := false) (m := 0) (d := 6) (S := rwO T n nb 6) (by omega) (b_top (T := T) (n := n) (by omega)) (m_stepsD (T := T) (n := n) (nb := nb) (by omega) hnb 6 30 (by decide) (by decide)) (st_ok rwO_ok) (st_l rwO_d) (sk T n 0) M20 0 s20 (sk_sk (Nat.zero_le _)) e58 e8 e28 (Nat.zero_le _)
    rw [rwP_sk (Nat.zero_le _) (by decide)] at row
    refine ok_bind row ?_
    rintro M21 ⟨w21, l21⟩
    have l21' : LQ T n 0 0 (wkP T n nb) M21 := l21
    have W21 : wmm 0 M19 M21 := wmm_tr w20 w21 (Nat.le_refl _)
    have F21 : fr [54, 71] Mc M21 := fr_tr (fr_tr (fr_mono (M0_f Mc) (by decide)) (fr_mono f19 (by decide))) W21.1
    have e1 : M21 54 0 1 = 0 := (W21.2.1 1 (by decide)).trans s19.1.2.2.1
    have e0 : M21 54 0 0 = 0 := by rw [W21.2.1 0 (by decide), g19 0 (by decide)]; exact M0_t Mc
    have kk : ∀ j, j ∉ s54 → j ≠ 0 → j ∉ k28 → M21 54 0 j = Mc 54 0 j := fun j a b d => by rw [W21.2.1 j d, k19 j a b]
    clear l21
    generalize hX : wkP T n nb = X at l21'
    rcases X with ⟨e, K⟩ | f
    · obtain ⟨s21, -, aq⟩ := l21'
      have e35 : M21 54 0 35 = nI w := (kk 35 (by decide) (by decide) (by decide)).trans h35
      refine ok_ifp s21.2.2.2 (ok_ifp (by rw [e35]; exact inb_n hw (by decide)) ?_)
      rw [e35, nI_clamp (show w < 2 ^ 31 by omega)]
      refine ok_bind (m_copb (r1 := w + 1)) ?_
      rintro M23 ⟨f23, v23, o23⟩
      have j23 : ∀ j, j ≠ 3 → M23 54 0 j = M21 54 0 j := fun j hj => by rw [f23 54 (by decide), u33 hj]
      rw [j23 28 (by decide), aq.1, Nat.zero_add]
      have e23 : M23 54 0 35 + 1 = nI (w + 1) := by rw [j23 35 (by decide), e35, nI_1]
      rw [e23]
      have jj : ∀ j, (am_u3 (am_u3 (am_u3 (am_u3 M23 54 0 35 (nI (w + 1))) 54 0 40 0) 54 0 41 0) 54 0 36 0) 54 0 j = if j = 36 then 0 else if j = 41 then 0 else if j = 40 then 0 else if j = 35 then nI (w + 1) else M23 54 0 j := by
        intro j
        by_cases h1 : j = 36
        · rw [if_pos h1, h1, u3_e]
        · rw [if_neg h1, u3_j (fun z => h1 z.2)]
          by_cases h2 : j = 41
          · rw [if_pos h2, h2, u3_e]
          · rw [if_neg h2, u3_j (fun z => h2 z.2)]
            by_cases h3 : j = 40
            · rw [if_pos h3, h3, u3_e]
            · rw [if_neg h3, u3_j (fun z => h3 z.2)]
              by_cases h4 : j = 35
              · rw [if_pos h4, h4, u3_e]
              · rw [if_neg h4, u3_j (fun z => h4 z.2)]
      have jc : ∀ c, c ≠ 54 → (am_u3 (am_u3 (am_u3 (am_u3 M23 54 0 35 (nI (w + 1))) 54 0 40 0) 54 0 41 0) 54 0 36 0) c = M23 c := fun c hc => by rw [u3_c hc, u3_c hc, u3_c hc, u3_c hc]
      generalize am_u3 (am_u3 (am_u3 (am_u3 M23 54 0 35 (nI (w + 1))) 54 0 40 0) 54 0 41 0) 54 0 36 0 = N1 at jj jc
      have x75 : ∀ r, (am_u3 M21 54 0 3 (-1)) 75 r = Mc 75 r := fun r => by rw [u3_c (by decide), F21 75 (by decide)]
      refine hS e K N1 hX ?_ (fun j hj => ?_) ?_ ?_ ?_ ?_ ?_ ?_ ?_ (fun j hj => ?_) (fun r hr => ?_) ⟨?_, fun i hi => ?_⟩
      · intro c hc
        have c54 : c ≠ 54 := fun z => hc (by rw [z]; decide)
        have c71 : c ≠ 71 := fun z => hc (by rw [z]; decide)
        have c75 : c ≠ 75 := fun z => hc (by rw [z]; decide)
        rw [jc c c54, f23 c (by simpa using c75), u3_c c54, F21 c (by simp; exact ⟨c54, c71⟩)]
      · obtain ⟨a1, a2, a3, a4, a5, a6, a7, a8, a9⟩ := sW j hj
        rw [jj, if_neg a7, if_neg a9, if_neg a8, if_neg a6, j23 j a4, kk j a1 a3 a2]
      · rw [jj, if_neg (by decide), if_neg (by decide), if_neg (by decide), if_neg (by decide), j23 0 (by decide)]; exact e0
      · rw [jj, if_neg (by decide), if_neg (by decide), if_neg (by decide), if_neg (by decide), j23 1 (by decide)]; exact e1
      · rw [jj, if_neg (by decide), if_neg (by decide), if_neg (by decide), if_neg (by decide), f23 54 (by decide), u3_e]
      · rw [jj, if_neg (by decide), if_neg (by decide), if_neg (by decide), if_pos rfl]
      · rw [jj, if_pos rfl]
      · rw [jj, if_neg (by decide), if_neg (by decide), if_pos rfl]
      · rw [jj, if_neg (by decide), if_pos rfl]
      · rw [jc 75 (by decide), v23 j hj, u3_c (by decide), F21 72 (by decide)]
      · rw [jc 75 (by decide), o23 r hr]; exact x75 r
      · rw [jj, if_neg (by decide), if_neg (by decide), if_neg (by decide), if_neg (by decide), j23 28 (by decide)]; exact aq.1
      · rw [jc 71 (by decide), f23 71 (by decide), u3_c (by decide)]; exact aq.2 i hi
    · have l21 : MF T n f.1 f.2 M21 := l21'
      refine ok_ifn (MF_ne l21) (ok_some ?_)
      rw [l21.2.1, l21.2.2.2.1]
      refine hF f _ hX (fr_u3 F21 (by decide)) (fun j hj => ?_) ((u33 (by decide)).trans e0) ((u33 (by decide)).trans e1) (u3_e _ _ _ _ _)
      have a3 : j ≠ 3 := by rintro rfl; exact hj (by decide)
      have a0 : j ≠ 0 := by rintro rfl; exact hj (by decide)
      have as : j ∉ s54 := fun z => hj ((by decide : ∀ j, j ∈ s54 → j ∈ [0, 1, 2, 3, 4, 5, 6, 7, 8, 28]) j z)
      have ak : j ∉ k28 := fun z => hj ((by decide : ∀ j, j ∈ k28 → j ∈ [0, 1, 2, 3, 4, 5, 6, 7, 8, 28]) j z)
      rw [u33 a3]; exact kk j as a0 ak
