/-! WORKS: the model reads -/
def k28 : List Nat := [4, 5, 6, 8, 28]
theorem k456k28 : ∀ j, j ∈ k456 → j ∈ k28 := by decide
def wmm (c : Nat) (M M' : Mem) : Prop := fr [54, 71] M M' ∧ (∀ j, j ∉ k28 → M' 54 0 j = M 54 0 j) ∧ ∀ r, r ≤ c → M' 71 r = M 71 r
theorem wmm_rfl {c : Nat} {M : Mem} : wmm c M M := ⟨fr_rfl, fun _ _ => rfl, fun _ _ => rfl⟩
theorem wmm_tr {c c' : Nat} {M M1 M2 : Mem} (a : wmm c M M1) (b : wmm c' M1 M2) (h : c ≤ c') : wmm c M M2 := ⟨fr_tr a.1 b.1, fun j hj => (b.2.1 j hj).trans (a.2.1 j hj), fun r hr => (b.2.2 r (by omega)).trans (a.2.2 r hr)⟩
theorem wmm_m {c : Nat} {M M' : Mem} (a : mmv M M') : wmm c M M' := ⟨fr_mono a.1 (by decide), fun j hj => a.2 j (fun z => hj (k456k28 j z)), fun r _ => by rw [a.1 71 (by decide)]⟩
theorem wmm_u {c j : Nat} {v : Int32} {M M' : Mem} (a : wmm c M M') (h : j ∈ k28) : wmm c M (am_u3 M' 54 0 j v) := ⟨fr_u3 a.1 (by decide), fun i hi => (u3_j (fun z => hi (by rw [z.2]; exact h))).trans (a.2.1 i hi), fun r hr => by rw [u3_c (by decide)]; exact a.2.2 r hr⟩
theorem wmm_r {c j : Nat} {v : Int32} {M M' : Mem} (a : wmm c M M') : wmm c M (am_u3 M' 71 (c + 1) j v) := ⟨fr_u3 a.1 (by decide), fun i hi => by rw [u3_c (by decide)]; exact a.2.1 i hi, fun r hr => by rw [u3_rr (by omega)]; exact a.2.2 r hr⟩
def AQ (c : Nat) (K : List Rc) (M : Mem) : Prop := M 54 0 28 = nI (c + K.length) ∧ ∀ i, i < K.length → M 71 (c + i + 1) 0 = nI (K.getD i (0, 0, 0)).1 ∧ ((K.getD i (0, 0, 0)).1 ≠ 3 → M 71 (c + i + 1) 1 = nI (K.getD i (0, 0, 0)).2.1) ∧ M 71 (c + i + 1) 2 = nI (c + i + (K.getD i (0, 0, 0)).2.2)
theorem AQ_m {c : Nat} {K : List Rc} {M M' : Mem} (h : AQ c K M) (a : mmv M M') : AQ c K M' := by
  unfold AQ at *
  rw [a.2 28 (by decide), a.1 71 (by decide)]; exact h
theorem AQ_2 {c : Nat} {K K' : List Rc} {M M' : Mem} (h : AQ c K M) (w : wmm (c + K.length) M M') (h' : AQ (c + K.length) K' M') : AQ c (K ++ K') M' := by
  refine ⟨by rw [h'.1, List.length_append, Nat.add_assoc], fun i hi => ?_⟩
  rw [List.length_append] at hi
  by_cases hl : i < K.length
  · rw [gD_l hl, w.2.2 (c + i + 1) (by omega)]
    exact h.2 i hl
  · obtain ⟨j, rfl⟩ : ∃ j, i = K.length + j := ⟨i - K.length, by omega⟩
    rw [gD_r, ← Nat.add_assoc]
    exact h'.2 j (by omega)
def LQ (T : Nat → Nat) (n m c : Nat) (x : RW) (M : Mem) : Prop := match x with
  | Sum.inl y => MS T n y.1 M ∧ M 54 0 8 = nI m ∧ AQ c y.2 M
  | Sum.inr f => MF T n f.1 f.2 M
theorem LQ_e {T : Nat → Nat} {n m c ch : Nat} {X : RW} {M : Mem} (hc : ch < 256) (h : LQ T n m c X M) : ok (f_X12_sign (nI ch) M) (fun M' => mmv M M' ∧ LQ T n m c (xQ T n ch X) M') := by
  rcases X with x | f
  · obtain ⟨s, e8, a⟩ := h
    refine ok_mono (m_sign s hc) ?_
    rintro M' ⟨r, mm⟩
    have e0 : xQ T n ch (Sum.inl x) = bd (exq T n ch x.1) (fun e => Sum.inl (e, x.2)) := rfl
    rw [e0]
    generalize exq T n ch x.1 = Y at r
    rcases Y with e | f
    · exact ⟨mm, r, (mm.2 8 (by decide)).trans e8, AQ_m a mm⟩
    · exact ⟨mm, r⟩
  · rw [m_signF h]
    exact ok_some ⟨mmv_rfl, h⟩
theorem m_blF {T : Nat → Nat} {n k q : Nat} {M : Mem} (h : MF T n k q M) : ok (f_X12_blanks M) (fun M' => mmv M M' ∧ MF T n k q M') := by
  obtain ⟨a1, a2, a3, a4, p, hp, a5⟩ := h
  refine ok_of (m_blanks a1 hp a5) ?_
  have m18 : mmv M (am_u3 M 54 0 4 (nI (sk T n p))) := mmv_u mmv_rfl (by decide)
  exact ⟨m18, MT_m a1 m18, (u3_j (by omega)).trans a2, a3, (u3_j (by omega)).trans a4, _, sk_le hp, u3_e _ _ _ _ _⟩
def mSt (T : Nat → Nat) (n nb m : Nat) (F : Mem → Option Mem) (P : Nat → RW) : Prop := ∀ p M c, MS T n p M → M 58 0 0 = nI nb → M 54 0 8 = nI m → M 54 0 28 = nI c → 5 * c ≤ p → ok (F M) (fun M' => wmm c M M' ∧ LQ T n m c (P p) M')
abbrev LBw : Type := Mem → Option (Mem ⊕ Mem)
def bRW (T : Nat → Nat) (n : Nat) (nest : Bool) (r : Mem → Option Mem) (B : LBw) : Prop := (∀ M, ¬ M 54 0 5 = 0 → B M = some (Sum.inr M)) ∧ (∀ p M, MS T n p M → sk T n p = p → stopW T n nest p → B M = some (Sum.inr M)) ∧ (∀ p M, MS T n p M → sk T n p = p → ¬ stopW T n nest p → B M = Option.bind (r M) (fun M8 => Option.bind (f_X12_blanks M8) (fun M9 => some (Sum.inl M9))))
theorem b_in {T : Nat → Nat} {n : Nat} {r : Mem → Option Mem} : bRW T n true r (L_RX12_readsStep_114 r) := by
  have hsW : ∀ p, sk T n p = p → (stopW T n true p ↔ (p < n ∧ T p = 93)) := by
    intro p hp
    show stopB T n true p = true ↔ _
    unfold stopB; rw [if_pos rfl, decide_eq_true_eq, hp]
  refine ⟨fun M h => by unfold L_RX12_readsStep_114; rw [if_neg h], fun p M h hp hst => ?_, fun p M h hp hst => ?_⟩
  · have hx := (hsW p hp).mp hst
    unfold L_RX12_readsStep_114
    rw [if_pos h.2.2.2, h.2.2.1, byT h.1 h.2.1, if_pos hx.1, hx.2]
    rfl
  · have hx : ¬ (p < n ∧ T p = 93) := fun z => hst ((hsW p hp).mpr z)
    unfold L_RX12_readsStep_114
    rw [if_pos h.2.2.2, h.2.2.1, byT h.1 h.2.1]
    show (if (if p < n then nI (T p) else -1) = 93 then _ else _) = _
    rw [if_neg]
    by_cases hl : p < n
    · rw [if_pos hl]
      intro z
      have := (h.1.2.2.2 p hl).2
      exact hx ⟨hl, (nI_eq (b := 93) (by omega) (by decide)).mp z⟩
    · rw [if_neg hl]; decide
theorem b_top {T : Nat → Nat} {n : Nat} (hn : n ≤ 150) : bRW T n false f_X12_readsStep L_X12_work_72 := by
  have hsW : ∀ p, sk T n p = p → (stopW T n false p ↔ ¬ p < n) := by
    intro p hp
    show stopB T n false p = true ↔ _
    unfold stopB; rw [if_neg (by decide), decide_eq_true_eq, hp]
  refine ⟨fun M h => by unfold L_X12_work_72; rw [if_neg h], fun p M h hp hst => ?_, fun p M h hp hst => ?_⟩
  · have hx := (hsW p hp).mp hst
    unfold L_X12_work_72
    rw [if_pos h.2.2.2, h.2.2.1, h.1.1, if_pos (nI_le (by omega) (by have := h.2.1; omega))]
  · have hx : p < n := by
      by_cases z : p < n
      · exact z
      · exact absurd ((hsW p hp).mpr z) hst
    unfold L_X12_work_72
    rw [if_pos h.2.2.2, h.2.2.1, h.1.1, if_neg (nI_ge hx (by omega))]
theorem m_rowW {T : Nat → Nat} {n nb m d : Nat} {nest : Bool} {r : Mem → Option Mem} {B : LBw} {S : Option (Nat → RW)} (hn : n ≤ 150) (hB : bRW T n nest r B) (hU : mSt T n nb m r (stP T n nb S)) (uo : wOK n nb d (stP T n nb S)) (ul : ∀ p e K, stP T n nb S p = Sum.inl (e, K) → p ≤ n → p + 2 ≤ e) (p : Nat) (M : Mem) (c : Nat) (h : MS T n p M) (hp : sk T n p = p) (h58 : M 58 0 0 = nI nb) (h8 : M 54 0 8 = nI m) (h28 : M 54 0 28 = nI c) (hcp : 5 * c ≤ p) : ok (wh B FU M) (fun M' => wmm c M M' ∧ LQ T n m c (rwP T n nest (stP T n nb S) 151 p []) M') := by
  obtain ⟨hB1, hB2, hB3⟩ := hB
  generalize hX : rwP T n nest (stP T n nb S) 151 p [] = X
  have st0 : wmm c M M ∧ ((∃ p K, MS T n p M ∧ sk T n p = p ∧ M 54 0 8 = nI m ∧ AQ c K M ∧ 2 * 0 ≤ p ∧ 5 * (c + K.length) ≤ p ∧ rwP T n nest (stP T n nb S) (151 - 0) p K = X) ∨ (∃ f, X = Sum.inr f ∧ MF T n f.1 f.2 M)) := ⟨wmm_rfl, Or.inl ⟨p, [], h, hp, h8, ⟨h28, fun i hi => by cases hi⟩, by omega, hcp, hX⟩⟩
  refine ok_wh (fun k s => wmm c M s ∧ ((∃ p K, MS T n p s ∧ sk T n p = p ∧ s 54 0 8 = nI m ∧ AQ c K s ∧ 2 * k ≤ p ∧ 5 * (c + K.length) ≤ p ∧ rwP T n nest (stP T n nb S) (151 - k) p K = X) ∨ (∃ f, X = Sum.inr f ∧ MF T n f.1 f.2 s))) 150 (by exact st0) (by decide) ?_ ?_
  · rintro k M2 hk ⟨w2, gg⟩
    rcases gg with ⟨p', K, s2, hp2, e8, a2, hkp, hlp, ex⟩ | ⟨f, ex, s2⟩
    · rw [show 151 - k = (150 - k) + 1 by omega] at ex
      by_cases hst : stopW T n nest p'
      · rw [hB2 p' M2 s2 hp2 hst]
        refine ok_some ⟨w2, ?_⟩
        rw [← ex, rwP_s hst, hp2]
        exact ⟨s2, e8, a2⟩
      · rw [hB3 p' M2 s2 hp2 hst]
        refine ok_bind (hU p' M2 (c + K.length) s2 (by rw [w2.1 58 (by decide)]; exact h58) e8 a2.1 hlp) ?_
        rintro M6 ⟨w6, l6⟩
        have W6 := wmm_tr w2 w6 (Nat.le_add_right _ _)
        generalize hu2 : stP T n nb S p' = Y at l6
        rcases Y with y2 | f
        · obtain ⟨s6, e6, a6⟩ := l6
          have g2 := uo p' y2.1 y2.2 s2.2.1 hu2
          have g3 := ul p' y2.1 y2.2 hu2 s2.2.1
          obtain ⟨s7, m7, -⟩ := m_again s6
          have hs := sk_f (T := T) s6.2.1
          refine ok_bindE (m_blanks s6.1 s6.2.1 s6.2.2.1) (ok_some ⟨wmm_tr W6 (wmm_m m7) (Nat.le_refl _), Or.inl ⟨sk T n y2.1, K ++ y2.2, s7, sk_sk s6.2.1, (m7.2 8 (by decide)).trans e6, AQ_m (AQ_2 a2 w6 a6) m7, by omega, by rw [List.length_append]; omega, ?_⟩⟩)
          rw [show 151 - (k + 1) = 150 - k by omega, rwP_sk s6.2.1 (by omega), ← ex, rwP_i hst hu2]
        · refine ok_bind (m_blF l6) ?_
          rintro M7 ⟨m7, l7⟩
          exact ok_some ⟨wmm_tr W6 (wmm_m m7) (Nat.le_refl _), Or.inr ⟨f, by rw [← ex, rwP_r hst hu2], l7⟩⟩
    · rw [hB1 M2 (MF_ne s2)]
      refine ok_some ⟨w2, ?_⟩
      rw [ex]; exact s2
  · rintro M2 ⟨w2, gg⟩
    rcases gg with ⟨p', K, s2, hp2, e8, a2, hkp, hlp, ex⟩ | ⟨f, ex, s2⟩
    · have := s2.2.1; omega
    · rw [hB1 M2 (MF_ne s2)]
      refine ok_some ⟨w2, ?_⟩
      rw [ex]; exact s2
