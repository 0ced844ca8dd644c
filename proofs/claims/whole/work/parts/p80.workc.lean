/-! WORKS: the class reads -/
theorem ok_bind2 {α β γ : Type} {a : Option α} {f : α → Option β} {g : β → Option γ} {P : β → Prop} {Q : γ → Prop} (h : ok (Option.bind a f) P) (k : ∀ y, P y → ok (g y) Q) : ok (Option.bind a (fun x => Option.bind (f x) g)) Q := by
  cases a with
  | none => obtain ⟨y, hy, -⟩ := h; cases hy
  | some x =>
    obtain ⟨y, hy, hp⟩ := h
    show ok (Option.bind (f x) g) Q
    rw [show f x = some y from hy]
    exact k y hp
def wmv (c : Nat) (M M' : Mem) : Prop := fr [1, 34, 35, 36, 37] M M' ∧ M' 1 0 1 = M 1 0 1 ∧ (∀ j, j ≠ 3 → M' 34 0 j = M 34 0 j) ∧ ∀ i, i < c → M' 35 0 i = M 35 0 i ∧ M' 36 0 i = M 36 0 i ∧ M' 37 0 i = M 37 0 i
theorem wmv_rfl {c : Nat} {M : Mem} : wmv c M M := ⟨fr_rfl, rfl, fun _ _ => rfl, fun _ _ => ⟨rfl, rfl, rfl⟩⟩
theorem wmv_tr {c c' : Nat} {M M1 M2 : Mem} (a : wmv c M M1) (b : wmv c' M1 M2) (h : c ≤ c') : wmv c M M2 := ⟨fr_tr a.1 b.1, b.2.1.trans a.2.1, fun j hj => (b.2.2.1 j hj).trans (a.2.2.1 j hj), fun i hi => ⟨(b.2.2.2 i (by omega)).1.trans (a.2.2.2 i hi).1, (b.2.2.2 i (by omega)).2.1.trans (a.2.2.2 i hi).2.1, (b.2.2.2 i (by omega)).2.2.trans (a.2.2.2 i hi).2.2⟩⟩
theorem wmv_c {c : Nat} {M M' : Mem} (a : cmv M M') : wmv c M M' := ⟨fr_mono a.1 (by decide), a.2.1, fun j _ => by rw [a.1 34 (by decide)], fun i _ => ⟨by rw [a.1 35 (by decide)], by rw [a.1 36 (by decide)], by rw [a.1 37 (by decide)]⟩⟩
def rcA (r : Rc) : Nat := r.1
def AP (c : Nat) (K : List Rc) (M : Mem) : Prop := M 34 0 3 = nI (c + K.length) ∧ ∀ i, i < K.length → M 35 0 (c + i) = nI (K.getD i (0, 0, 0)).1 ∧ M 36 0 (c + i) = nI (K.getD i (0, 0, 0)).2.1 ∧ M 37 0 (c + i) = nI (c + i + (K.getD i (0, 0, 0)).2.2)
theorem gD_l {L K : List Rc} {i : Nat} (h : i < L.length) : (L ++ K).getD i (0, 0, 0) = L.getD i (0, 0, 0) := by simp [List.getElem?_append, h]
theorem gD_r {L K : List Rc} {i : Nat} : (L ++ K).getD (L.length + i) (0, 0, 0) = K.getD i (0, 0, 0) := by
  simp [List.getElem?_append]
  rw [if_neg (by omega)]
theorem AP_m {c : Nat} {K : List Rc} {M M' : Mem} (h : AP c K M) (a : cmv M M') : AP c K M' := by
  unfold AP at *
  rw [a.1 34 (by decide), a.1 35 (by decide), a.1 36 (by decide), a.1 37 (by decide)]; exact h
theorem AP_2 {c : Nat} {K K' : List Rc} {M M' : Mem} (h : AP c K M) (w : wmv (c + K.length) M M') (h' : AP (c + K.length) K' M') : AP c (K ++ K') M' := by
  refine ⟨by rw [h'.1, List.length_append, Nat.add_assoc], fun i hi => ?_⟩
  rw [List.length_append] at hi
  by_cases hl : i < K.length
  · rw [gD_l hl]
    have := w.2.2.2 (c + i) (by omega)
    rw [this.1, this.2.1, this.2.2]
    exact h.2 i hl
  · obtain ⟨j, rfl⟩ : ∃ j, i = K.length + j := ⟨i - K.length, by omega⟩
    rw [gD_r, ← Nat.add_assoc]
    exact h'.2 j (by omega)
def LW (T : Nat → Nat) (n c : Nat) (x : RW) (M : Mem) : Prop := match x with
  | Sum.inl y => CS T n y.1 M ∧ AP c y.2 M
  | Sum.inr f => CF T n f.1 f.2 M
/-- a row of STEPS -/
def cRw (T : Nat → Nat) (n nb m : Nat) (F : Int32 → Int32 → Mem → Option Mem) (P : Nat → RW) : Prop := ∀ p M c, CS T n p M → M 34 0 3 = nI c → 5 * c ≤ p → ok (F (nI nb) (nI m) M) (fun M' => wmv c M M' ∧ LW T n c (P p) M')
def cDw (T : Nat → Nat) (n : Nat) (F : Int32 → Int32 → Mem → Option Mem) : Prop := ∀ x y k q M, CF T n k q M → F x y M = some M
/-- a STEP and its end -/
def cSt (T : Nat → Nat) (n nb m : Nat) (F : Int32 → Int32 → Mem → Option Mem) (P : Nat → RW) : Prop := ∀ p M c, CS T n p M → M 34 0 3 = nI c → 5 * c ≤ p → ok (Option.bind (F (nI nb) (nI m) M) (fun M1 => f_X10_expect 59 M1)) (fun M' => wmv c M M' ∧ LW T n c (P p) M')
theorem c_rowW {T : Nat → Nat} {n nb m d : Nat} {nest : Bool} {rR rS : Int32 → Int32 → Mem → Option Mem} {U : Nat → RW} (hn : n ≤ 150) (hm : m ≤ 6) (hnest : nest = true ↔ ¬ m = 0) (hU : cSt T n nb m rS U) (uo : wOK n nb d U) (ul : ∀ p e K, U p = Sum.inl (e, K) → p ≤ n → p + 2 ≤ e) (us : ∀ p, p ≤ n → U (sk T n p) = U p) : cRw T n nb m (f_RX9_readRow rR rS) (fun p => rwP T n nest U 151 p []) := by
  intro p M c h hc hcp
  have hpn := h.2.1
  unfold f_RX9_readRow
  dsimp only
  generalize hX : rwP T n nest U 151 p [] = X
  refine ok_bind (P := fun e => ∃ M8, (e = Sum.inl M8 ∨ e = Sum.inr M8) ∧ wmv c M M8 ∧ LW T n c X M8) ?_ ?_
  · have st0 : wmv c M M ∧ ((∃ p K, CS T n p M ∧ AP c K M ∧ 2 * 0 ≤ p ∧ 5 * (c + K.length) ≤ p ∧ rwP T n nest U (151 - 0) p K = X) ∨ (∃ f, X = Sum.inr f ∧ CF T n f.1 f.2 M)) := ⟨wmv_rfl, Or.inl ⟨p, [], h, ⟨hc, fun i hi => by cases hi⟩, by omega, hcp, hX⟩⟩
    refine ok_wh (fun k s => s.1 = nI k ∧ wmv c M s.2 ∧ ((∃ p K, CS T n p s.2 ∧ AP c K s.2 ∧ 2 * k ≤ p ∧ 5 * (c + K.length) ≤ p ∧ rwP T n nest U (151 - k) p K = X) ∨ (∃ f, X = Sum.inr f ∧ CF T n f.1 f.2 s.2))) 150 (by exact ⟨rfl, st0⟩) (by decide) ?_ ?_
    · rintro k ⟨x4, M2⟩ hk ⟨e1, w2, gg⟩
      simp only at e1 w2 gg
      subst e1
      unfold L_RX9_readRow_3
      refine ok_ifn (show ¬ (150 : Int32) ≤ nI k from nI_ge (b := 150) hk (by decide)) ?_
      rcases gg with ⟨p', K, s2, a2, hkp, hlp, ex⟩ | ⟨f, ex, s2⟩
      · rw [show 151 - k = (150 - k) + 1 by omega] at ex
        refine ok_ifp (fty0 s2) ?_
        obtain ⟨enx, s3, m3⟩ := CS_n s2
        have hs := sk_f (T := T) s2.2.1
        have a3 := AP_m a2 m3
        have goA : ¬ stopW T n nest p' → ok (Option.bind (rS (nI nb) (nI m) (am_u3 M2 1 0 3 (nI (sk T n p')))) (fun (M10 : Mem) => (Option.bind (f_X10_expect (59 : Int32) M10) (fun (M11 : Mem) => (some (Sum.inl (nI k + 1, M11)) : Option ((Int32 × Mem) ⊕ (Mem ⊕ Mem))))))) (stp (fun s => s.1 = nI (k + 1) ∧ wmv c M s.2 ∧ ((∃ p K, CS T n p s.2 ∧ AP c K s.2 ∧ 2 * (k + 1) ≤ p ∧ 5 * (c + K.length) ≤ p ∧ rwP T n nest U (151 - (k + 1)) p K = X) ∨ (∃ f, X = Sum.inr f ∧ CF T n f.1 f.2 s.2))) (fun e => ∃ M8, (e = Sum.inl M8 ∨ e = Sum.inr M8) ∧ wmv c M M8 ∧ LW T n c X M8)) := by
          intro hst
          refine ok_bind2 (hU (sk T n p') _ (c + K.length) s3 a3.1 (by omega)) ?_
          rintro M6 ⟨w6, l6⟩
          rw [us p' s2.2.1] at l6
          have W6 := wmv_tr (wmv_tr w2 (wmv_c m3) (Nat.le_refl _)) w6 (Nat.le_add_right _ _)
          generalize hu2 : U p' = Y at l6
          rcases Y with y2 | f
          · obtain ⟨s6, a6⟩ := l6
            have g2 := uo p' y2.1 y2.2 s2.2.1 hu2
            have g3 := ul p' y2.1 y2.2 hu2 s2.2.1
            refine ok_some ⟨nI_1 k, W6, Or.inl ⟨y2.1, K ++ y2.2, s6, AP_2 a3 w6 a6, by omega, by rw [List.length_append]; omega, ?_⟩⟩
            rw [show 151 - (k + 1) = 150 - k by omega, ← ex, rwP_i hst hu2]
          · exact ok_some ⟨nI_1 k, W6, Or.inr ⟨f, by rw [← ex, rwP_r hst hu2], l6⟩⟩
        have stopA : stopW T n nest p' → ∃ M8, (Sum.inl (am_u3 M2 1 0 3 (nI (sk T n p'))) = (Sum.inl M8 : Mem ⊕ Mem) ∨ Sum.inl (am_u3 M2 1 0 3 (nI (sk T n p'))) = (Sum.inr M8 : Mem ⊕ Mem)) ∧ wmv c M M8 ∧ LW T n c X M8 := by
          intro hst
          refine ⟨_, Or.inl rfl, wmv_tr w2 (wmv_c m3) (Nat.le_refl _), ?_⟩
          rw [← ex, rwP_s hst]
          exact ⟨s3, a3⟩
        by_cases m0 : m = 0
        · subst m0
          have hnf : nest = false := by cases nest with | false => rfl | true => exact absurd rfl (hnest.mp rfl)
          subst hnf
          refine ok_ifp rfl (ok_bindE (c_end s2) ?_)
          by_cases hlt : sk T n p' < n
          · rw [if_pos hlt]
            exact ok_ifp rfl (goA (show ¬ stopB T n false p' = true by unfold stopB; rw [if_neg (by decide), decide_eq_true_eq]; omega))
          · rw [if_neg hlt]
            exact ok_ifn (by decide) (ok_some (stopA (show stopB T n false p' = true by unfold stopB; rw [if_neg (by decide), decide_eq_true_eq]; exact hlt)))
        · have hnt : nest = true := hnest.mpr m0
          subst hnt
          refine ok_ifn (show ¬ nI m = 0 from nI_ne0 (by omega) (by omega)) (ok_bindE enx ?_)
          have hb := nb_c (p := p') (c := 93) (fun j hj => (s2.1.2.2.2 j hj).2) (by decide)
          have hsW : stopW T n true p' ↔ (sk T n p' < n ∧ T (sk T n p') = 93) := by
            show stopB T n true p' = true ↔ _
            unfold stopB; rw [if_pos rfl, decide_eq_true_eq]
          by_cases h93 : sk T n p' < n ∧ T (sk T n p') = 93
          · exact ok_ifp (hb.mpr h93) (ok_some (stopA (hsW.mpr h93)))
          · exact ok_ifn (fun z => h93 (hb.mp z)) (goA (fun z => h93 (hsW.mp z)))
      · refine ok_ifn (fty1 s2) (ok_some ⟨M2, Or.inr rfl, w2, ?_⟩)
        rw [ex]; exact s2
    · rintro ⟨x4, M2⟩ ⟨e1, w2, gg⟩
      simp only at e1 w2 gg
      subst e1
      unfold L_RX9_readRow_3
      refine ok_ifp (by decide) (ok_some ⟨M2, Or.inr rfl, w2, ?_⟩)
      rcases gg with ⟨p', K, s2, a2, hkp, hlp, ex⟩ | ⟨f, ex, s2⟩
      · have := s2.2.1; omega
      · rw [ex]; exact s2
  · rintro e ⟨M8, (rfl | rfl), m8, l8⟩
    · exact ok_some ⟨m8, l8⟩
    · exact ok_some ⟨m8, l8⟩
