/-! RIVERS: begun anew -/
theorem dpt_c {cd cd' : Nat → Int32} : ∀ {k : Nat}, (∀ i, i < k → cd i = cd' i) → dpt cd k = dpt cd' k
  | 0, _ => rfl
  | k + 1, h => by
    unfold dpt
    rw [h k (by omega), dpt_c (fun i hi => h i (by omega))]
theorem cwf_c {cd cd' : Nat → Int32} {len : Nat} (h : ∀ i, i < len → cd i = cd' i) (w : cwf cd' len) : cwf cd len := by
  refine ⟨fun k hk => ?_, by rw [dpt_c h]; exact w.2⟩
  rw [h k hk, dpt_c (fun i hi => h i (by omega))]
  exact w.1 k hk
theorem dfl_w : cwf (fun k => dfl.getD k 0) 9 := by
  refine ⟨?_, by decide +kernel⟩
  have : ∀ k, k < 9 → 0 ≤ dfl.getD k 0 ∧ (opc (dfl.getD k 0) = true → 2 ≤ dpt (fun k => dfl.getD k 0) k) := by decide +kernel
  exact this
/-- the draft is the LAW now -/
theorem c_adopt {qc qd : Nat} {M : Mem} {len : Nat} (hq : qd = 24 ∨ qd = 25) (e : M 23 0 3 = nI len) (hl : len ≤ 150) : ok (f_X3_adoptDraft qc qd M) (fun M' => fr [23] M M' ∧ M' 23 0 1 = nI len ∧ M' 23 0 4 = (if ∃ k, k < len ∧ M qd 0 k = 7 then 1 else 0)) := by
  have q23 : qd ∉ [23] := by rcases hq with rfl | rfl <;> decide
  unfold f_X3_adoptDraft
  rw [e]
  refine ok_bind (P := fun M' => fr [23] M M' ∧ M' 23 0 1 = nI len ∧ M' 23 0 4 = (if ∃ k, k < len ∧ M qd 0 k = 7 then 1 else 0)) ?_ (fun _ h => ok_some h)
  refine ok_wh (fun i s => s.1 = nI i ∧ fr [23] M s.2 ∧ s.2 23 0 1 = nI len ∧ s.2 23 0 4 = (if ∃ k, k < i ∧ M qd 0 k = 7 then 1 else 0)) len ⟨rfl, fr_u3 (fr_u3 fr_rfl (by decide)) (by decide), ?_, ?_⟩ (by omega) ?_ ?_
  · show am_u3 (am_u3 M 23 0 1 (nI len)) 23 0 4 0 23 0 1 = _
    rw [u3_j (by omega), u3_e]
  · show am_u3 (am_u3 M 23 0 1 (nI len)) 23 0 4 0 23 0 4 = _
    rw [u3_e, if_neg (fun ⟨k, hk, _⟩ => by cases hk)]
  · rintro i ⟨y, M1⟩ hi ⟨e1, f1, l1, m1⟩
    simp only at e1 f1 l1 m1
    subst e1
    unfold L_X3_adoptDraft_33
    simp only [l1, nI_clamp (show i < 2 ^ 31 by omega)]
    refine ok_ifn (nI_ge hi (by omega)) ?_
    have ed : M1 qd = M qd := f1 qd q23
    by_cases hx : ∃ k, k < i ∧ M qd 0 k = 7
    · rw [if_pos hx] at m1
      refine ok_ifn (by rw [m1]; decide) (ok_some ⟨nI_1 i, fr_u3 f1 (by decide), ?_, ?_⟩)
      · show am_u3 M1 23 0 4 1 23 0 1 = _
        rw [u3_j (by omega)]; exact l1
      · show am_u3 M1 23 0 4 1 23 0 4 = _
        obtain ⟨k, k1, k2⟩ := hx
        rw [u3_e, if_pos ⟨k, by omega, k2⟩]
    · rw [if_neg hx] at m1
      refine ok_ifp m1 (ok_ifp (inb_n (by omega) (by decide)) ?_)
      rw [ed]
      by_cases h7 : M qd 0 i = 7
      · refine ok_ifp h7 (ok_some ⟨nI_1 i, fr_u3 f1 (by decide), ?_, ?_⟩)
        · show am_u3 M1 23 0 4 1 23 0 1 = _
          rw [u3_j (by omega)]; exact l1
        · show am_u3 M1 23 0 4 1 23 0 4 = _
          rw [u3_e, if_pos ⟨i, by omega, h7⟩]
      · refine ok_ifn h7 (ok_some ⟨nI_1 i, fr_u3 f1 (by decide), ?_, ?_⟩)
        · show am_u3 M1 23 0 4 0 23 0 1 = _
          rw [u3_j (by omega)]; exact l1
        · show am_u3 M1 23 0 4 0 23 0 4 = _
          rw [u3_e, if_neg]
          rintro ⟨k, k1, k2⟩
          by_cases ek : k = i
          · rw [ek] at k2; exact h7 k2
          · exact hx ⟨k, by omega, k2⟩
  · rintro ⟨y, M1⟩ ⟨e1, f1, l1, m1⟩
    simp only at e1 f1 l1 m1
    subst e1
    unfold L_X3_adoptDraft_33
    simp only [l1]
    exact ok_ifp (nI_le (Nat.le_refl _) (by omega)) (ok_some ⟨f1, l1, m1⟩)
theorem c_add {qc qd : Nat} {M : Mem} {k : Nat} {x : Int32} (e : M 23 0 3 = nI k) (hk : k < 150) : f_X3_add qc qd x M = some (am_u3 (am_u3 M qd 0 k x) 23 0 3 (nI (k + 1))) := by
  unfold f_X3_add
  rw [e, if_neg (show ¬ (150 : Int32) ≤ nI k from nI_ge (b := 150) hk (by decide)), if_pos (inb_n hk (by decide)), nI_clamp (by omega), nI_1]
/-- drafted so far -/
def DR (qd : Nat) (L : List Int32) (M M' : Mem) : Prop := fr [23, qd] M M' ∧ (∀ j, j ≠ 3 → M' 23 0 j = M 23 0 j) ∧ M' 23 0 3 = nI L.length ∧ ∀ i, i < L.length → M' qd 0 i = L.getD i 0
theorem DR_a {qc qd : Nat} {L : List Int32} {M M' : Mem} {x : Int32} (hq : qd = 24 ∨ qd = 25) (h : DR qd L M M') (hl : L.length < 150) : ok (f_X3_add qc qd x M') (DR qd (L ++ [x]) M) := by
  obtain ⟨h1, h2, h3, h4⟩ := h
  have q23 : 23 ≠ qd := by rcases hq with rfl | rfl <;> decide
  refine ok_of (c_add h3 hl) ⟨fr_u3 (fr_u3 h1 (List.mem_cons_of_mem _ (List.mem_singleton.mpr rfl))) (List.mem_cons_self ..), fun j hj => ?_, ?_, fun i hi => ?_⟩
  · rw [u3_j (by omega), u3_c q23]; exact h2 j hj
  · rw [u3_e, List.length_append]; rfl
  · rw [List.length_append] at hi
    simp at hi
    rw [u3_c (Ne.symm q23)]
    by_cases e : i = L.length
    · rw [e, u3_e]; simp
    · rw [u3_j (by omega), h4 i (by omega)]
      simp [List.getElem?_append, show i < L.length by omega]
theorem c_untold {qc qd : Nat} {M : Mem} (hq : qd = 24 ∨ qd = 25) : ok (f_X3_beUntold qc qd M) (fun M' => fr [23, qd] M M' ∧ M' 23 0 1 = nI 9 ∧ M' 23 0 4 = 0 ∧ ∀ i, i < 9 → M' qd 0 i = dfl.getD i 0) := by
  have q23 : 23 ≠ qd := by rcases hq with rfl | rfl <;> decide
  unfold f_X3_beUntold
  have d0 : DR qd [] M (am_u3 M 23 0 3 0) := ⟨fr_u3 fr_rfl (List.mem_cons_self ..), fun j hj => u3_j (by omega), u3_e _ _ _ _ _, fun i hi => by cases hi⟩
  refine ok_bind (DR_a hq d0 (by decide)) (fun M1 d1 => ok_bind (DR_a hq d1 (by decide)) (fun M2 d2 => ok_bind (DR_a hq d2 (by decide)) (fun M3 d3 => ok_bind (DR_a hq d3 (by decide)) (fun M4 d4 => ok_bind (DR_a hq d4 (by decide)) (fun M5 d5 => ok_bind (DR_a hq d5 (by decide)) (fun M6 d6 => ok_bind (DR_a hq d6 (by decide)) (fun M7 d7 => ok_bind (DR_a hq d7 (by decide)) (fun M8 d8 => ok_bind (DR_a hq d8 (by decide)) (fun M9 d9 => ?_)))))))))
  obtain ⟨g1, g2, g3, g4⟩ := d9
  have g4 : ∀ i, i < 9 → M9 qd 0 i = dfl.getD i 0 := g4
  refine ok_bind (c_adopt (len := 9) hq g3 (by decide)) ?_
  rintro M10 ⟨f10, l10, m10⟩
  have e10 : M10 qd = M9 qd := f10 qd (by rcases hq with rfl | rfl <;> decide)
  refine ok_some ⟨fr_tr g1 (fr_mono f10 (fun c hc => by rw [List.mem_singleton.mp hc]; exact List.mem_cons_self ..)), l10, ?_, fun i hi => by rw [e10]; exact g4 i hi⟩
  rw [m10, if_neg]
  rintro ⟨k, k1, k2⟩
  rw [g4 k k1] at k2
  exact absurd k2 ((by decide +kernel : ∀ k, k < 9 → ¬ dfl.getD k 0 = 7) k k1)
/-- rows are laid -/
theorem m_layB {M : Mem} {l : Nat} (hl : l ≤ 16) : ok (f_X12_lays_b (nI l) M) (fun M' => fr [60] M M' ∧ ∀ i, i < l → ∀ j, j < 4 → M' 60 (i + 1) j = M 59 (i + 1) j) := by
  unfold f_X12_lays_b
  refine ok_bind (P := fun M' => fr [60] M M' ∧ ∀ i, i < l → ∀ j, j < 4 → M' 60 (i + 1) j = M 59 (i + 1) j) ?_ (fun _ h => ok_some h)
  refine ok_wh (fun k s => s.1 = nI k ∧ fr [60] M s.2 ∧ ∀ i, i < k → ∀ j, j < 4 → s.2 60 (i + 1) j = M 59 (i + 1) j) l ⟨rfl, fr_rfl, fun i hi => by cases hi⟩ (by omega) ?_ ?_
  · rintro k ⟨y, M1⟩ hk ⟨e1, f1, v1⟩
    simp only at e1 f1 v1
    subst e1
    unfold L_X12_lays_b_2
    refine ok_ifn (nI_ge hk (by omega)) (ok_bind (P := fun M' => fr [60] M1 M' ∧ (∀ r, r ≠ k + 1 → M' 60 r = M1 60 r) ∧ ∀ j, j < 4 → M' 60 (k + 1) j = M 59 (k + 1) j) ?_ ?_)
    · refine ok_wh (fun i s => s.1 = nI i ∧ fr [60] M1 s.2 ∧ (∀ r, r ≠ k + 1 → s.2 60 r = M1 60 r) ∧ ∀ j, j < i → s.2 60 (k + 1) j = M 59 (k + 1) j) 4 ⟨rfl, fr_rfl, fun _ _ => rfl, fun v hv => by cases hv⟩ (by decide) ?_ ?_
      · rintro i ⟨y, M2⟩ hi ⟨e2, f2, o2, v2⟩
        simp only at e2 f2 o2 v2
        subst e2
        unfold L_X12_lays_b_10
        simp only [nI_clamp (show k < 2 ^ 31 by omega), nI_clamp (show i < 2 ^ 31 by omega)]
        refine ok_ifp (inb_n (by omega) (by decide)) (ok_ifn (nI_ge (b := 4) hi (by decide)) (ok_ifp (inb_n hi (by decide)) (ok_some ⟨nI_1 i, fr_u3 f2 (by decide), fun r hr => ?_, fun v hv => ?_⟩)))
        · show am_u3 M2 60 (k + 1) i _ 60 r = _
          rw [u3_rr hr]; exact o2 r hr
        · show am_u3 M2 60 (k + 1) i (M2 59 (k + 1) i) 60 (k + 1) v = _
          by_cases e : v = i
          · rw [e, u3_e, f2 59 (by decide), f1 59 (by decide)]
          · rw [u3_j (fun z => e z.2)]; exact v2 v (by omega)
      · rintro ⟨y, M2⟩ ⟨e2, f2, o2, v2⟩
        simp only at e2 f2 o2 v2
        subst e2
        unfold L_X12_lays_b_10
        simp only [nI_clamp (show k < 2 ^ 31 by omega)]
        exact ok_ifp (inb_n (by omega) (by decide)) (ok_ifp (by decide) (ok_some ⟨f2, o2, v2⟩))
    · rintro M2 ⟨f2, o2, v2⟩
      refine ok_some ⟨nI_1 k, fr_tr f1 f2, fun i hi j hj => ?_⟩
      show M2 60 (i + 1) j = _
      by_cases e : i = k
      · rw [e]; exact v2 j hj
      · rw [o2 _ (by omega)]; exact v1 i (by omega) j hj
  · rintro ⟨y, M1⟩ ⟨e1, f1, v1⟩
    simp only at e1 f1 v1
    subst e1
    unfold L_X12_lays_b_2
    exact ok_ifp (nI_le (Nat.le_refl _) (by omega)) (ok_some ⟨f1, v1⟩)
theorem m_layG {M : Mem} {l : Nat} (hl : l ≤ 4) : ok (f_X12_lays_g (nI l) M) (fun M' => fr [62] M M' ∧ ∀ i, i < l → ∀ j, j < 2 → M' 62 (i + 1) j = M 61 (i + 1) j) := by
  unfold f_X12_lays_g
  refine ok_bind (P := fun M' => fr [62] M M' ∧ ∀ i, i < l → ∀ j, j < 2 → M' 62 (i + 1) j = M 61 (i + 1) j) ?_ (fun _ h => ok_some h)
  refine ok_wh (fun k s => s.1 = nI k ∧ fr [62] M s.2 ∧ ∀ i, i < k → ∀ j, j < 2 → s.2 62 (i + 1) j = M 61 (i + 1) j) l ⟨rfl, fr_rfl, fun i hi => by cases hi⟩ (by omega) ?_ ?_
  · rintro k ⟨y, M1⟩ hk ⟨e1, f1, v1⟩
    simp only at e1 f1 v1
    subst e1
    unfold L_X12_lays_g_2
    refine ok_ifn (nI_ge hk (by omega)) (ok_bind (P := fun M' => fr [62] M1 M' ∧ (∀ r, r ≠ k + 1 → M' 62 r = M1 62 r) ∧ ∀ j, j < 2 → M' 62 (k + 1) j = M 61 (k + 1) j) ?_ ?_)
    · refine ok_wh (fun i s => s.1 = nI i ∧ fr [62] M1 s.2 ∧ (∀ r, r ≠ k + 1 → s.2 62 r = M1 62 r) ∧ ∀ j, j < i → s.2 62 (k + 1) j = M 61 (k + 1) j) 2 ⟨rfl, fr_rfl, fun _ _ => rfl, fun v hv => by cases hv⟩ (by decide) ?_ ?_
      · rintro i ⟨y, M2⟩ hi ⟨e2, f2, o2, v2⟩
        simp only at e2 f2 o2 v2
        subst e2
        unfold L_X12_lays_g_10
        simp only [nI_clamp (show k < 2 ^ 31 by omega), nI_clamp (show i < 2 ^ 31 by omega)]
        refine ok_ifp (inb_n (by omega) (by decide)) (ok_ifn (nI_ge (b := 2) hi (by decide)) (ok_ifp (inb_n hi (by decide)) (ok_some ⟨nI_1 i, fr_u3 f2 (by decide), fun r hr => ?_, fun v hv => ?_⟩)))
        · show am_u3 M2 62 (k + 1) i _ 62 r = _
          rw [u3_rr hr]; exact o2 r hr
        · show am_u3 M2 62 (k + 1) i (M2 61 (k + 1) i) 62 (k + 1) v = _
          by_cases e : v = i
          · rw [e, u3_e, f2 61 (by decide), f1 61 (by decide)]
          · rw [u3_j (fun z => e z.2)]; exact v2 v (by omega)
      · rintro ⟨y, M2⟩ ⟨e2, f2, o2, v2⟩
        simp only at e2 f2 o2 v2
        subst e2
        unfold L_X12_lays_g_10
        simp only [nI_clamp (show k < 2 ^ 31 by omega)]
        exact ok_ifp (inb_n (by omega) (by decide)) (ok_ifp (by decide) (ok_some ⟨f2, o2, v2⟩))
    · rintro M2 ⟨f2, o2, v2⟩
      refine ok_some ⟨nI_1 k, fr_tr f1 f2, fun i hi j hj => ?_⟩
      show M2 62 (i + 1) j = _
      by_cases e : i = k
      · rw [e]; exact v2 j hj
      · rw [o2 _ (by omega)]; exact v1 i (by omega) j hj
  · rintro ⟨y, M1⟩ ⟨e1, f1, v1⟩
    simp only at e1 f1 v1
    subst e1
    unfold L_X12_lays_g_2
    exact ok_ifp (nI_le (Nat.le_refl _) (by omega)) (ok_some ⟨f1, v1⟩)
theorem m_layS {M : Mem} {l : Nat} (hl : l ≤ 8) : ok (f_X12_lays_s (nI l) M) (fun M' => fr [64] M M' ∧ ∀ i, i < l → ∀ j, j < 3 → M' 64 (i + 1) j = M 63 (i + 1) j) := by
  unfold f_X12_lays_s
  refine ok_bind (P := fun M' => fr [64] M M' ∧ ∀ i, i < l → ∀ j, j < 3 → M' 64 (i + 1) j = M 63 (i + 1) j) ?_ (fun _ h => ok_some h)
  refine ok_wh (fun k s => s.1 = nI k ∧ fr [64] M s.2 ∧ ∀ i, i < k → ∀ j, j < 3 → s.2 64 (i + 1) j = M 63 (i + 1) j) l ⟨rfl, fr_rfl, fun i hi => by cases hi⟩ (by omega) ?_ ?_
  · rintro k ⟨y, M1⟩ hk ⟨e1, f1, v1⟩
    simp only at e1 f1 v1
    subst e1
    unfold L_X12_lays_s_2
    refine ok_ifn (nI_ge hk (by omega)) (ok_bind (P := fun M' => fr [64] M1 M' ∧ (∀ r, r ≠ k + 1 → M' 64 r = M1 64 r) ∧ ∀ j, j < 3 → M' 64 (k + 1) j = M 63 (k + 1) j) ?_ ?_)
    · refine ok_wh (fun i s => s.1 = nI i ∧ fr [64] M1 s.2 ∧ (∀ r, r ≠ k + 1 → s.2 64 r = M1 64 r) ∧ ∀ j, j < i → s.2 64 (k + 1) j = M 63 (k + 1) j) 3 ⟨rfl, fr_rfl, fun _ _ => rfl, fun v hv => by cases hv⟩ (by decide) ?_ ?_
      · rintro i ⟨y, M2⟩ hi ⟨e2, f2, o2, v2⟩
        simp only at e2 f2 o2 v2
        subst e2
        unfold L_X12_lays_s_10
        simp only [nI_clamp (show k < 2 ^ 31 by omega), nI_clamp (show i < 2 ^ 31 by omega)]
        refine ok_ifp (inb_n (by omega) (by decide)) (ok_ifn (nI_ge (b := 3) hi (by decide)) (ok_ifp (inb_n hi (by decide)) (ok_some ⟨nI_1 i, fr_u3 f2 (by decide), fun r hr => ?_, fun v hv => ?_⟩)))
        · show am_u3 M2 64 (k + 1) i _ 64 r = _
          rw [u3_rr hr]; exact o2 r hr
        · show am_u3 M2 64 (k + 1) i (M2 63 (k + 1) i) 64 (k + 1) v = _
          by_cases e : v = i
          · rw [e, u3_e, f2 63 (by decide), f1 63 (by decide)]
          · rw [u3_j (fun z => e z.2)]; exact v2 v (by omega)
      · rintro ⟨y, M2⟩ ⟨e2, f2, o2, v2⟩
        simp only at e2 f2 o2 v2
        subst e2
        unfold L_X12_lays_s_10
        simp only [nI_clamp (show k < 2 ^ 31 by omega)]
        exact ok_ifp (inb_n (by omega) (by decide)) (ok_ifp (by decide) (ok_some ⟨f2, o2, v2⟩))
    · rintro M2 ⟨f2, o2, v2⟩
      refine ok_some ⟨nI_1 k, fr_tr f1 f2, fun i hi j hj => ?_⟩
      show M2 64 (i + 1) j = _
      by_cases e : i = k
      · rw [e]; exact v2 j hj
      · rw [o2 _ (by omega)]; exact v1 i (by omega) j hj
  · rintro ⟨y, M1⟩ ⟨e1, f1, v1⟩
    simp only at e1 f1 v1
    subst e1
    unfold L_X12_lays_s_2
    exact ok_ifp (nI_le (Nat.le_refl _) (by omega)) (ok_some ⟨f1, v1⟩)
