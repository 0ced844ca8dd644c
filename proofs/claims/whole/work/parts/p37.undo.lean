/-! WHAT CHANGES THE STATES: undo, image, restore -/
def gCells : List Nat := [3, 4, 5, 6, 7, 8, 9, 10, 11, 12, 23, 24, 25, 46, 47, 58, 60, 62, 64, 65, 67]
theorem gb : ∀ c, c ∈ bCells → c ∈ gCells := by decide
theorem Rel_gen {qc qs : Nat} {M M' : Mem} (h : Rel qc qs M) (e : ∀ c, c ∈ gCells → M' c = M c) (e19 : M' 54 0 19 = M 54 0 19) (e34 : M' 54 0 34 = M 54 0 34) (e45 : M' 45 0 3 = M 45 0 3) (ht : rTape M') (hc : rCnt M') (hs : SRk (nB M) (nG M) (M' 30 0) (M' 72 0)) (hp : rPast M') (hcc : cch qc M') : Rel qc qs M' := by
  obtain ⟨h1, h2, h3, h4, h5, h6, h7, h8, h9⟩ := h
  have e3 : M' 3 = M 3 := e 3 (by decide)
  refine ⟨base_c h1 (fun c hc => e c (gb c hc)) e19, h2, ?_, ht, hc, ?_, hp, ?_, hcc⟩
  · unfold bRng at *
    rw [nB_fr e3, nG_fr e3, nS_fr e3, e 4 (by decide), e 5 (by decide), e 6 (by decide), e 7 (by decide), e 8 (by decide), e 9 (by decide), e 10 (by decide), e 11 (by decide), e 12 (by decide)]
    exact h3
  · rw [nB_fr e3, nG_fr e3]; exact hs
  · unfold rBook at *
    rw [nB_fr e3, e45, e34, e 67 (by decide), show M' qs = M qs by rcases h2 with rfl | rfl <;> exact e _ (by decide)]
    exact h8
theorem cch_0 {qc : Nat} {M : Mem} (h : M 38 0 5 = 0) : cch qc M := ⟨0, h, by decide, fun k hk => by cases hk⟩
theorem cch_s {qc : Nat} {M M' : Mem} (hq : qc = 24 ∨ qc = 25) (e : ∀ c, c ∈ gCells → M' c = M c) (e38 : M' 38 0 5 = M 38 0 5) (e41 : M' 41 = M 41) (e30 : M' 30 0 = M 30 0) (h : cch qc M) : cch qc M' := by
  obtain ⟨kn, c1, c2, c3⟩ := h
  refine ⟨kn, by rw [e38]; exact c1, c2, fun k hk => ?_⟩
  rw [e41, e30, c3 k hk, dueA_c hq (fun c hc => e c (gb c hc))]
theorem SRk_cong {n g : Nat} {a a' b b' : Nat → Int32} (hn : n ≤ 16) (hg : g ≤ 4) (h : SRk n g a b) (ha : ∀ j, j < 47 → a' j = a j) (hb : ∀ j, j < 66 → b' j = b j) : SRk n g a' b' := by
  obtain ⟨h1, ⟨x, x1, x2⟩, h3, h4⟩ := h
  exact ⟨SR_cong hn hg h1 ha hb, ⟨x, x1, by rw [ha 0 (by decide)]; exact x2⟩, by rw [hb 52 (by decide)]; exact h3, by rw [hb 57 (by decide)]; exact h4⟩
theorem m_copr {M : Mem} {r0 : Nat} : ok (f_X12_copies_r r0 M) (fun M' => fr [72] M M' ∧ ∀ j, j < 66 → M' 72 0 j = M 75 r0 j) := by
  unfold f_X12_copies_r
  refine ok_bind (P := fun M' => fr [72] M M' ∧ ∀ j, j < 66 → M' 72 0 j = M 75 r0 j) ?_ (fun _ h => ok_some h)
  refine ok_wh (fun k s => s.1 = nI k ∧ fr [72] M s.2 ∧ ∀ j, j < k → s.2 72 0 j = M 75 r0 j) 66 ⟨rfl, fr_rfl, fun j hj => by cases hj⟩ (by decide) ?_ ?_
  · rintro k ⟨x, M1⟩ hk ⟨rfl, f1, h1⟩
    simp only at f1 h1
    unfold L_X12_copies_r_2
    simp only []
    rw [nI_clamp (show k < 2 ^ 31 by omega)]
    refine ok_ifn (nI_ge (b := 66) hk (by decide)) (ok_ifp (inb_n hk (by decide)) (ok_some ⟨nI_1 k, fr_u3 f1 (by decide), fun j hj => ?_⟩))
    show am_u3 M1 72 0 k _ 72 0 j = _
    by_cases hjk : j = k
    · rw [hjk, u3_e, f1 75 (by decide)]
    · rw [u3_j (by omega)]; exact h1 j (by omega)
  · rintro ⟨x, M1⟩ ⟨rfl, f1, h1⟩
    unfold L_X12_copies_r_2
    exact ok_ifp (by decide) (ok_some ⟨f1, h1⟩)
theorem u3_rr {M : Mem} {c r j : Nat} {v : Int32} {r' : Nat} (h : r' ≠ r) : am_u3 M c r j v c r' = M c r' := by
  funext j'
  unfold am_u3
  rw [if_neg (fun z => h z.2.1)]
theorem m_copb {M : Mem} {r1 : Nat} : ok (f_X12_copies_b r1 M) (fun M' => fr [75] M M' ∧ (∀ j, j < 66 → M' 75 r1 j = M 72 0 j) ∧ ∀ r, r ≠ r1 → M' 75 r = M 75 r) := by
  unfold f_X12_copies_b
  refine ok_bind (P := fun M' => fr [75] M M' ∧ (∀ j, j < 66 → M' 75 r1 j = M 72 0 j) ∧ ∀ r, r ≠ r1 → M' 75 r = M 75 r) ?_ (fun _ h => ok_some h)
  refine ok_wh (fun k s => s.1 = nI k ∧ fr [75] M s.2 ∧ (∀ j, j < k → s.2 75 r1 j = M 72 0 j) ∧ ∀ r, r ≠ r1 → s.2 75 r = M 75 r) 66 ⟨rfl, fr_rfl, (fun j hj => by cases hj), fun _ _ => rfl⟩ (by decide) ?_ ?_
  · rintro k ⟨x, M1⟩ hk ⟨rfl, f1, h1, h2⟩
    simp only at f1 h1 h2
    unfold L_X12_copies_b_2
    simp only []
    rw [nI_clamp (show k < 2 ^ 31 by omega)]
    refine ok_ifn (nI_ge (b := 66) hk (by decide)) (ok_ifp (inb_n hk (by decide)) (ok_some ⟨nI_1 k, fr_u3 f1 (by decide), fun j hj => ?_, fun r hr => ?_⟩))
    · show am_u3 M1 75 r1 k _ 75 r1 j = _
      by_cases hjk : j = k
      · rw [hjk, u3_e, f1 72 (by decide)]
      · rw [u3_j (by omega)]; exact h1 j (by omega)
    · show am_u3 M1 75 r1 k _ 75 r = _
      rw [u3_rr hr]; exact h2 r hr
  · rintro ⟨x, M1⟩ ⟨rfl, f1, h1, h2⟩
    unfold L_X12_copies_b_2
    exact ok_ifp (by decide) (ok_some ⟨f1, h1, h2⟩)
theorem cp_c {M : Mem} {c0 r0 sp c1 r1 dp n : Nat} {c : Nat} (h : c ≠ c1) : am_cp M c0 r0 sp c1 r1 dp n c = M c := by
  funext r j
  unfold am_cp
  rw [if_neg (fun z => h z.1)]
theorem cp_r {M : Mem} {c0 r0 sp c1 r1 dp n : Nat} {r : Nat} (h : r ≠ r1) : am_cp M c0 r0 sp c1 r1 dp n c1 r = M c1 r := by
  funext j
  unfold am_cp
  rw [if_neg (fun z => h z.2.1)]
theorem cp_j (M : Mem) (c0 r0 sp c1 r1 dp n : Nat) (j : Nat) : am_cp M c0 r0 sp c1 r1 dp n c1 r1 j = if dp ≤ j ∧ j < dp + n then M c0 r0 (sp + (j - dp)) else M c1 r1 j := by
  unfold am_cp
  by_cases h : dp ≤ j ∧ j < dp + n
  · rw [if_pos ⟨rfl, rfl, h⟩, if_pos h]
  · rw [if_neg (fun z => h z.2.2), if_neg h]
theorem fr_cp {S : List Nat} {M M' : Mem} {c0 r0 sp c1 r1 dp n : Nat} (a : fr S M M') (h : c1 ∈ S) : fr S M (am_cp M' c0 r0 sp c1 r1 dp n) := fun c hc => (cp_c (fun z => hc (by rw [z]; exact h))).trans (a c hc)
theorem t_undo {qc qs : Nat} {M : Mem} (h : Rel qc qs M) : ok (f_X11_undo M) (fun r => ok (f_X12_undo r.2) (fun r' => r.1 = r'.1 ∧ Rel qc qs r'.2)) := by
  have hn := R_n16 h
  have hg := R_g4 h
  obtain ⟨w, m, hw, hm, p1, p2, p3, p4, p5, p6⟩ := h.2.2.2.2.2.2.1
  unfold f_X11_undo
  rw [p1]
  by_cases h0 : w = 0
  · subst h0
    refine ok_ifp rfl (ok_some ?_)
    unfold f_X12_undo
    exact ok_ifp p2 (ok_some ⟨rfl, Rel_M0 h⟩)
  · refine ok_ifn (nI_ne0 (by omega) (by omega)) ?_
    have cl : ((nI w - 1) * 47 : Int32) = nI ((w - 1) * 47) := by rw [nI_sub1 (by omega), show (47 : Int32) = nI 47 from rfl, nI_mul]
    refine ok_bind (P := fun M2 => M2 = am_cp (am_u3 M 31 0 1 (nI (w - 1))) 32 0 ((w - 1) * 47) 30 0 0 47) ?_ ?_
    · unfold f_X7_bringBack f_X8_readFrom_p
      rw [p1, cl, nI_clamp (show (w - 1) * 47 < 2 ^ 31 by omega), nI_sub1 (by omega)]
      exact ok_ifn (nI_ge (a := 0) (by omega) (by omega)) (ok_bindE ((if_pos (nI_pos (by omega))).trans (if_pos (show (w - 1) * 47 + 47 ≤ 752 by omega))) (ok_some rfl))
    · intro M2 e2
      refine ok_some ?_
      show ok (f_X12_undo (am_u3 (am_u3 M2 0 0 12 0) 38 0 5 0)) (fun r' => M2 31 0 1 = r'.1 ∧ _)
      have f2 : fr [0, 30, 31, 38] M (am_u3 (am_u3 M2 0 0 12 0) 38 0 5 0) := by
        rw [e2]
        exact fr_u3 (fr_u3 (fr_cp (fr_u3 fr_rfl (by decide)) (by decide)) (by decide)) (by decide)
      have e31 : M2 31 0 1 = nI (w - 1) := by rw [e2, cp_c (by decide), u3_e]
      have e31' : M2 31 0 3 = nI m := by rw [e2, cp_c (by decide), u3_j (by omega)]; exact p3
      have e30 : ∀ j, j < 47 → M2 30 0 j = M 32 0 (47 * (w - 1) + j) := by
        intro j hj
        rw [e2, cp_j, if_pos (by omega), u3_c (by decide), show (w - 1) * 47 + (j - 0) = 47 * (w - 1) + j by omega]
      have e0 : ∀ j, M2 0 0 j = M 0 0 j := by
        intro j
        rw [e2, cp_c (by decide), u3_c (by decide)]
      have g54 : (am_u3 (am_u3 M2 0 0 12 0) 38 0 5 0) 54 = M 54 := f2 54 (by decide)
      have g31 : (am_u3 (am_u3 M2 0 0 12 0) 38 0 5 0) 31 = M2 31 := by rw [u3_c (by decide), u3_c (by decide)]
      have g30 : (am_u3 (am_u3 M2 0 0 12 0) 38 0 5 0) 30 = M2 30 := by rw [u3_c (by decide), u3_c (by decide)]
      have g0 : ∀ j, (am_u3 (am_u3 M2 0 0 12 0) 38 0 5 0) 0 0 j = if j = 12 then 0 else M 0 0 j := by
        intro j
        rw [u3_c (by decide), u3_r]
        unfold upd1
        rw [e0]
      have g38 : (am_u3 (am_u3 M2 0 0 12 0) 38 0 5 0) 38 0 5 = 0 := u3_e _ _ _ _ _
      generalize (am_u3 (am_u3 M2 0 0 12 0) 38 0 5 0) = M3 at f2 g54 g31 g30 g0 g38
      unfold f_X12_undo
      rw [g54, p2, nI_sub1 (by omega), nI_clamp (show w - 1 < 2 ^ 31 by omega)]
      refine ok_ifn (nI_ne0 (by omega) (by omega)) (ok_ifp (inb_n (by omega) (by decide)) (ok_bind m_copr ?_))
      rintro M4 ⟨f4, r4⟩
      refine ok_some ⟨?_, ?_⟩
      · show M2 31 0 1 = M4 54 0 35
        rw [f4 54 (by decide), u3_e, e31]
      · have f5 : fr [0, 30, 31, 38, 54, 72] M (am_u3 M4 54 0 36 0) := fr_u3 (fr_tr (fr_u3 (fr_u3 (fr_mono f2 (by decide)) (by decide)) (by decide)) (fr_mono f4 (by decide))) (by decide)
        have q54 : ∀ j, am_u3 M4 54 0 36 0 54 0 j = if j = 36 then 0 else if j = 35 then nI (w - 1) else if j = 0 then 0 else M 54 0 j := by
          intro j
          rw [u3_r, f4 54 (by decide), u3_r, u3_r, g54]
          rfl
        have q0 : am_u3 M4 54 0 36 0 0 = M3 0 := by rw [u3_c (by decide), f4 0 (by decide), u3_c (by decide), u3_c (by decide)]
        have q31 : am_u3 M4 54 0 36 0 31 = M2 31 := by rw [u3_c (by decide), f4 31 (by decide), u3_c (by decide), u3_c (by decide), g31]
        have q30 : am_u3 M4 54 0 36 0 30 = M2 30 := by rw [u3_c (by decide), f4 30 (by decide), u3_c (by decide), u3_c (by decide), g30]
        have q72 : ∀ j, j < 66 → am_u3 M4 54 0 36 0 72 0 j = M 75 w j := by
          intro j hj
          rw [u3_c (by decide), r4 j hj, u3_c (by decide), u3_c (by decide), f2 75 (by decide), show w - 1 + 1 = w by omega]
        have q38 : am_u3 M4 54 0 36 0 38 0 5 = 0 := by rw [u3_c (by decide), f4 38 (by decide), u3_c (by decide), u3_c (by decide)]; exact g38
        generalize am_u3 M4 54 0 36 0 = M5 at f5 q54 q0 q31 q30 q72 q38
        have e3 : M5 3 = M 3 := f5 3 (by decide)
        show Rel qc qs M5
        refine Rel_gen h (fun c hc => f5 c (by revert c; decide)) (by rw [q54]; rfl) (by rw [q54]; rfl) (by rw [f5 45 (by decide)]) ?_ ?_ ?_ ?_ (cch_0 q38)
        · obtain ⟨⟨t, t1, t2, t3, t4⟩, t5⟩ := h.2.2.2.1
          refine ⟨⟨t, t1, by rw [f5 1 (by decide)]; exact t2, by rw [q54]; exact t3, by rw [f5 55 (by decide), f5 2 (by decide)]; exact t4⟩, by rw [f5 1 (by decide), q54]; exact t5⟩
        · obtain ⟨-, c2, c3⟩ := h.2.2.2.2.1
          refine ⟨?_, ?_, ?_⟩
          · rw [q0, g0, q54]; rfl
          · rw [q0, g0, f5 56 (by decide)]; exact c2
          · rw [q0, g0, f5 56 (by decide)]; exact c3
        · have := p5 (w - 1) (by omega)
          rw [show w - 1 + 1 = w by omega] at this
          exact SRk_cong hn hg this (fun j hj => by rw [q30]; exact e30 j hj) q72
        · refine ⟨w - 1, m, by omega, hm, by rw [q31]; exact e31, by rw [q54]; rfl, by rw [q31]; exact e31', by rw [q54]; exact p4, ?_, ?_⟩
          · intro i hi
            rw [nB_fr e3, nG_fr e3, f5 32 (by decide), f5 75 (by decide)]
            exact p5 i (by omega)
          · rw [nB_fr e3, nG_fr e3, f5 33 (by decide), f5 76 (by decide)]
            exact p6
