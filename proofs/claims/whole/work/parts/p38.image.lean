/-! image, restore -/
theorem u3_self {M : Mem} {c r j : Nat} {v : Int32} (h : v = M c r j) : am_u3 M c r j v = M := by
  funext c' r' j'
  unfold am_u3
  split
  · rename_i z
    rw [z.1, z.2.1, z.2.2]; exact h
  · rfl
def cont (M : Mem) (s : Nat) : Int32 := if s = 0 then M 54 0 35 else if s < 67 then M 72 0 (s - 1) else M 75 ((s - 67) / 66 + 1) ((s - 67) % 66)
def PW (M : Mem) (r1 s : Nat) (M' : Mem) : Prop := fr [54, 76] M M' ∧ (∀ r, r ≠ r1 → M' 76 r = M 76 r) ∧ (∀ i, i < s → M' 76 r1 i = cont M i) ∧ (∀ j, j ≠ 38 → M' 54 0 j = M 54 0 j) ∧ M' 54 0 38 = nI s
theorem pm1 {s : Nat} (h : s < 2 ^ 30) : nI s + 1 - 1 = nI s := by rw [nI_1, nI_sub1 (by omega), Nat.add_sub_cancel]
theorem PW_s {M M' : Mem} {r1 s : Nat} {x : Int32} (p : PW M r1 s M') (hx : x = cont M s) : PW M r1 (s + 1) (am_u3 (am_u3 M' 76 r1 s x) 54 0 38 (nI (s + 1))) := by
  obtain ⟨p1, p2, p3, p4, p5⟩ := p
  refine ⟨fr_u3 (fr_u3 p1 (by decide)) (by decide), fun r hr => ?_, fun i hi => ?_, fun j hj => ?_, u3_e _ _ _ _ _⟩
  · rw [u3_c (by decide), u3_rr hr]; exact p2 r hr
  · rw [u3_c (by decide)]
    by_cases his : i = s
    · rw [his, u3_e]; exact hx
    · rw [u3_j (by omega)]; exact p3 i (by omega)
  · rw [u3_j (by omega), u3_c (by decide)]; exact p4 j hj
theorem puts0 {M M' : Mem} {r1 s : Nat} {x : Int32} (p : PW M r1 s M') (hs : s < 1123) (hx : x = cont M s) : ok (f_X12_puts r1 x 0 M') (fun r => r.1 = x ∧ PW M r1 (s + 1) r.2) := by
  have p5 := p.2.2.2.2
  unfold f_X12_puts
  rw [p5, pm1 (by omega), nI_clamp (show s < 2 ^ 31 by omega), nI_1]
  exact ok_ifp rfl (ok_ifp (inb_n hs (by decide)) (ok_ifp (inb_n hs (by decide)) (ok_some ⟨u3_e M' 76 r1 s x, PW_s p hx⟩)))
theorem m_puts0 {M : Mem} {r1 : Nat} : ok (f_X12_putsAll r1 0 M) (PW M r1 1123) := by
  unfold f_X12_putsAll
  have i0 : PW M r1 0 (am_u3 M 54 0 38 0) := ⟨fr_u3 fr_rfl (by decide), fun r hr => (by rw [u3_c (by decide)]), fun i hi => (by omega), fun j hj => (by rw [u3_j (by omega)]), u3_e _ _ _ _ _⟩
  refine ok_bind (puts0 i0 (by decide) (show M 54 0 35 = cont M 0 from rfl)) ?_
  rintro ⟨v, M1⟩ ⟨ev, p1⟩
  simp only at ev p1
  show ok (Option.bind (wh (L_X12_putsAll_21 r1 0) FU (0, am_u3 M1 54 0 35 v)) _) _
  rw [show am_u3 M1 54 0 35 v = M1 from u3_self (by rw [ev, p1.2.2.2.1 35 (by decide)])]
  refine ok_bind (P := PW M r1 67) ?_ ?_
  · refine ok_wh (fun k s => s.1 = nI k ∧ PW M r1 (1 + k) s.2) 66 ⟨rfl, p1⟩ (by decide) ?_ ?_
    · rintro k ⟨x, M2⟩ hk ⟨e1, p2⟩
      simp only at e1 p2
      subst e1
      unfold L_X12_putsAll_21
      simp only []
      rw [nI_clamp (show k < 2 ^ 31 by omega), p2.1 72 (by decide)]
      refine ok_ifn (nI_ge (b := 66) hk (by decide)) (ok_ifp (inb_n hk (by decide)) (ok_bind (puts0 p2 (by omega) ?_) ?_))
      · unfold cont
        rw [if_neg (by omega), if_pos (by omega), show 1 + k - 1 = k by omega]
      · rintro ⟨w, M3⟩ ⟨ew, p3⟩
        simp only at ew p3
        refine ok_some ⟨nI_1 k, ?_⟩
        show PW M r1 (1 + (k + 1)) (am_u3 M3 72 0 k w)
        rw [u3_self (by rw [ew, p3.1 72 (by decide)]), ← Nat.add_assoc]
        exact p3
    · rintro ⟨x, M2⟩ ⟨e1, p2⟩
      simp only at e1 p2
      unfold L_X12_putsAll_21
      exact ok_ifp (by rw [e1]; decide) (ok_some p2)
  · intro M2 p2
    refine ok_bind (P := PW M r1 1123) ?_ (fun _ h => ok_some h)
    refine ok_wh (fun w s => s.1 = nI w ∧ PW M r1 (67 + 66 * w) s.2) 16 ⟨rfl, p2⟩ (by decide) ?_ ?_
    · rintro w ⟨x, M3⟩ hw ⟨e1, p3⟩
      simp only at e1 p3
      subst e1
      unfold L_X12_putsAll_53
      refine ok_ifn (nI_ge (b := 16) hw (by decide)) (ok_bind (P := PW M r1 (67 + 66 * (w + 1))) ?_ ?_)
      · refine ok_wh (fun k s => s.1 = nI k ∧ PW M r1 (67 + 66 * w + k) s.2) 66 ⟨rfl, p3⟩ (by decide) ?_ ?_
        · rintro k ⟨x, M4⟩ hk ⟨e1, p4⟩
          simp only at e1 p4
          subst e1
          unfold L_X12_putsAll_62
          simp only []
          rw [nI_clamp (show k < 2 ^ 31 by omega), nI_clamp (show w < 2 ^ 31 by omega), p4.1 75 (by decide)]
          refine ok_ifn (nI_ge (b := 66) hk (by decide)) (ok_ifp (inb_n hw (by decide)) (ok_ifp (inb_n hk (by decide)) (ok_bind (puts0 p4 (by omega) ?_) ?_)))
          · unfold cont
            rw [if_neg (by omega), if_neg (by omega), show (67 + 66 * w + k - 67) / 66 = w by omega, show (67 + 66 * w + k - 67) % 66 = k by omega]
          · rintro ⟨u, M5⟩ ⟨eu, p5⟩
            simp only at eu p5
            refine ok_some ⟨nI_1 k, ?_⟩
            show PW M r1 (67 + 66 * w + (k + 1)) (am_u3 M5 75 (w + 1) k u)
            rw [u3_self (by rw [eu, p5.1 75 (by decide)]), ← Nat.add_assoc]
            exact p5
        · rintro ⟨x, M4⟩ ⟨e1, p4⟩
          simp only at e1 p4
          unfold L_X12_putsAll_62
          rw [show 67 + 66 * w + 66 = 67 + 66 * (w + 1) by omega] at p4
          exact ok_ifp (by rw [e1]; decide) (ok_some p4)
      · intro M4 p4
        exact ok_some ⟨nI_1 w, p4⟩
    · rintro ⟨x, M3⟩ ⟨e1, p3⟩
      simp only at e1 p3
      unfold L_X12_putsAll_53
      exact ok_ifp (by rw [e1]; decide) (ok_some p3)
def PR (M : Mem) (r1 s : Nat) (M' : Mem) : Prop := fr [54, 72, 75] M M' ∧ M' 54 0 38 = nI s ∧ (∀ j, j ≠ 38 → j ≠ 35 → M' 54 0 j = M 54 0 j) ∧ (1 ≤ s → M' 54 0 35 = M 76 r1 0) ∧ (∀ k, k < 66 → 1 + k < s → M' 72 0 k = M 76 r1 (1 + k)) ∧ (∀ w k, k < 66 → 67 + 66 * w + k < s → M' 75 (w + 1) k = M 76 r1 (67 + 66 * w + k))
theorem puts1 {M M' : Mem} {r1 s : Nat} {x : Int32} (p : PR M r1 s M') (hs : s < 1123) : ok (f_X12_puts r1 x 1 M') (fun r => r.1 = M 76 r1 s ∧ r.2 = am_u3 M' 54 0 38 (nI (s + 1))) := by
  obtain ⟨p1, p2, -⟩ := p
  unfold f_X12_puts
  rw [p2, pm1 (by omega), nI_clamp (show s < 2 ^ 31 by omega), nI_1, p1 76 (by decide)]
  exact ok_ifn (by decide) (ok_ifp (inb_n hs (by decide)) (ok_some ⟨rfl, rfl⟩))
theorem PR_1 {M M' : Mem} {r1 : Nat} (p : PR M r1 0 M') : PR M r1 1 (am_u3 (am_u3 M' 54 0 38 (nI 1)) 54 0 35 (M 76 r1 0)) := by
  obtain ⟨q1, q2, q3, q4, q5, q6⟩ := p
  refine ⟨fr_u3 (fr_u3 q1 (by decide)) (by decide), ?_, fun j h1 h2 => ?_, fun _ => u3_e _ _ _ _ _, fun k hk z => by omega, fun w k hk z => by omega⟩
  · rw [u3_j (by omega), u3_e]
  · rw [u3_j (by omega), u3_j (by omega)]; exact q3 j h1 h2
theorem PR_72 {M M' : Mem} {r1 k : Nat} (p : PR M r1 (1 + k) M') (hk : k < 66) : PR M r1 (1 + k + 1) (am_u3 (am_u3 M' 54 0 38 (nI (1 + k + 1))) 72 0 k (M 76 r1 (1 + k))) := by
  obtain ⟨q1, q2, q3, q4, q5, q6⟩ := p
  refine ⟨fr_u3 (fr_u3 q1 (by decide)) (by decide), ?_, fun j h1 h2 => ?_, fun _ => ?_, fun i hi z => ?_, fun w k hk z => by omega⟩
  · rw [u3_c (by decide), u3_e]
  · rw [u3_c (by decide), u3_j (by omega)]; exact q3 j h1 h2
  · rw [u3_c (by decide), u3_j (by omega)]; exact q4 (by omega)
  · by_cases hik : i = k
    · rw [hik, u3_e]
    · rw [u3_j (by omega), u3_c (by decide)]; exact q5 i hi (by omega)
theorem PR_75 {M M' : Mem} {r1 w k : Nat} (p : PR M r1 (67 + 66 * w + k) M') (hk : k < 66) : PR M r1 (67 + 66 * w + k + 1) (am_u3 (am_u3 M' 54 0 38 (nI (67 + 66 * w + k + 1))) 75 (w + 1) k (M 76 r1 (67 + 66 * w + k))) := by
  obtain ⟨q1, q2, q3, q4, q5, q6⟩ := p
  refine ⟨fr_u3 (fr_u3 q1 (by decide)) (by decide), ?_, fun j h1 h2 => ?_, fun _ => ?_, fun i hi z => ?_, fun w' i hi z => ?_⟩
  · rw [u3_c (by decide), u3_e]
  · rw [u3_c (by decide), u3_j (by omega)]; exact q3 j h1 h2
  · rw [u3_c (by decide), u3_j (by omega)]; exact q4 (by omega)
  · rw [u3_c (by decide), u3_c (by decide)]; exact q5 i hi (by omega)
  · by_cases hik : w' = w ∧ i = k
    · rw [hik.1, hik.2, u3_e]
    · rw [u3_j (by omega), u3_c (by decide)]; exact q6 w' i hi (by omega)
theorem m_puts1 {M : Mem} {r1 : Nat} : ok (f_X12_putsAll r1 1 M) (PR M r1 1123) := by
  unfold f_X12_putsAll
  have i0 : PR M r1 0 (am_u3 M 54 0 38 0) := ⟨fr_u3 fr_rfl (by decide), u3_e _ _ _ _ _, fun j hj _ => (by rw [u3_j (by omega)]), fun z => (by omega), fun k hk z => (by omega), fun w k hk z => (by omega)⟩
  refine ok_bind (puts1 i0 (by decide)) ?_
  rintro ⟨v, M1⟩ ⟨ev, e1⟩
  simp only at ev e1
  subst e1 ev
  refine ok_bind (P := PR M r1 67) ?_ ?_
  · refine ok_wh (fun k s => s.1 = nI k ∧ PR M r1 (1 + k) s.2) 66 ⟨rfl, PR_1 i0⟩ (by decide) ?_ ?_
    · rintro k ⟨x, M2⟩ hk ⟨e1, p2⟩
      simp only at e1 p2
      subst e1
      unfold L_X12_putsAll_21
      simp only []
      rw [nI_clamp (show k < 2 ^ 31 by omega)]
      refine ok_ifn (nI_ge (b := 66) hk (by decide)) (ok_ifp (inb_n hk (by decide)) (ok_bind (puts1 p2 (by omega)) ?_))
      rintro ⟨w, M3⟩ ⟨ew, e3⟩
      simp only at ew e3
      subst e3 ew
      exact ok_some ⟨nI_1 k, PR_72 p2 hk⟩
    · rintro ⟨x, M2⟩ ⟨e1, p2⟩
      simp only at e1 p2
      unfold L_X12_putsAll_21
      exact ok_ifp (by rw [e1]; decide) (ok_some p2)
  · intro M2 p2
    refine ok_bind (P := PR M r1 1123) ?_ (fun _ h => ok_some h)
    refine ok_wh (fun w s => s.1 = nI w ∧ PR M r1 (67 + 66 * w) s.2) 16 ⟨rfl, p2⟩ (by decide) ?_ ?_
    · rintro w ⟨x, M3⟩ hw ⟨e1, p3⟩
      simp only at e1 p3
      subst e1
      unfold L_X12_putsAll_53
      refine ok_ifn (nI_ge (b := 16) hw (by decide)) (ok_bind (P := PR M r1 (67 + 66 * (w + 1))) ?_ ?_)
      · refine ok_wh (fun k s => s.1 = nI k ∧ PR M r1 (67 + 66 * w + k) s.2) 66 ⟨rfl, p3⟩ (by decide) ?_ ?_
        · rintro k ⟨x, M4⟩ hk ⟨e1, p4⟩
          simp only at e1 p4
          subst e1
          unfold L_X12_putsAll_62
          simp only []
          rw [nI_clamp (show k < 2 ^ 31 by omega), nI_clamp (show w < 2 ^ 31 by omega)]
          refine ok_ifn (nI_ge (b := 66) hk (by decide)) (ok_ifp (inb_n hw (by decide)) (ok_ifp (inb_n hk (by decide)) (ok_bind (puts1 p4 (by omega)) ?_)))
          rintro ⟨u, M5⟩ ⟨eu, e5⟩
          simp only at eu e5
          subst e5 eu
          exact ok_some ⟨nI_1 k, PR_75 p4 hk⟩
        · rintro ⟨x, M4⟩ ⟨e1, p4⟩
          simp only at e1 p4
          unfold L_X12_putsAll_62
          rw [show 67 + 66 * w + 66 = 67 + 66 * (w + 1) by omega] at p4
          exact ok_ifp (by rw [e1]; decide) (ok_some p4)
      · intro M4 p4
        exact ok_some ⟨nI_1 w, p4⟩
    · rintro ⟨x, M3⟩ ⟨e1, p3⟩
      simp only at e1 p3
      unfold L_X12_putsAll_53
      exact ok_ifp (by rw [e1]; decide) (ok_some p3)
