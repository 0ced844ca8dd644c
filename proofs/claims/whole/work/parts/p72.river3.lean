/-! river: the call -/
theorem cpy_e {M : Mem} {c0 c1 n j : Nat} (h : j < n) : am_cp M c0 0 0 c1 0 0 n c1 0 j = M c0 0 j := by
  unfold am_cp
  rw [if_pos ⟨rfl, rfl, by omega, by omega⟩, show 0 + (j - 0) = j by omega]
theorem cpy_c {M : Mem} {c0 c1 n c : Nat} (h : c ≠ c1) : am_cp M c0 0 0 c1 0 0 n c = M c := by
  funext r j
  unfold am_cp
  rw [if_neg (fun z => h z.1)]
def bedC : List Nat := [3, 4, 5, 6, 7, 8, 9, 10, 11, 12]
theorem c_copy (M : Mem) : fr bedC M (f_X1_copyFrom M) ∧ (f_X1_copyFrom M 3 0 0 = M 13 0 0 ∧ f_X1_copyFrom M 3 0 5 = M 13 0 5 ∧ f_X1_copyFrom M 3 0 8 = M 13 0 8 ∧ f_X1_copyFrom M 3 0 12 = M 13 0 12 ∧ f_X1_copyFrom M 3 0 13 = M 13 0 13) ∧ (∀ j, j < 16 → f_X1_copyFrom M 4 0 j = M 14 0 j ∧ f_X1_copyFrom M 5 0 j = M 15 0 j ∧ f_X1_copyFrom M 6 0 j = M 16 0 j ∧ f_X1_copyFrom M 7 0 j = M 17 0 j) ∧ (∀ j, j < 4 → f_X1_copyFrom M 8 0 j = M 18 0 j ∧ f_X1_copyFrom M 9 0 j = M 19 0 j) ∧ (∀ j, j < 8 → f_X1_copyFrom M 10 0 j = M 20 0 j ∧ f_X1_copyFrom M 11 0 j = M 21 0 j ∧ f_X1_copyFrom M 12 0 j = M 22 0 j) := by
  unfold f_X1_copyFrom
  refine ⟨fun c hc => ?_, ⟨?_, ?_, ?_, ?_, ?_⟩, fun j hj => ⟨?_, ?_, ?_, ?_⟩, fun j hj => ⟨?_, ?_⟩, fun j hj => ⟨?_, ?_, ?_⟩⟩
  · have n : ∀ k, k ∈ bedC → c ≠ k := fun k hk z => hc (z ▸ hk)
    rw [cpy_c (n 12 (by decide)), cpy_c (n 11 (by decide)), cpy_c (n 10 (by decide)), cpy_c (n 9 (by decide)), cpy_c (n 8 (by decide)), cpy_c (n 7 (by decide)), cpy_c (n 6 (by decide)), cpy_c (n 5 (by decide)), cpy_c (n 4 (by decide)), u3_c (n 3 (by decide)), u3_c (n 3 (by decide)), u3_c (n 3 (by decide)), u3_c (n 3 (by decide)), u3_c (n 3 (by decide))]
  · rw [cpy_c (by decide), cpy_c (by decide), cpy_c (by decide), cpy_c (by decide), cpy_c (by decide), cpy_c (by decide), cpy_c (by decide), cpy_c (by decide), cpy_c (by decide), u3_j (by omega), u3_j (by omega), u3_j (by omega), u3_j (by omega), u3_e]
  · rw [cpy_c (by decide), cpy_c (by decide), cpy_c (by decide), cpy_c (by decide), cpy_c (by decide), cpy_c (by decide), cpy_c (by decide), cpy_c (by decide), cpy_c (by decide), u3_j (by omega), u3_j (by omega), u3_j (by omega), u3_e]
  · rw [cpy_c (by decide), cpy_c (by decide), cpy_c (by decide), cpy_c (by decide), cpy_c (by decide), cpy_c (by decide), cpy_c (by decide), cpy_c (by decide), cpy_c (by decide), u3_j (by omega), u3_j (by omega), u3_e]
  · rw [cpy_c (by decide), cpy_c (by decide), cpy_c (by decide), cpy_c (by decide), cpy_c (by decide), cpy_c (by decide), cpy_c (by decide), cpy_c (by decide), cpy_c (by decide), u3_j (by omega), u3_e]
  · rw [cpy_c (by decide), cpy_c (by decide), cpy_c (by decide), cpy_c (by decide), cpy_c (by decide), cpy_c (by decide), cpy_c (by decide), cpy_c (by decide), cpy_c (by decide), u3_e]
  · rw [cpy_c (by decide), cpy_c (by decide), cpy_c (by decide), cpy_c (by decide), cpy_c (by decide), cpy_c (by decide), cpy_c (by decide), cpy_c (by decide), cpy_e hj, u3_c (by decide), u3_c (by decide), u3_c (by decide), u3_c (by decide), u3_c (by decide)]
  · rw [cpy_c (by decide), cpy_c (by decide), cpy_c (by decide), cpy_c (by decide), cpy_c (by decide), cpy_c (by decide), cpy_c (by decide), cpy_e hj, cpy_c (by decide), u3_c (by decide), u3_c (by decide), u3_c (by decide), u3_c (by decide), u3_c (by decide)]
  · rw [cpy_c (by decide), cpy_c (by decide), cpy_c (by decide), cpy_c (by decide), cpy_c (by decide), cpy_c (by decide), cpy_e hj, cpy_c (by decide), cpy_c (by decide), u3_c (by decide), u3_c (by decide), u3_c (by decide), u3_c (by decide), u3_c (by decide)]
  · rw [cpy_c (by decide), cpy_c (by decide), cpy_c (by decide), cpy_c (by decide), cpy_c (by decide), cpy_e hj, cpy_c (by decide), cpy_c (by decide), cpy_c (by decide), u3_c (by decide), u3_c (by decide), u3_c (by decide), u3_c (by decide), u3_c (by decide)]
  · rw [cpy_c (by decide), cpy_c (by decide), cpy_c (by decide), cpy_c (by decide), cpy_e hj, cpy_c (by decide), cpy_c (by decide), cpy_c (by decide), cpy_c (by decide), u3_c (by decide), u3_c (by decide), u3_c (by decide), u3_c (by decide), u3_c (by decide)]
  · rw [cpy_c (by decide), cpy_c (by decide), cpy_c (by decide), cpy_e hj, cpy_c (by decide), cpy_c (by decide), cpy_c (by decide), cpy_c (by decide), cpy_c (by decide), u3_c (by decide), u3_c (by decide), u3_c (by decide), u3_c (by decide), u3_c (by decide)]
  · rw [cpy_c (by decide), cpy_c (by decide), cpy_e hj, cpy_c (by decide), cpy_c (by decide), cpy_c (by decide), cpy_c (by decide), cpy_c (by decide), cpy_c (by decide), u3_c (by decide), u3_c (by decide), u3_c (by decide), u3_c (by decide), u3_c (by decide)]
  · rw [cpy_c (by decide), cpy_e hj, cpy_c (by decide), cpy_c (by decide), cpy_c (by decide), cpy_c (by decide), cpy_c (by decide), cpy_c (by decide), cpy_c (by decide), u3_c (by decide), u3_c (by decide), u3_c (by decide), u3_c (by decide), u3_c (by decide)]
  · rw [cpy_e hj, cpy_c (by decide), cpy_c (by decide), cpy_c (by decide), cpy_c (by decide), cpy_c (by decide), cpy_c (by decide), cpy_c (by decide), cpy_c (by decide), u3_c (by decide), u3_c (by decide), u3_c (by decide), u3_c (by decide), u3_c (by decide)]
/-- the class's bed -/
def KB (B : Bd) (M : Mem) : Prop := (M 3 0 0 = nI (B 0 0) ∧ M 3 0 5 = nI (B 0 1) ∧ M 3 0 8 = nI (B 0 2) ∧ M 3 0 12 = nI (B 0 3) ∧ M 3 0 13 = nI (B 0 4)) ∧ (∀ j, j < B 0 0 → M 4 0 j = nI (B 1 j) ∧ M 5 0 j = nI (B 2 j) ∧ M 6 0 j = nI (B 3 j) ∧ M 7 0 j = nI (B 4 j)) ∧ (∀ j, j < B 0 1 → M 8 0 j = nI (B 5 j) ∧ M 9 0 j = nI (B 6 j)) ∧ (∀ j, j < B 0 2 → M 10 0 j = nI (B 7 j) ∧ M 11 0 j = nI (B 8 j) ∧ M 12 0 j = nI (B 9 j))
/-- a river begins: HOUR 0, the LAW untold, no BOOK, no IMAGES -/
theorem Rel_new {qc qs : Nat} {B : Bd} {M : Mem} (hq : qc = 24 ∨ qc = 25) (hs : qs = 46 ∨ qs = 47) (hW : WB B) (kb : KB B M) (nb : NB B M) (l1 : M 23 0 1 = nI 9) (l4 : M 23 0 4 = 0) (lc : ∀ i, i < 9 → M qc 0 i = dfl.getD i 0) (h54 : ∀ j, j ∈ a54 → M 54 0 j = 0) (ht : rTape M) (hc : rCnt M) (h30 : ∀ j, j < 47 → M 30 0 j = 0) (h72 : ∀ j, j < 66 → M 72 0 j = if (58 ≤ j ∧ j ≤ 62) ∨ j = 64 then -1 else 0) (h31 : M 31 0 1 = 0 ∧ M 31 0 3 = 0) (h45 : M 45 0 3 = 0) (hqs : ∀ j, j < 16 → M qs 0 j = -1) (h38 : M 38 0 5 = 0) : Rel qc qs M := by
  obtain ⟨w0, w1, w2, w3, w4, w5, w6, w7⟩ := hW
  obtain ⟨⟨k0, k1, k2, k3, k4⟩, k5, k6, k7⟩ := kb
  obtain ⟨n0, n1, n2, n3⟩ := nb
  have eB : nB M = B 0 0 := by unfold nB; rw [k0, nI_clamp (by omega)]
  have eG : nG M = B 0 1 := by unfold nG; rw [k1, nI_clamp (by omega)]
  have eS : nS M = B 0 2 := by unfold nS; rw [k2, nI_clamp (by omega)]
  have eV : vF M = B 0 3 := by unfold vF; rw [k3, nI_clamp (by omega)]
  have eK : kS M = B 0 4 := by unfold kS; rw [k4, nI_clamp (by omega)]
  have eL : ln M = 9 := by unfold ln; rw [l1]; rfl
  have z72 : ∀ j, j < 58 → M 72 0 j = 0 := fun j hj => by rw [h72 j (by omega), if_neg (by omega)]
  refine ⟨⟨hq, ?_, ?_, ?_, ?_⟩, hs, ?_, ht, hc, ?_, ?_, ?_, cch_0 h38⟩
  · refine ⟨by rw [eL]; exact l1, by rw [eL]; decide, by rw [eL]; decide, ?_, ?_⟩
    · rw [eL]; exact cwf_c lc dfl_w
    · rw [l4, if_neg]
      rw [eL]
      rintro ⟨k, hk, e⟩
      rw [lc k hk] at e
      exact absurd e ((by decide +kernel : ∀ k, k < 9 → ¬ dfl.getD k 0 = 7) k hk)
  · exact Or.inr ⟨h54 19 (by decide), eL, lc⟩
  · exact ⟨⟨by rw [eB]; exact k0, by rw [eB]; exact w0⟩, ⟨by rw [eG]; exact k1, by rw [eG]; exact w1⟩, ⟨by rw [eS]; exact k2, by rw [eS]; exact w2⟩, ⟨by rw [eV]; exact k3, by rw [eV]; exact w3⟩, ⟨by rw [eK]; exact k4, by rw [eK]; exact w4⟩⟩
  · refine ⟨by rw [n0 0 (by decide), k0], by rw [n0 1 (by decide), k1], by rw [n0 2 (by decide), k2], by rw [n0 3 (by decide), k3], by rw [n0 4 (by decide), k4], ?_, ?_, ?_⟩
    · rw [eB]
      intro b hb
      obtain ⟨a1, a2, a3, a4⟩ := n1 b hb
      obtain ⟨c1, c2, c3, c4⟩ := k5 b hb
      exact ⟨a1.trans c1.symm, a2.trans c2.symm, a3.trans c3.symm, a4.trans c4.symm⟩
    · rw [eG]
      intro k hk
      exact ⟨(n2 k hk).1.trans (k6 k hk).1.symm, (n2 k hk).2.trans (k6 k hk).2.symm⟩
    · rw [eS]
      intro s hs
      exact ⟨(n3 s hs).1.trans (k7 s hs).1.symm, (n3 s hs).2.1.trans (k7 s hs).2.1.symm, (n3 s hs).2.2.trans (k7 s hs).2.2.symm⟩
  · refine ⟨?_, ?_, ?_⟩
    · rw [eB]
      intro b hb
      obtain ⟨c1, c2, c3, c4⟩ := k5 b hb
      obtain ⟨a1, a2, a3, a4⟩ := w5 b hb
      exact ⟨⟨_, a1, c1⟩, ⟨_, a2, c2⟩, ⟨_, a3, c3⟩, ⟨_, a4, c4⟩⟩
    · rw [eG]
      intro k hk
      exact ⟨⟨_, (w6 k hk).1, (k6 k hk).1⟩, ⟨_, (w6 k hk).2, (k6 k hk).2⟩⟩
    · rw [eS, eB]
      intro s hs
      obtain ⟨a1, a2, a3, a4⟩ := w7 s hs
      exact ⟨_, _, _, (k7 s hs).1, (k7 s hs).2.1, (k7 s hs).2.2, a1, a2, a3, a4⟩
  · rw [eB, eG]
    refine ⟨⟨?_, ⟨fun j hj => ?_, fun j _ _ => ?_⟩, ⟨fun j hj => ?_, fun j _ hj => h30 _ (by omega)⟩, ⟨fun j hj => ?_, fun j _ hj => h30 _ (by omega)⟩, ⟨fun k hk => ?_, fun k _ hk => h30 _ (by omega)⟩, fun k hk => ⟨0, Nat.zero_le _, h30 _ (by omega)⟩, fun x hx => ⟨0, Nat.zero_le _, z72 _ (by omega)⟩, ?_⟩, ⟨0, by decide, h30 0 (by decide)⟩, z72 52 (by decide), z72 57 (by decide)⟩
    · rw [h30 0 (by decide), h72 63 (by decide)]; rfl
    · right; right
      rw [h30 1 (by decide), h30 2 (by decide), b_0, z72 j (by omega)]
      exact ⟨rfl, rfl, rfl⟩
    · rw [h30 1 (by decide), b_0]
    · rw [h30 _ (by omega), z72 _ (by omega)]
    · rw [h30 _ (by omega), z72 _ (by omega)]
    · rw [h30 _ (by omega), h30 _ (by omega), z72 _ (by omega), z72 _ (by omega)]
      refine ⟨rfl, Or.inl rfl, rfl, fun z => absurd z (by decide), fun _ => ?_⟩
      rw [h72 _ (by omega), if_pos (by omega)]
    · rw [h72 64 (by decide)]; rfl
  · exact ⟨0, 0, by decide, by decide, h31.1, h54 35 (by decide), h31.2, h54 37 (by decide), fun i hi => (by cases hi), fun q hq => (by cases hq)⟩
  · refine ⟨0, by decide, h45, h54 34 (by decide), fun i hi => (by cases hi), fun b hb _ => hqs b (by omega)⟩
def rivC : List Nat := [0, 1, 3, 4, 5, 6, 7, 8, 9, 10, 11, 12, 13, 14, 15, 16, 17, 18, 19, 20, 21, 22, 23, 24, 25, 30, 31, 38, 45, 46, 47]
theorem t_river {qc qd qs qn : Nat} {x : Int32} {M : Mem} (h : Rel qc qs M) (hd : (qc = 24 ∧ qd = 25) ∨ (qc = 25 ∧ qd = 24)) : ok (f_X11_river qc qd qs qn x M) (fun r => ok (f_X12_river x r.2.2) (fun r' => ans1 r.1 r'.1 (r'.2 54 0 0) ∧ Rel (if r.2.1 = true then qd else qc) qs r'.2)) := by
  obtain ⟨t, t1, t2, t3, t4⟩ := R_tx h
  have hqd : qd = 24 ∨ qd = 25 := by rcases hd with ⟨-, rfl⟩ | ⟨-, rfl⟩ <;> decide
  by_cases hx : x < 0 ∨ nI (min t 600) < x
  · unfold f_X11_river
    refine ok_bindE (tkF (m := 600) t2 t1 (by decide) hx) (ok_some ?_)
    show ok (f_X12_river x (am_u3 M 0 0 14 (M 0 0 14 + 1))) _
    have e54 : (am_u3 M 0 0 14 (M 0 0 14 + 1)) 54 0 1 = nI t := t3
    rw [Nat.min_eq_left t1] at hx
    unfold f_X12_river
    exact ok_ifp ((in_t e54).mpr hx) (ok_bindE (bad14 M (by decide)) (ok_ifn (by decide) (ok_some ⟨⟨rfl, RM_t 14 1 M⟩, Rel_RM (k := 14) (Or.inr rfl) h⟩)))
  · obtain ⟨n, rfl, hnt⟩ := args (n := min t 600) rfl (by omega) hx
    have s0 := c_take h t1 t2 (show n ≤ t by omega)
    have f0 := tkM_f (nI n) M
    unfold f_X11_river
    refine ok_bindE (tkT (m := 600) t2 t1 (by decide) hnt) (ok_bind (c_read s0) ?_)
    rintro M2 ⟨m2, q2⟩
    have F2 : fr dB M M2 := fr_tr (fr_mono f0 (by decide)) m2.1
    have t02 : M2 1 0 1 = 0 := m2.2.trans s0.1.2.2.1
    -- the model, behind the class
    have mod : ∀ M3 : Mem, fr rivC M M3 → ok (f_X12_river (nI n) M3) (fun r' => r'.2 54 0 0 = 0 ∧ fr (pC ++ aC) M3 r'.2 ∧ r'.2 54 0 1 = 0 ∧ ((∃ B, rv (txT M) n 61 0 B0 0 = Sum.inl B ∧ r'.1 = nI (B 0 0) ∧ r'.2 54 0 3 = -1 ∧ NB B r'.2 ∧ (∀ j, j ∈ a54 → r'.2 54 0 j = 0) ∧ (∀ j, j < 66 → r'.2 72 0 j = if (58 ≤ j ∧ j ≤ 62) ∨ j = 64 then -1 else 0)) ∨ (∃ f, rv (txT M) n 61 0 B0 0 = Sum.inr f ∧ r'.1 = nI f.1 - 10 ∧ r'.2 54 0 3 = nI f.2 ∧ (∀ j, j ∈ t54 → r'.2 54 0 j = M 54 0 j) ∧ fr pC M3 r'.2))) := by
      intro M3 F3
      have e54 : M3 54 = M 54 := F3 54 (by decide)
      have e55 : M3 55 = M 55 := F3 55 (by decide)
      unfold f_X12_river
      have i1 : ¬ f_X12_in (nI n) 0 (M3 54 0 1) = 0 := by
        rw [e54, in_t t3]
        rintro (z | z)
        · exact nI_pos (by omega) z
        · rw [nI_ltI (by omega) (by omega)] at z; omega
      refine ok_ifn i1 (ok_bindE (badM0 _ _ _) (ok_ifp rfl ?_))
      refine ok_bind (m_starts (T := txT M) (by omega) (fun j hj => ?_)) ?_
      · rw [M0_cc (by decide), e55]
        have := t4 j (by omega)
        exact ⟨this.1, this.2.1⟩
      · rintro M4 ⟨s4, f4, g4, g47, -⟩
        refine ok_bind m_nothing ?_
        rintro M5 ⟨f5, b5⟩
        refine ok_bind (m_rv (T := txT M) (n := n) (MS_o s4 (f5 54 (by decide)) (f5 55 (by decide))) b5 (by rw [f5 54 (by decide)]; exact g47)) ?_
        rintro M10 ⟨m10, g⟩
        have k54 : ∀ j, j ∉ s54 → j ≠ 0 → M10 54 0 j = M 54 0 j := by
          intro j hj h0
          have hj2 : j ∉ k4567 := fun z => hj ((by decide : ∀ j, j ∈ k4567 → j ∈ s54) j z)
          rw [m10.2 j hj2, f5 54 (by decide), g4 j hj, M0_j h0, e54]
        have e1 : M10 54 0 1 = 0 := by rw [m10.2 1 (by decide), f5 54 (by decide)]; exact s4.1.2.2.1
        have e0 : M10 54 0 0 = 0 := by rw [m10.2 0 (by decide), f5 54 (by decide), g4 0 (by decide)]; exact M0_t M3
        have F10 : fr pC M3 M10 := fr_tr (fr_mono (M0_f M3) (by decide)) (fr_tr (fr_mono f4 (by decide)) (fr_tr (fr_mono f5 (by decide)) m10.1))
        rcases g with ⟨B, p, ex, s10, b10, w10⟩ | ⟨f, ex, s10⟩
        · refine ok_ifp s10.2.2.2 (ok_bind (m_anew (MB_o b10 (u3_c (by decide)) (u3_c (by decide)) (u3_c (by decide)) (u3_c (by decide))) w10) ?_)
          rintro M12 ⟨f12, n12, h72, ha, ho⟩
          refine ok_some ⟨?_, fr_tr (fr_mono (fr_u3 F10 (by decide)) (by decide)) (fr_mono f12 (by decide)), ?_, Or.inl ⟨B, ex, n12.1 0 (by decide), ?_, n12, ha, h72⟩⟩
          · show M12 54 0 0 = 0
            rw [ho 0 (by decide), u3_j (by omega)]; exact e0
          · show M12 54 0 1 = 0
            rw [ho 1 (by decide), u3_j (by omega)]; exact e1
          · show M12 54 0 3 = -1
            rw [ho 3 (by decide), u3_e]
        · refine ok_ifn (MF_ne s10) (ok_some ⟨?_, fr_mono (fr_u3 F10 (by decide)) (by decide), ?_, Or.inr ⟨f, ex, ?_, ?_, fun j hj => ?_, fr_u3 F10 (by decide)⟩⟩)
          · show am_u3 M10 54 0 3 (M10 54 0 6) 54 0 0 = 0
            rw [u3_j (by omega)]; exact e0
          · show am_u3 M10 54 0 3 (M10 54 0 6) 54 0 1 = 0
            rw [u3_j (by omega)]; exact e1
          · show M10 54 0 5 - 10 = _
            rw [s10.2.1]
          · show am_u3 M10 54 0 3 (M10 54 0 6) 54 0 3 = _
            rw [u3_e]; exact s10.2.2.2.1
          · have h3 : j ≠ 3 := by rintro rfl; revert hj; decide
            have h0 : j ≠ 0 := by rintro rfl; revert hj; decide
            show am_u3 M10 54 0 3 (M10 54 0 6) 54 0 j = _
            rw [u3_j (by omega)]
            exact k54 j ((by decide : ∀ j, j ∈ t54 → j ∉ s54) j hj) h0
    generalize hX : rv (txT M) n 61 0 B0 0 = X at q2 mod
    rcases X with B | f
    · obtain ⟨cb, wb, p, s2⟩ := q2
      refine ok_ifp (fty0 s2) ?_
      show ok (Option.bind (f_X3_beUntold qc qd (f_X1_copyFrom M2)) _) _
      obtain ⟨f3, c3, c16, c4, c8⟩ := c_copy M2
      refine ok_bind (c_untold hqd) ?_
      rintro M4 ⟨f4, l1, l4, lc⟩
      have qd23 : ∀ c, c ≠ 23 → c ≠ 24 → c ≠ 25 → c ∉ [23, qd] := by
        intro c a1 a2 a3 z
        rcases List.mem_cons.mp z with z | z
        · exact a1 z
        · rcases hqd with y | y
          · exact a2 ((List.mem_singleton.mp z).trans y)
          · exact a3 ((List.mem_singleton.mp z).trans y)
      refine ok_some ?_
      show ok (f_X12_river (nI n) (am_u3 (am_u3 (am_u3 (am_u3 (fillM (am_u3 (fillM M4 qs 16 (-1 : Int32)) 45 0 3 (0 : Int32)) 30 47 (0 : Int32)) 31 0 1 (0 : Int32)) 31 0 3 (0 : Int32)) 0 0 12 (0 : Int32)) 38 0 5 (0 : Int32))) (fun r' => ans1 (Sum.inl ((fillM (am_u3 (fillM M4 qs 16 (-1 : Int32)) 45 0 3 (0 : Int32)) 30 47 (0 : Int32)) 3 0 0)) r'.1 (r'.2 54 0 0) ∧ Rel qd qs r'.2)
      have hs := h.2.1
      have qsn : ∀ c, c ≠ 46 → c ≠ 47 → c ∉ [qs] := by
        intro c a1 a2 z
        rcases hs with y | y
        · exact a1 ((List.mem_singleton.mp z).trans y)
        · exact a2 ((List.mem_singleton.mp z).trans y)
      have qs45 : qs ≠ 45 := by rcases hs with rfl | rfl <;> decide
      have qs30 : qs ∉ [30] := by rcases hs with rfl | rfl <;> decide
      have qs31 : qs ≠ 31 := by rcases hs with rfl | rfl <;> decide
      have qs0 : qs ≠ 0 := by rcases hs with rfl | rfl <;> decide
      have qs38 : qs ≠ 38 := by rcases hs with rfl | rfl <;> decide
      -- cells of the class's end
      have oth : ∀ c, c ∉ [0, 30, 31, 38, 45, 46, 47] → (am_u3 (am_u3 (am_u3 (am_u3 (fillM (am_u3 (fillM M4 qs 16 (-1 : Int32)) 45 0 3 (0 : Int32)) 30 47 (0 : Int32)) 31 0 1 (0 : Int32)) 31 0 3 (0 : Int32)) 0 0 12 (0 : Int32)) 38 0 5 (0 : Int32)) c = M4 c := by
        intro c hc
        have a : ∀ k, k ∈ [0, 30, 31, 38, 45, 46, 47] → c ≠ k := fun k hk z => hc (by rw [z]; exact hk)
        rw [u3_c (a 38 (by decide)), u3_c (a 0 (by decide)), u3_c (a 31 (by decide)), u3_c (a 31 (by decide)), fill_c (c := 30) c (fun z => a 30 (by decide) (List.mem_singleton.mp z)), u3_c (a 45 (by decide)), fill_c (c := qs) c (qsn c (a 46 (by decide)) (a 47 (by decide)))]
      have eqs : ∀ j, j < 16 → (am_u3 (am_u3 (am_u3 (am_u3 (fillM (am_u3 (fillM M4 qs 16 (-1 : Int32)) 45 0 3 (0 : Int32)) 30 47 (0 : Int32)) 31 0 1 (0 : Int32)) 31 0 3 (0 : Int32)) 0 0 12 (0 : Int32)) 38 0 5 (0 : Int32)) qs 0 j = -1 := by
        intro j hj
        rw [u3_c qs38, u3_c qs0, u3_c qs31, u3_c qs31, fill_c (c := 30) qs qs30, u3_c qs45, fill_e hj]
      have e30 : ∀ j, j < 47 → (am_u3 (am_u3 (am_u3 (am_u3 (fillM (am_u3 (fillM M4 qs 16 (-1 : Int32)) 45 0 3 (0 : Int32)) 30 47 (0 : Int32)) 31 0 1 (0 : Int32)) 31 0 3 (0 : Int32)) 0 0 12 (0 : Int32)) 38 0 5 (0 : Int32)) 30 0 j = 0 := by
        intro j hj
        rw [u3_c (by decide), u3_c (by decide), u3_c (by decide), u3_c (by decide), fill_e hj]
      have e31 : (am_u3 (am_u3 (am_u3 (am_u3 (fillM (am_u3 (fillM M4 qs 16 (-1 : Int32)) 45 0 3 (0 : Int32)) 30 47 (0 : Int32)) 31 0 1 (0 : Int32)) 31 0 3 (0 : Int32)) 0 0 12 (0 : Int32)) 38 0 5 (0 : Int32)) 31 0 1 = 0 ∧ (am_u3 (am_u3 (am_u3 (am_u3 (fillM (am_u3 (fillM M4 qs 16 (-1 : Int32)) 45 0 3 (0 : Int32)) 30 47 (0 : Int32)) 31 0 1 (0 : Int32)) 31 0 3 (0 : Int32)) 0 0 12 (0 : Int32)) 38 0 5 (0 : Int32)) 31 0 3 = 0 := by
        refine ⟨?_, ?_⟩
        · rw [u3_c (by decide), u3_c (by decide), u3_j (by omega), u3_e]
        · rw [u3_c (by decide), u3_c (by decide), u3_e]
      have e45 : (am_u3 (am_u3 (am_u3 (am_u3 (fillM (am_u3 (fillM M4 qs 16 (-1 : Int32)) 45 0 3 (0 : Int32)) 30 47 (0 : Int32)) 31 0 1 (0 : Int32)) 31 0 3 (0 : Int32)) 0 0 12 (0 : Int32)) 38 0 5 (0 : Int32)) 45 0 3 = 0 := by
        rw [u3_c (by decide), u3_c (by decide), u3_c (by decide), u3_c (by decide), fill_c (c := 30) 45 (by decide), u3_e]
      have M40 : M4 0 = M 0 := by rw [f4 0 (qd23 0 (by decide) (by decide) (by decide)), f3 0 (by decide), F2 0 (by decide)]
      have e0 : ∀ j, (am_u3 (am_u3 (am_u3 (am_u3 (fillM (am_u3 (fillM M4 qs 16 (-1 : Int32)) 45 0 3 (0 : Int32)) 30 47 (0 : Int32)) 31 0 1 (0 : Int32)) 31 0 3 (0 : Int32)) 0 0 12 (0 : Int32)) 38 0 5 (0 : Int32)) 0 0 j = if j = 12 then 0 else M 0 0 j := by
        intro j
        rw [u3_c (by decide)]
        by_cases e : j = 12
        · rw [e, u3_e, if_pos rfl]
        · rw [u3_j (by omega), u3_c (by decide), u3_c (by decide), fill_c (c := 30) 0 (by decide), u3_c (by decide), fill_c (c := qs) 0 (qsn 0 (by decide) (by decide)), if_neg e, M40]
      have e38 : (am_u3 (am_u3 (am_u3 (am_u3 (fillM (am_u3 (fillM M4 qs 16 (-1 : Int32)) 45 0 3 (0 : Int32)) 30 47 (0 : Int32)) 31 0 1 (0 : Int32)) 31 0 3 (0 : Int32)) 0 0 12 (0 : Int32)) 38 0 5 (0 : Int32)) 38 0 5 = 0 := u3_e _ _ _ _ _
      have ev : (fillM (am_u3 (fillM M4 qs 16 (-1 : Int32)) 45 0 3 (0 : Int32)) 30 47 (0 : Int32)) 3 0 0 = M4 3 0 0 := by
        rw [fill_c (c := 30) 3 (by decide), u3_c (by decide), fill_c (c := qs) 3 (qsn 3 (by decide) (by decide))]
      rw [ev]
      generalize (am_u3 (am_u3 (am_u3 (am_u3 (fillM (am_u3 (fillM M4 qs 16 (-1 : Int32)) 45 0 3 (0 : Int32)) 30 47 (0 : Int32)) 31 0 1 (0 : Int32)) 31 0 3 (0 : Int32)) 0 0 12 (0 : Int32)) 38 0 5 (0 : Int32)) = M5 at oth eqs e30 e31 e45 e0 e38
      have F5 : fr rivC M M5 := by
        intro c hc
        have a : ∀ k, k ∈ rivC → c ≠ k := fun k hk z => hc (by rw [z]; exact hk)
        rw [oth c (fun z => hc ((by decide : ∀ c, c ∈ [0, 30, 31, 38, 45, 46, 47] → c ∈ rivC) c z)), f4 c (qd23 c (a 23 (by decide)) (a 24 (by decide)) (a 25 (by decide))), f3 c (fun z => hc ((by decide : ∀ c, c ∈ bedC → c ∈ rivC) c z)), F2 c (fun z => hc ((by decide : ∀ c, c ∈ dB → c ∈ rivC) c z))]
      refine ok_mono (mod M5 F5) ?_
      rintro ⟨v, M6⟩ ⟨d0, d1, d3, (⟨B', ex, q1, q3, qn, q54, q72⟩ | ⟨f, ex, -⟩)⟩
      · simp only at d0 d1 d3 q1 q3 qn q54 q72
        injection ex with ex
        subst ex
        have ein : ∀ c, c ∉ pC ++ aC → M6 c = M5 c := d1
        have bed4 : ∀ c, c ∈ bedC → M5 c = f_X1_copyFrom M2 c := by
          intro c hc
          rw [oth c (by revert c; decide), f4 c (qd23 c (by rintro rfl; revert hc; decide) (by rintro rfl; revert hc; decide) (by rintro rfl; revert hc; decide))]
        have bed6 : ∀ c, c ∈ bedC → M6 c = f_X1_copyFrom M2 c := fun c hc => by rw [ein c (by revert c; decide)]; exact bed4 c hc
        obtain ⟨b0, b1, b2, b3, b4, b5, b6, b7, b8⟩ := cb
        have kb : KB B M6 := by
          refine ⟨⟨?_, ?_, ?_, ?_, ?_⟩, fun j hj => ?_, fun j hj => ?_, fun j hj => ?_⟩
          · rw [bed6 3 (by decide), c3.1]; exact b0
          · rw [bed6 3 (by decide), c3.2.1]; exact b1
          · rw [bed6 3 (by decide), c3.2.2.1]; exact b2
          · rw [bed6 3 (by decide), c3.2.2.2.1]; exact b3
          · rw [bed6 3 (by decide), c3.2.2.2.2]; exact b4
          · have w := c16 j (by have := wb.1; omega)
            rw [bed6 4 (by decide), bed6 5 (by decide), bed6 6 (by decide), bed6 7 (by decide), w.1, w.2.1, w.2.2.1, w.2.2.2]
            exact b5 j hj
          · have w := c4 j (by have := wb.2.1; omega)
            rw [bed6 8 (by decide), bed6 9 (by decide), w.1, w.2]
            exact b7 j hj
          · have w := c8 j (by have := wb.2.2.1; omega)
            rw [bed6 10 (by decide), bed6 11 (by decide), bed6 12 (by decide), w.1, w.2.1, w.2.2]
            exact b8 j hj
        have l23 : M6 23 = M4 23 := by rw [ein 23 (by decide), oth 23 (by decide)]
        have lqd : M6 qd = M4 qd := by
          rw [ein qd (by rcases hqd with rfl | rfl <;> decide), oth qd (by rcases hqd with rfl | rfl <;> decide)]
        have M41 : M4 1 = M2 1 := by rw [f4 1 (qd23 1 (by decide) (by decide) (by decide)), f3 1 (by decide)]
        have c1 : M6 1 = M2 1 := by rw [ein 1 (by decide), oth 1 (by decide), M41]
        refine ⟨⟨d0, ?_⟩, ?_⟩
        · show M4 3 0 0 = v
          rw [q1, f4 3 (qd23 3 (by decide) (by decide) (by decide)), c3.1, b0]
        · show Rel qd qs M6
          refine Rel_new (B := B) hqd hs wb kb qn (by rw [l23]; exact l1) (by rw [l23]; exact l4) (fun i hi => by rw [lqd]; exact lc i hi) q54 (rT_0 (by rw [c1]; exact t02) d3 (by rw [c1, q3]; exact s2.2.2.2.2)) ?_ (fun j hj => by rw [ein 30 (by decide)]; exact e30 j hj) q72 (by rw [ein 31 (by decide)]; exact e31) (by rw [ein 45 (by decide)]; exact e45) (fun j hj => by rw [ein qs (by rcases hs with rfl | rfl <;> decide)]; exact eqs j hj) (by rw [ein 38 (by decide)]; exact e38)
          have hcn := h.2.2.2.2.1
          refine ⟨?_, ?_, ?_⟩
          · rw [ein 0 (by decide), e0, if_pos rfl, q54 36 (by decide)]
          · rw [ein 0 (by decide), e0, if_neg (by decide), ein 56 (by decide), F5 56 (by decide)]; exact hcn.2.1
          · rw [ein 0 (by decide), e0, if_neg (by decide), ein 56 (by decide), F5 56 (by decide)]; exact hcn.2.2
      · cases ex
    · refine ok_ifn (fty1 q2) (ok_some ?_)
      show ok (f_X12_river (nI n) M2) (fun r' => ans1 (Sum.inl (M2 1 0 5 - 10)) r'.1 (r'.2 54 0 0) ∧ Rel qc qs r'.2)
      refine ok_mono (mod M2 (fr_mono F2 (by decide))) ?_
      rintro ⟨v, M6⟩ ⟨d0, d1, d3, (⟨B', ex, -⟩ | ⟨f', ex, q1, q3, q54, d2⟩)⟩
      · cases ex
      · simp only at d0 d1 d3 q1 q3 q54 d2
        injection ex with ex
        subst ex
        have ein : ∀ c, c ∉ pC → M6 c = M2 c := d2
        have eM : ∀ c, c ∉ dB → c ∉ pC → M6 c = M c := fun c h1 h2 => by rw [ein c h2, F2 c h1]
        refine ⟨⟨d0, ?_⟩, ?_⟩
        · show M2 1 0 5 - 10 = v
          rw [q2.2.2.1, q1]
        · show Rel qc qs M6
          refine Rel_txt h (fun c hc => ?_) ?_ ?_ ?_ ?_ q54 ?_ (rT_0 (by rw [ein 1 (by decide)]; exact t02) d3 (by rw [ein 1 (by decide), q2.2.2.2.2, q3]))
          · exact eM c (by revert c; decide) (by revert c; decide)
          · rcases hd with ⟨rfl, -⟩ | ⟨rfl, -⟩ <;> exact eM _ (by decide) (by decide)
          · rcases h.2.1 with rfl | rfl <;> exact eM _ (by decide) (by decide)
          · rw [eM 23 (by decide) (by decide)]
          · rw [eM 23 (by decide) (by decide)]
          · rw [eM 45 (by decide) (by decide)]
