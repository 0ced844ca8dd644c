/-! KEPT BY EVERY CALL: the class's side -/
theorem P9_cp {M : Mem} {c0 r0 sp c1 r1 dp n : Nat} (h : P9 M) (hc : c1 ≠ 54) : P9 (am_cp M c0 r0 sp c1 r1 dp n) := by
  unfold P9
  rw [cp_c (Ne.symm hc)]; exact h
theorem P9_fill {M : Mem} {c n : Nat} {v : Int32} (h : P9 M) (hc : c ≠ 54) : P9 (fillM M c n v) := by
  unfold P9
  rw [fill_c 54 (by simpa using Ne.symm hc)]; exact h
theorem P9_ite {c : Prop} {i : Decidable c} {a b : Mem} (h1 : P9 a) (h2 : P9 b) : P9 (@ite _ c i a b) := by
  by_cases h : c
  · rw [if_pos h]; exact h1
  · rw [if_neg h]; exact h2
theorem q_f_X0_keepFirst {M : Mem} (h : P9 M) : P9 (f_X0_keepFirst M) := P9_ite (P9_cp h (by decide)) h
theorem q_f_X10_blame {x1 x2 : Int32} {M : Mem} (h : P9 M) : P9 (f_X10_blame x1 x2 M) := P9_ite (P9_c (P9_c h (by decide)) (by decide)) h
theorem q_f_X10_blameToken {x1 : Int32} {M : Mem} (h : P9 M) : P9 (f_X10_blameToken x1 M) := q_f_X10_blame h
theorem q_f_X10_take {x1 : Int32} {M : Mem} (h : P9 M) : P9 (f_X10_take x1 M) := P9_c (P9_c (P9_c (P9_c (P9_c h (by decide)) (by decide)) (by decide)) (by decide)) (by decide)
theorem q_f_X1_copyFrom {M : Mem} (h : P9 M) : P9 (f_X1_copyFrom M) := P9_cp (P9_cp (P9_cp (P9_cp (P9_cp (P9_cp (P9_cp (P9_cp (P9_cp (P9_c (P9_c (P9_c (P9_c (P9_c h (by decide)) (by decide)) (by decide)) (by decide)) (by decide)) (by decide)) (by decide)) (by decide)) (by decide)) (by decide)) (by decide)) (by decide)) (by decide)) (by decide)
theorem q_f_X3_isNestedDeeper {x1 : Int32} {M : Mem} (h : P9 M) : P9 (f_X3_isNestedDeeper x1 M).2 := by
  unfold f_X3_isNestedDeeper
  split
  · split
    · exact q_f_X10_blame h
    · exact q_f_X10_blame h
  · split
    · exact h
    · exact h
theorem q_f_X5_clearBook {qs qn : Nat} {M : Mem} (h_qs : qs ≠ 54) (h_qn : qn ≠ 54) (h : P9 M) : P9 (f_X5_clearBook qs qn M) := P9_c (P9_fill h h_qs) (by decide)
theorem q_f_X6_forget {M : Mem} (h : P9 M) : P9 (f_X6_forget M) := P9_c h (by decide)
theorem q_f_X7_clear {M : Mem} (h : P9 M) : P9 (f_X7_clear M) := P9_c (P9_c h (by decide)) (by decide)
theorem q_f_X8_addHour {q1 : Nat} {M : Mem} (h_q1 : q1 ≠ 54) (h : P9 M) : P9 (f_X8_addHour q1 M) := P9_c h h_q1
theorem q_f_X8_clear {q1 : Nat} {M : Mem} (h_q1 : q1 ≠ 54) (h : P9 M) : P9 (f_X8_clear q1 M) := P9_fill h h_q1
theorem q_f_X8_setMode {q1 : Nat} {x1 x2 : Int32} {M : Mem} (h_q1 : q1 ≠ 54) (h : P9 M) : P9 (f_X8_setMode q1 x1 x2 M) := P9_ite (P9_ite (P9_c (P9_c h h_q1) h_q1) (P9_c (P9_c h h_q1) h_q1)) (P9_ite (P9_c (P9_c h h_q1) h_q1) (P9_c (P9_c h h_q1) h_q1))
theorem q_L_X10_next_0  : ∀ s, P9 s → pc (sQ P9 P9) (L_X10_next_0 s) := by
  intro M0 hM
  unfold L_X10_next_0
  refine pc_ite ?_ ?_
  · exact pc_some (show P9 _ from hM)
  · refine pc_ite ?_ ?_
    · refine pc_ite ?_ ?_
      · exact pc_some (show P9 _ from (P9_c hM (by decide)))
      · exact pc_some (show P9 _ from hM)
    · exact pc_none
theorem q_f_X10_next {M : Mem} (hM : P9 M) : pc (fun r => P9 r.2) (f_X10_next M) := by
  unfold f_X10_next
  refine pc_bind (P := P9) (pc_wh (q_L_X10_next_0) (show P9 _ from hM)) ?_
  intro a1 h1
  refine pc_ite ?_ ?_
  · exact pc_some (show P9 _ from h1)
  · refine pc_ite ?_ ?_
    · exact pc_some (show P9 _ from h1)
    · exact pc_none
theorem q_L_X10_number_15  : ∀ s, (fun r => P9 r.2) s → pc (sQ (fun r => P9 r.2) (fun r => P9 r.2)) (L_X10_number_15 s) := by
  rintro ⟨b0, b1⟩ hM
  replace hM : P9 b1 := hM
  unfold L_X10_number_15
  refine pc_ite ?_ ?_
  · exact pc_some (show P9 _ from hM)
  · refine pc_ite ?_ ?_
    · refine pc_ite ?_ ?_
      · exact pc_some (show P9 _ from hM)
      · refine pc_ite ?_ ?_
        · exact pc_some (show P9 _ from hM)
        · exact pc_some (show P9 _ from (P9_c hM (by decide)))
    · exact pc_none
theorem q_f_X10_number {x1 x2 : Int32} {M : Mem} (hM : P9 M) : pc (fun r => P9 r.2) (f_X10_number x1 x2 M) := by
  unfold f_X10_number
  refine pc_bind (P := (fun r => P9 r.2)) (q_f_X10_next hM) ?_
  rintro ⟨a2_0, a2_1⟩ h2
  replace h2 : P9 a2_1 := h2
  refine pc_bind (P := (fun r => P9 r.2)) (pc_wh (q_L_X10_number_15) (show P9 _ from (P9_c h2 (by decide)))) ?_
  rintro ⟨a3_0, a3_1⟩ h3
  replace h3 : P9 a3_1 := h3
  refine pc_ite ?_ ?_
  · refine pc_ite ?_ ?_
    · exact pc_some (show P9 _ from (q_f_X10_blame h3))
    · exact pc_some (show P9 _ from (q_f_X10_blame h3))
  · refine pc_ite ?_ ?_
    · refine pc_ite ?_ ?_
      · exact pc_some (show P9 _ from (q_f_X10_blame h3))
      · exact pc_some (show P9 _ from (q_f_X10_blame h3))
    · refine pc_ite ?_ ?_
      · refine pc_ite ?_ ?_
        · exact pc_some (show P9 _ from h3)
        · exact pc_some (show P9 _ from h3)
      · refine pc_ite ?_ ?_
        · exact pc_some (show P9 _ from (q_f_X10_blame h3))
        · exact pc_some (show P9 _ from (q_f_X10_blame h3))
theorem q_L_X10_put_3 {x1 : Int32} : ∀ s, (fun r => P9 r.2) s → pc (sQ (fun r => P9 r.2) P9) (L_X10_put_3 x1 s) := by
  rintro ⟨b0, b1⟩ hM
  replace hM : P9 b1 := hM
  unfold L_X10_put_3
  refine pc_ite ?_ ?_
  · exact pc_some (show P9 _ from hM)
  · refine pc_ite ?_ ?_
    · exact pc_some (show P9 _ from hM)
    · refine pc_ite ?_ ?_
      · exact pc_some (show P9 _ from (P9_c (P9_c hM (by decide)) (by decide)))
      · exact pc_none
theorem q_f_X10_put {x1 : Int32} {M : Mem} (hM : P9 M) : pc P9 (f_X10_put x1 M) := by
  unfold f_X10_put
  refine pc_bind (P := P9) (pc_wh (q_L_X10_put_3) (show P9 _ from hM)) ?_
  intro a4 h4
  exact pc_some (show P9 _ from h4)
theorem q_f_X11_feed {x1 x2 x3 x4 x5 : Int32} {M : Mem} (hM : P9 M) : pc (fun r => P9 r.2) (f_X11_feed x1 x2 x3 x4 x5 M) := by
  unfold f_X11_feed
  refine pc_ite ?_ ?_
  · exact pc_some (show P9 _ from hM)
  · refine pc_bind (P := P9) (q_f_X10_put hM) ?_
    intro a5 h5
    refine pc_bind (P := P9) (q_f_X10_put h5) ?_
    intro a6 h6
    refine pc_bind (P := P9) (q_f_X10_put h6) ?_
    intro a7 h7
    refine pc_bind (P := P9) (q_f_X10_put h7) ?_
    intro a8 h8
    refine pc_bind (P := P9) (q_f_X10_put h8) ?_
    intro a9 h9
    exact pc_some (show P9 _ from h9)
theorem q_f_X11_needFit {x1 x2 x3 : Int32} {M : Mem} (hM : P9 M) : pc (fun r => P9 r.2) (f_X11_needFit x1 x2 x3 M) := by
  unfold f_X11_needFit
  refine pc_ite ?_ ?_
  · exact pc_some (show P9 _ from (P9_c hM (by decide)))
  · refine pc_ite ?_ ?_
    · exact pc_some (show P9 _ from hM)
    · exact pc_some (show P9 _ from (P9_c hM (by decide)))
theorem q_f_X11_needMast {x1 : Int32} {M : Mem} (hM : P9 M) : pc (fun r => P9 r.2) (f_X11_needMast x1 M) := by
  unfold f_X11_needMast
  refine pc_bind (P := (fun r => P9 r.2)) (q_f_X11_needFit hM) ?_
  rintro ⟨a10_0, a10_1⟩ h10
  replace h10 : P9 a10_1 := h10
  cases a10_0
  · dsimp only
    exact pc_some (show P9 _ from h10)
  · dsimp only
    exact pc_some (show P9 _ from h10)
theorem q_f_X11_needThere {x1 x2 : Int32} {M : Mem} (hM : P9 M) : pc (fun r => P9 r.2) (f_X11_needThere x1 x2 M) := by
  unfold f_X11_needThere
  refine pc_ite ?_ ?_
  · exact pc_some (show P9 _ from (P9_c hM (by decide)))
  · refine pc_ite ?_ ?_
    · exact pc_some (show P9 _ from hM)
    · exact pc_some (show P9 _ from (P9_c hM (by decide)))
theorem q_f_X11_needWinter {x1 x2 : Int32} {M : Mem} (hM : P9 M) : pc (fun r => P9 r.2) (f_X11_needWinter x1 x2 M) := by
  unfold f_X11_needWinter
  refine pc_bind (P := (fun r => P9 r.2)) (q_f_X11_needFit hM) ?_
  rintro ⟨a11_0, a11_1⟩ h11
  replace h11 : P9 a11_1 := h11
  cases a11_0
  · dsimp only
    refine pc_bind (P := (fun r => P9 r.2)) (q_f_X11_needFit h11) ?_
    rintro ⟨a12_0, a12_1⟩ h12
    replace h12 : P9 a12_1 := h12
    cases a12_0
    · dsimp only
      exact pc_some (show P9 _ from h12)
    · dsimp only
      exact pc_some (show P9 _ from h12)
  · dsimp only
    exact pc_some (show P9 _ from h11)
theorem q_f_X11_takeText {x1 x2 : Int32} {M : Mem} (hM : P9 M) : pc (fun r => P9 r.2) (f_X11_takeText x1 x2 M) := by
  unfold f_X11_takeText
  refine pc_bind (P := (fun r => P9 r.2)) (q_f_X11_needFit hM) ?_
  rintro ⟨a13_0, a13_1⟩ h13
  replace h13 : P9 a13_1 := h13
  cases a13_0
  · dsimp only
    exact pc_some (show P9 _ from (P9_c (P9_c (P9_c (P9_c (P9_c h13 (by decide)) (by decide)) (by decide)) (by decide)) (by decide)))
  · dsimp only
    exact pc_some (show P9 _ from h13)
theorem q_f_X1_readBarge {M : Mem} (hM : P9 M) : pc P9 (f_X1_readBarge M) := by
  unfold f_X1_readBarge
  refine pc_ite ?_ ?_
  · refine pc_bind (P := (fun r => P9 r.2)) (q_f_X10_number (q_f_X10_blame hM)) ?_
    rintro ⟨a14_0, a14_1⟩ h14
    replace h14 : P9 a14_1 := h14
    refine pc_bind (P := (fun r => P9 r.2)) (q_f_X10_number h14) ?_
    rintro ⟨a15_0, a15_1⟩ h15
    replace h15 : P9 a15_1 := h15
    refine pc_ite ?_ ?_
    · refine pc_ite ?_ ?_
      · exact pc_some (show P9 _ from (P9_c (P9_c (P9_c h15 (by decide)) (by decide)) (by decide)))
      · exact pc_none
    · exact pc_some (show P9 _ from h15)
  · refine pc_bind (P := (fun r => P9 r.2)) (q_f_X10_number hM) ?_
    rintro ⟨a16_0, a16_1⟩ h16
    replace h16 : P9 a16_1 := h16
    refine pc_bind (P := (fun r => P9 r.2)) (q_f_X10_number h16) ?_
    rintro ⟨a17_0, a17_1⟩ h17
    replace h17 : P9 a17_1 := h17
    refine pc_ite ?_ ?_
    · refine pc_ite ?_ ?_
      · exact pc_some (show P9 _ from (P9_c (P9_c (P9_c h17 (by decide)) (by decide)) (by decide)))
      · exact pc_none
    · exact pc_some (show P9 _ from h17)
theorem q_f_X1_readBoard {M : Mem} (hM : P9 M) : pc P9 (f_X1_readBoard M) := by
  unfold f_X1_readBoard
  refine pc_ite ?_ ?_
  · refine pc_bind (P := (fun r => P9 r.2)) (q_f_X10_number (q_f_X10_blame hM)) ?_
    rintro ⟨a18_0, a18_1⟩ h18
    replace h18 : P9 a18_1 := h18
    refine pc_bind (P := (fun r => P9 r.2)) (q_f_X10_number h18) ?_
    rintro ⟨a19_0, a19_1⟩ h19
    replace h19 : P9 a19_1 := h19
    refine pc_bind (P := (fun r => P9 r.2)) (q_f_X10_number h19) ?_
    rintro ⟨a20_0, a20_1⟩ h20
    replace h20 : P9 a20_1 := h20
    refine pc_ite ?_ ?_
    · refine pc_ite ?_ ?_
      · exact pc_some (show P9 _ from (P9_c (P9_c (P9_c (P9_c h20 (by decide)) (by decide)) (by decide)) (by decide)))
      · exact pc_none
    · exact pc_some (show P9 _ from h20)
  · refine pc_bind (P := (fun r => P9 r.2)) (q_f_X10_number hM) ?_
    rintro ⟨a21_0, a21_1⟩ h21
    replace h21 : P9 a21_1 := h21
    refine pc_bind (P := (fun r => P9 r.2)) (q_f_X10_number h21) ?_
    rintro ⟨a22_0, a22_1⟩ h22
    replace h22 : P9 a22_1 := h22
    refine pc_bind (P := (fun r => P9 r.2)) (q_f_X10_number h22) ?_
    rintro ⟨a23_0, a23_1⟩ h23
    replace h23 : P9 a23_1 := h23
    refine pc_ite ?_ ?_
    · refine pc_ite ?_ ?_
      · exact pc_some (show P9 _ from (P9_c (P9_c (P9_c (P9_c h23 (by decide)) (by decide)) (by decide)) (by decide)))
      · exact pc_none
    · exact pc_some (show P9 _ from h23)
theorem q_f_X1_readFish {M : Mem} (hM : P9 M) : pc P9 (f_X1_readFish M) := by
  unfold f_X1_readFish
  refine pc_bind (P := (fun r => P9 r.2)) (q_f_X10_number hM) ?_
  rintro ⟨a24_0, a24_1⟩ h24
  replace h24 : P9 a24_1 := h24
  refine pc_bind (P := (fun r => P9 r.2)) (q_f_X10_number h24) ?_
  rintro ⟨a25_0, a25_1⟩ h25
  replace h25 : P9 a25_1 := h25
  refine pc_ite ?_ ?_
  · refine pc_ite ?_ ?_
    · exact pc_some (show P9 _ from (P9_c h25 (by decide)))
    · exact pc_none
  · exact pc_some (show P9 _ from h25)
theorem q_f_X1_readStreet {M : Mem} (hM : P9 M) : pc P9 (f_X1_readStreet M) := by
  unfold f_X1_readStreet
  refine pc_ite ?_ ?_
  · refine pc_bind (P := (fun r => P9 r.2)) (q_f_X10_number (q_f_X10_blame hM)) ?_
    rintro ⟨a26_0, a26_1⟩ h26
    replace h26 : P9 a26_1 := h26
    refine pc_bind (P := (fun r => P9 r.2)) (q_f_X10_number h26) ?_
    rintro ⟨a27_0, a27_1⟩ h27
    replace h27 : P9 a27_1 := h27
    refine pc_bind (P := (fun r => P9 r.2)) (q_f_X10_number h27) ?_
    rintro ⟨a28_0, a28_1⟩ h28
    replace h28 : P9 a28_1 := h28
    refine pc_ite ?_ ?_
    · refine pc_ite ?_ ?_
      · exact pc_some (show P9 _ from (P9_c (P9_c (P9_c (P9_c h28 (by decide)) (by decide)) (by decide)) (by decide)))
      · exact pc_none
    · exact pc_some (show P9 _ from h28)
  · refine pc_bind (P := (fun r => P9 r.2)) (q_f_X10_number hM) ?_
    rintro ⟨a29_0, a29_1⟩ h29
    replace h29 : P9 a29_1 := h29
    refine pc_bind (P := (fun r => P9 r.2)) (q_f_X10_number h29) ?_
    rintro ⟨a30_0, a30_1⟩ h30
    replace h30 : P9 a30_1 := h30
    refine pc_bind (P := (fun r => P9 r.2)) (q_f_X10_number h30) ?_
    rintro ⟨a31_0, a31_1⟩ h31
    replace h31 : P9 a31_1 := h31
    refine pc_ite ?_ ?_
    · refine pc_ite ?_ ?_
      · exact pc_some (show P9 _ from (P9_c (P9_c (P9_c (P9_c h31 (by decide)) (by decide)) (by decide)) (by decide)))
      · exact pc_none
    · exact pc_some (show P9 _ from h31)
theorem q_L_X2_drain_2 {x1 x2 : Int32} : ∀ s, (fun r => P9 r.2) s → pc (sQ (fun r => P9 r.2) P9) (L_X2_drain_2 x1 x2 s) := by
  rintro ⟨b0, b1⟩ hM
  replace hM : P9 b1 := hM
  unfold L_X2_drain_2
  refine pc_ite ?_ ?_
  · exact pc_some (show P9 _ from hM)
  · refine pc_ite ?_ ?_
    · refine pc_ite ?_ ?_
      · exact pc_some (show P9 _ from hM)
      · refine pc_ite ?_ ?_
        · exact pc_some (show P9 _ from hM)
        · exact pc_some (show P9 _ from (P9_c hM (by decide)))
    · exact pc_none
theorem q_f_X2_drain {x1 x2 : Int32} {M : Mem} (hM : P9 M) : pc P9 (f_X2_drain x1 x2 M) := by
  unfold f_X2_drain
  refine pc_bind (P := P9) (pc_wh (q_L_X2_drain_2) (show P9 _ from hM)) ?_
  intro a32 h32
  exact pc_some (show P9 _ from h32)
theorem q_f_X3_add {qc : Nat} {qd : Nat} {x1 : Int32} {M : Mem} (h_qc : qc ≠ 54) (h_qd : qd ≠ 54) (hM : P9 M) : pc P9 (f_X3_add qc qd x1 M) := by
  unfold f_X3_add
  refine pc_ite ?_ ?_
  · exact pc_some (show P9 _ from hM)
  · refine pc_ite ?_ ?_
    · exact pc_some (show P9 _ from (P9_c (P9_c hM h_qd) (by decide)))
    · exact pc_none
theorem q_f_X3_findFacts {x2 x3 x4 : Int32} {M : Mem} (hM : P9 M) : pc P9 (f_X3_findFacts x2 x3 x4 M) := by
  unfold f_X3_findFacts
  refine pc_ite ?_ ?_
  · exact pc_some (show P9 _ from (P9_c (P9_c (P9_c (P9_c (P9_c (P9_c (P9_c (P9_c hM (by decide)) (by decide)) (by decide)) (by decide)) (by decide)) (by decide)) (by decide)) (by decide)))
  · exact pc_none
theorem q_L_X3_value_15 {qc : Nat} {qd : Nat} (h_qc : qc ≠ 54) (h_qd : qd ≠ 54) : ∀ s, (fun r => P9 r.2.2) s → pc (sQ (fun r => P9 r.2.2) P9) (L_X3_value_15 qc qd s) := by
  rintro ⟨b0, b1, b2⟩ hM
  replace hM : P9 b2 := hM
  unfold L_X3_value_15
  refine pc_ite ?_ ?_
  · exact pc_some (show P9 _ from hM)
  · refine pc_ite ?_ ?_
    · refine pc_ite ?_ ?_
      · refine pc_ite ?_ ?_
        · exact pc_some (show P9 _ from hM)
        · refine pc_ite ?_ ?_
          · exact pc_some (show P9 _ from hM)
          · refine pc_ite ?_ ?_
            · refine pc_ite ?_ ?_
              · exact pc_some (show P9 _ from (P9_c hM (by decide)))
              · exact pc_none
            · refine pc_ite ?_ ?_
              · refine pc_ite ?_ ?_
                · exact pc_some (show P9 _ from (P9_c hM (by decide)))
                · exact pc_none
              · exact pc_none
      · refine pc_ite ?_ ?_
        · refine pc_ite ?_ ?_
          · exact pc_some (show P9 _ from hM)
          · refine pc_ite ?_ ?_
            · exact pc_some (show P9 _ from hM)
            · refine pc_ite ?_ ?_
              · refine pc_ite ?_ ?_
                · exact pc_some (show P9 _ from (P9_c hM (by decide)))
                · exact pc_none
              · refine pc_ite ?_ ?_
                · refine pc_ite ?_ ?_
                  · exact pc_some (show P9 _ from (P9_c hM (by decide)))
                  · exact pc_none
                · exact pc_none
        · refine pc_ite ?_ ?_
          · exact pc_some (show P9 _ from hM)
          · refine pc_ite ?_ ?_
            · refine pc_ite ?_ ?_
              · refine pc_bind (P := fun _ => True) pc_T ?_
                intro _ _
                exact pc_some (show P9 _ from (P9_c hM (by decide)))
              · exact pc_none
            · exact pc_none
    · exact pc_none
theorem q_f_X3_value {qc : Nat} {qd : Nat} {x2 x3 x4 : Int32} {M : Mem} (h_qc : qc ≠ 54) (h_qd : qd ≠ 54) (hM : P9 M) : pc (fun r => P9 r.2) (f_X3_value qc qd x2 x3 x4 M) := by
  unfold f_X3_value
  refine pc_bind (P := P9) (q_f_X3_findFacts hM) ?_
  intro a33 h33
  refine pc_bind (P := P9) (pc_wh (q_L_X3_value_15 h_qc h_qd) (show P9 _ from h33)) ?_
  intro a34 h34
  exact pc_some (show P9 _ from h34)
theorem q_f_X4_isDue {qc : Nat} {qd : Nat} {x1 x2 x3 : Int32} {M : Mem} (h_qc : qc ≠ 54) (h_qd : qd ≠ 54) (hM : P9 M) : pc (fun r => P9 r.2) (f_X4_isDue qc qd x1 x2 x3 M) := by
  unfold f_X4_isDue
  refine pc_bind (P := (fun r => P9 r.2)) (q_f_X3_value h_qc h_qd hM) ?_
  rintro ⟨a35_0, a35_1⟩ h35
  replace h35 : P9 a35_1 := h35
  refine pc_ite ?_ ?_
  · exact pc_some (show P9 _ from h35)
  · exact pc_some (show P9 _ from h35)
theorem q_L_X6_drawFrozen_4 {x1 : Int32} : ∀ s, (fun r => P9 r.2.2) s → pc (sQ (fun r => P9 r.2.2) (fun r => P9 r.2)) (L_X6_drawFrozen_4 x1 s) := by
  rintro ⟨b0, b1, b2⟩ hM
  replace hM : P9 b2 := hM
  unfold L_X6_drawFrozen_4
  refine pc_ite ?_ ?_
  · exact pc_some (show P9 _ from hM)
  · refine pc_ite ?_ ?_
    · exact pc_some (show P9 _ from (P9_c hM (by decide)))
    · exact pc_some (show P9 _ from (P9_c hM (by decide)))
theorem q_f_X6_drawFrozen {x1 : Int32} {M : Mem} (hM : P9 M) : pc (fun r => P9 r.2) (f_X6_drawFrozen x1 M) := by
  unfold f_X6_drawFrozen
  refine pc_bind (P := (fun r => P9 r.2)) (pc_wh (q_L_X6_drawFrozen_4) (show P9 _ from hM)) ?_
  rintro ⟨a36_0, a36_1⟩ h36
  replace h36 : P9 a36_1 := h36
  exact pc_some (show P9 _ from h36)
theorem q_f_X8_come {q1 : Nat} {x1 : Int32} {M : Mem} (h_q1 : q1 ≠ 54) (hM : P9 M) : pc P9 (f_X8_come q1 x1 M) := by
  unfold f_X8_come
  refine pc_ite ?_ ?_
  · exact pc_some (show P9 _ from (P9_c hM h_q1))
  · exact pc_none
theorem q_L_X8_fine_2 {q1 : Nat} {x1 : Int32} (h_q1 : q1 ≠ 54) : ∀ s, (fun r => P9 r.2) s → pc (sQ (fun r => P9 r.2) P9) (L_X8_fine_2 q1 x1 s) := by
  rintro ⟨b0, b1⟩ hM
  replace hM : P9 b1 := hM
  unfold L_X8_fine_2
  refine pc_ite ?_ ?_
  · exact pc_some (show P9 _ from hM)
  · refine pc_ite ?_ ?_
    · exact pc_some (show P9 _ from (P9_c hM h_q1))
    · exact pc_none
theorem q_f_X8_fine {q1 : Nat} {x1 : Int32} {M : Mem} (h_q1 : q1 ≠ 54) (hM : P9 M) : pc P9 (f_X8_fine q1 x1 M) := by
  unfold f_X8_fine
  refine pc_bind (P := P9) (pc_wh (q_L_X8_fine_2 h_q1) (show P9 _ from hM)) ?_
  intro a37 h37
  exact pc_some (show P9 _ from h37)
theorem q_f_X8_knock {q1 : Nat} {x1 : Int32} {M : Mem} (h_q1 : q1 ≠ 54) (hM : P9 M) : pc P9 (f_X8_knock q1 x1 M) := by
  unfold f_X8_knock
  refine pc_ite ?_ ?_
  · exact pc_some (show P9 _ from (P9_c hM h_q1))
  · exact pc_none
theorem q_f_X8_leave {q1 : Nat} {x1 : Int32} {M : Mem} (h_q1 : q1 ≠ 54) (hM : P9 M) : pc P9 (f_X8_leave q1 x1 M) := by
  unfold f_X8_leave
  refine pc_ite ?_ ?_
  · refine pc_ite ?_ ?_
    · exact pc_some (show P9 _ from (P9_c (P9_c hM h_q1) h_q1))
    · exact pc_none
  · exact pc_none
theorem q_f_X8_pass {q1 : Nat} {x1 x2 : Int32} {M : Mem} (h_q1 : q1 ≠ 54) (hM : P9 M) : pc P9 (f_X8_pass q1 x1 x2 M) := by
  unfold f_X8_pass
  refine pc_ite ?_ ?_
  · exact pc_some (show P9 _ from (P9_c hM h_q1))
  · exact pc_none
theorem q_f_X8_writeTo_t {x2 : Int32} {M : Mem} (hM : P9 M) : pc P9 (f_X8_writeTo_t x2 M) := by
  unfold f_X8_writeTo_t
  refine pc_ite ?_ ?_
  · refine pc_ite ?_ ?_
    · exact pc_some (show P9 _ from (P9_cp hM (by decide)))
    · exact pc_none
  · exact pc_none
theorem q_f_X8_writeTo_p {x2 : Int32} {M : Mem} (hM : P9 M) : pc P9 (f_X8_writeTo_p x2 M) := by
  unfold f_X8_writeTo_p
  refine pc_ite ?_ ?_
  · refine pc_ite ?_ ?_
    · exact pc_some (show P9 _ from (P9_cp hM (by decide)))
    · exact pc_none
  · exact pc_none
theorem q_f_X8_writeTo_i {r1 : Nat} {x2 : Int32} {M : Mem} (hM : P9 M) : pc P9 (f_X8_writeTo_i r1 x2 M) := by
  unfold f_X8_writeTo_i
  refine pc_ite ?_ ?_
  · refine pc_ite ?_ ?_
    · exact pc_some (show P9 _ from (P9_cp hM (by decide)))
    · exact pc_none
  · exact pc_none
theorem q_f_X8_readFrom_p {x2 : Int32} {M : Mem} (hM : P9 M) : pc P9 (f_X8_readFrom_p x2 M) := by
  unfold f_X8_readFrom_p
  refine pc_ite ?_ ?_
  · refine pc_ite ?_ ?_
    · exact pc_some (show P9 _ from (P9_cp hM (by decide)))
    · exact pc_none
  · exact pc_none
theorem q_f_X8_readFrom_i {r1 : Nat} {x2 : Int32} {M : Mem} (hM : P9 M) : pc P9 (f_X8_readFrom_i r1 x2 M) := by
  unfold f_X8_readFrom_i
  refine pc_ite ?_ ?_
  · refine pc_ite ?_ ?_
    · exact pc_some (show P9 _ from (P9_cp hM (by decide)))
    · exact pc_none
  · exact pc_none
theorem q_L_X10_word_13  : ∀ s, P9 s → pc (sQ P9 P9) (L_X10_word_13 s) := by
  intro M0 hM
  unfold L_X10_word_13
  refine pc_ite ?_ ?_
  · exact pc_some (show P9 _ from hM)
  · refine pc_ite ?_ ?_
    · refine pc_ite ?_ ?_
      · exact pc_some (show P9 _ from hM)
      · refine pc_ite ?_ ?_
        · exact pc_some (show P9 _ from hM)
        · exact pc_some (show P9 _ from (P9_c hM (by decide)))
    · exact pc_none
theorem q_f_X10_word {k1 : Nat} {M : Mem} (hM : P9 M) : pc (fun r => P9 r.2) (f_X10_word k1 M) := by
  unfold f_X10_word
  refine pc_bind (P := (fun r => P9 r.2)) (q_f_X10_next hM) ?_
  rintro ⟨a38_0, a38_1⟩ h38
  replace h38 : P9 a38_1 := h38
  refine pc_bind (P := P9) (pc_wh (q_L_X10_word_13) (show P9 _ from (P9_c h38 (by decide)))) ?_
  intro a39 h39
  refine pc_bind (P := fun _ => True) pc_T ?_
  intro _ _
  refine pc_ite ?_ ?_
  · refine pc_ite ?_ ?_
    · exact pc_some (show P9 _ from (q_f_X10_blame h39))
    · exact pc_some (show P9 _ from (q_f_X10_blame h39))
  · refine pc_ite ?_ ?_
    · exact pc_some (show P9 _ from h39)
    · exact pc_some (show P9 _ from h39)
theorem q_f_X10_takeOneOf {k1 : Nat} {M : Mem} (hM : P9 M) : pc (fun r => P9 r.2) (f_X10_takeOneOf k1 M) := by
  unfold f_X10_takeOneOf
  refine pc_bind (P := (fun r => P9 r.2)) (q_f_X10_next hM) ?_
  rintro ⟨a40_0, a40_1⟩ h40
  replace h40 : P9 a40_1 := h40
  refine pc_bind (P := fun _ => True) pc_T ?_
  intro ee he
  rcases ee with ee | ee
  · skip
    exact pc_some (show P9 _ from (P9_c (P9_c h40 (by decide)) (by decide)))
  · skip
    exact pc_some (show P9 _ from h40)
theorem q_f_RX2_choose {r_X2_choose : (Int32 → Int32 → Mem → Option (Int32 × Mem))} {x1 x2 : Int32} {M : Mem} (hr : ∀ {a b : Int32} (M : Mem), P9 M → pc (fun r => P9 r.2) (r_X2_choose a b M)) (hM : P9 M) : pc (fun r => P9 r.2) (f_RX2_choose r_X2_choose x1 x2 M) := by
  unfold f_RX2_choose
  refine pc_bind (P := fun _ => True) pc_T ?_
  intro _ _
  refine pc_ite ?_ ?_
  · exact pc_some (show P9 _ from hM)
  · refine pc_ite ?_ ?_
    · exact pc_some (show P9 _ from hM)
    · refine pc_ite ?_ ?_
      · refine pc_bind (P := (fun r => P9 r.2)) (hr _ hM) ?_
        rintro ⟨a41_0, a41_1⟩ h41
        replace h41 : P9 a41_1 := h41
        refine pc_ite ?_ ?_
        · refine pc_ite ?_ ?_
          · refine pc_bind (P := P9) (q_f_X2_drain h41) ?_
            intro a42 h42
            refine pc_bind (P := (fun r => P9 r.2)) (hr _ h42) ?_
            rintro ⟨a43_0, a43_1⟩ h43
            replace h43 : P9 a43_1 := h43
            refine pc_ite ?_ ?_
            · refine pc_bind (P := P9) (q_f_X2_drain h43) ?_
              intro a44 h44
              exact pc_some (show P9 _ from h44)
            · exact pc_some (show P9 _ from (P9_c h43 (by decide)))
          · exact pc_none
        · exact pc_some (show P9 _ from h41)
      · exact pc_some (show P9 _ from hM)
theorem q_rec_choose : ∀ n, ∀ {a b : Int32} (M : Mem), P9 M → pc (fun r => P9 r.2) (rec_choose n a b M)
  | 0, _, _, _, _ => pc_none
  | n + 1, a, b, M, h => show pc (fun r => P9 r.2) (f_RX2_choose (rec_choose n) a b M) from q_f_RX2_choose (fun M h => q_rec_choose n M h) h
theorem q_f_X2_choose {x1 x2 : Int32} {M : Mem} (hM : P9 M) : pc (fun r => P9 r.2) (f_X2_choose x1 x2 M) := q_rec_choose 30 M hM
theorem q_L_RX0_place_39 {r_X0_place : (Int32 → Int32 → Mem → Option (Mem))} {x1 x2 : Int32} (hr : ∀ {a b : Int32} (M : Mem), P9 M → pc P9 (r_X0_place a b M)) : ∀ s, (fun r => P9 r.2) s → pc (sQ (fun r => P9 r.2) P9) (L_RX0_place_39 r_X0_place x1 x2 s) := by
  rintro ⟨b0, b1⟩ hM
  replace hM : P9 b1 := hM
  unfold L_RX0_place_39
  refine pc_ite ?_ ?_
  · exact pc_some (show P9 _ from hM)
  · refine pc_ite ?_ ?_
    · refine pc_bind (P := P9) (hr _ (P9_c hM (by decide))) ?_
      intro a45 h45
      exact pc_some (show P9 _ from h45)
    · exact pc_none
theorem q_f_RX0_place {r_X0_place : (Int32 → Int32 → Mem → Option (Mem))} {x1 x2 : Int32} {M : Mem} (hr : ∀ {a b : Int32} (M : Mem), P9 M → pc P9 (r_X0_place a b M)) (hM : P9 M) : pc P9 (f_RX0_place r_X0_place x1 x2 M) := by
  unfold f_RX0_place
  refine pc_ite ?_ ?_
  · refine pc_ite ?_ ?_
    · refine pc_bind (P := fun _ => True) pc_T ?_
      intro _ _
      refine pc_ite ?_ ?_
      · exact pc_some (show P9 _ from hM)
      · exact pc_some (show P9 _ from (P9_c (q_f_X0_keepFirst hM) (by decide)))
    · exact pc_some (show P9 _ from hM)
  · refine pc_bind (P := P9) (pc_wh (q_L_RX0_place_39 hr) (show P9 _ from hM)) ?_
    intro a46 h46
    exact pc_some (show P9 _ from h46)
theorem q_rec_place : ∀ n, ∀ {a b : Int32} (M : Mem), P9 M → pc P9 (rec_place n a b M)
  | 0, _, _, _, _ => pc_none
  | n + 1, a, b, M, h => show pc P9 (f_RX0_place (rec_place n) a b M) from q_f_RX0_place (fun M h => q_rec_place n M h) h
theorem q_f_X0_place {x1 x2 : Int32} {M : Mem} (hM : P9 M) : pc P9 (f_X0_place x1 x2 M) := q_rec_place 30 M hM
theorem q_f_X0_settle {x1 : Int32} {M : Mem} (hM : P9 M) : pc P9 (f_X0_settle x1 M) := by
  unfold f_X0_settle
  refine pc_bind (P := P9) (q_f_X0_place (P9_c hM (by decide))) ?_
  intro a47 h47
  exact pc_some (show P9 _ from h47)
theorem q_f_X10_expect {x1 : Int32} {M : Mem} (hM : P9 M) : pc P9 (f_X10_expect x1 M) := by
  unfold f_X10_expect
  refine pc_bind (P := (fun r => P9 r.2)) (q_f_X10_next hM) ?_
  rintro ⟨a48_0, a48_1⟩ h48
  replace h48 : P9 a48_1 := h48
  refine pc_ite ?_ ?_
  · exact pc_some (show P9 _ from (P9_c h48 (by decide)))
  · exact pc_some (show P9 _ from (q_f_X10_blame h48))
theorem q_f_X10_isAtDigit {M : Mem} (hM : P9 M) : pc (fun r => P9 r.2) (f_X10_isAtDigit M) := by
  unfold f_X10_isAtDigit
  refine pc_bind (P := (fun r => P9 r.2)) (q_f_X10_next hM) ?_
  rintro ⟨a49_0, a49_1⟩ h49
  replace h49 : P9 a49_1 := h49
  refine pc_ite ?_ ?_
  · exact pc_some (show P9 _ from h49)
  · refine pc_ite ?_ ?_
    · exact pc_some (show P9 _ from h49)
    · exact pc_some (show P9 _ from h49)
theorem q_f_X10_isAtEnd {M : Mem} (hM : P9 M) : pc (fun r => P9 r.2) (f_X10_isAtEnd M) := by
  unfold f_X10_isAtEnd
  refine pc_bind (P := (fun r => P9 r.2)) (q_f_X10_next hM) ?_
  rintro ⟨a50_0, a50_1⟩ h50
  replace h50 : P9 a50_1 := h50
  refine pc_ite ?_ ?_
  · exact pc_some (show P9 _ from h50)
  · exact pc_some (show P9 _ from h50)
theorem q_f_X11_anglers {x1 x2 : Int32} {M : Mem} (hM : P9 M) : pc (fun r => P9 r.2) (f_X11_anglers x1 x2 M) := by
  unfold f_X11_anglers
  refine pc_bind (P := (fun r => P9 r.2)) (q_f_X11_needFit hM) ?_
  rintro ⟨a51_0, a51_1⟩ h51
  replace h51 : P9 a51_1 := h51
  cases a51_0
  · dsimp only
    refine pc_bind (P := (fun r => P9 r.2)) (q_f_X11_needFit h51) ?_
    rintro ⟨a52_0, a52_1⟩ h52
    replace h52 : P9 a52_1 := h52
    cases a52_0
    · dsimp only
      refine pc_bind (P := P9) (q_f_X0_settle h52) ?_
      intro a53 h53
      refine pc_ite ?_ ?_
      · exact pc_some (show P9 _ from h53)
      · refine pc_bind (P := fun _ => True) pc_T ?_
        intro _ _
        exact pc_some (show P9 _ from h53)
    · dsimp only
      exact pc_some (show P9 _ from h52)
  · dsimp only
    exact pc_some (show P9 _ from h51)
theorem q_f_X11_barge {x1 x2 : Int32} {M : Mem} (hM : P9 M) : pc (fun r => P9 r.2) (f_X11_barge x1 x2 M) := by
  unfold f_X11_barge
  refine pc_bind (P := (fun r => P9 r.2)) (q_f_X11_needThere hM) ?_
  rintro ⟨a54_0, a54_1⟩ h54
  replace h54 : P9 a54_1 := h54
  cases a54_0
  · dsimp only
    refine pc_bind (P := (fun r => P9 r.2)) (q_f_X11_needFit h54) ?_
    rintro ⟨a55_0, a55_1⟩ h55
    replace h55 : P9 a55_1 := h55
    cases a55_0
    · dsimp only
      refine pc_ite ?_ ?_
      · refine pc_ite ?_ ?_
        · exact pc_some (show P9 _ from h55)
        · exact pc_none
      · refine pc_ite ?_ ?_
        · refine pc_ite ?_ ?_
          · exact pc_some (show P9 _ from h55)
          · exact pc_none
        · refine pc_ite ?_ ?_
          · refine pc_bind (P := fun _ => True) pc_T ?_
            intro _ _
            exact pc_some (show P9 _ from h55)
          · refine pc_ite ?_ ?_
            · refine pc_bind (P := fun _ => True) pc_T ?_
              intro _ _
              exact pc_some (show P9 _ from h55)
            · refine pc_bind (P := fun _ => True) pc_T ?_
              intro _ _
              refine pc_ite ?_ ?_
              · refine pc_bind (P := fun _ => True) pc_T ?_
                intro _ _
                exact pc_some (show P9 _ from h55)
              · exact pc_some (show P9 _ from h55)
    · dsimp only
      exact pc_some (show P9 _ from h55)
  · dsimp only
    exact pc_some (show P9 _ from h54)
theorem q_f_X11_narrow {x1 x2 : Int32} {M : Mem} (hM : P9 M) : pc (fun r => P9 r.2) (f_X11_narrow x1 x2 M) := by
  unfold f_X11_narrow
  refine pc_bind (P := (fun r => P9 r.2)) (q_f_X11_needMast hM) ?_
  rintro ⟨a56_0, a56_1⟩ h56
  replace h56 : P9 a56_1 := h56
  cases a56_0
  · dsimp only
    refine pc_bind (P := (fun r => P9 r.2)) (q_f_X11_needFit h56) ?_
    rintro ⟨a57_0, a57_1⟩ h57
    replace h57 : P9 a57_1 := h57
    cases a57_0
    · dsimp only
      refine pc_bind (P := fun _ => True) pc_T ?_
      rintro ⟨_, _⟩ -
      refine pc_ite ?_ ?_
      · refine pc_bind (P := fun _ => True) pc_T ?_
        intro _ _
        exact pc_some (show P9 _ from h57)
      · refine pc_ite ?_ ?_
        · exact pc_some (show P9 _ from h57)
        · exact pc_some (show P9 _ from h57)
    · dsimp only
      exact pc_some (show P9 _ from h57)
  · dsimp only
    exact pc_some (show P9 _ from h56)
theorem q_f_X11_needBits {x1 x2 : Int32} {M : Mem} (hM : P9 M) : pc (fun r => P9 r.2) (f_X11_needBits x1 x2 M) := by
  unfold f_X11_needBits
  refine pc_bind (P := (fun r => P9 r.2)) (q_f_X11_needFit hM) ?_
  rintro ⟨a58_0, a58_1⟩ h58
  replace h58 : P9 a58_1 := h58
  cases a58_0
  · dsimp only
    exact pc_some (show P9 _ from h58)
  · dsimp only
    exact pc_some (show P9 _ from h58)
theorem q_f_X11_needBoard {x1 : Int32} {M : Mem} (hM : P9 M) : pc (fun r => P9 r.2) (f_X11_needBoard x1 M) := by
  unfold f_X11_needBoard
  refine pc_bind (P := (fun r => P9 r.2)) (q_f_X11_needThere hM) ?_
  rintro ⟨a59_0, a59_1⟩ h59
  replace h59 : P9 a59_1 := h59
  cases a59_0
  · dsimp only
    exact pc_some (show P9 _ from h59)
  · dsimp only
    exact pc_some (show P9 _ from h59)
theorem q_f_X11_stand {x1 x2 : Int32} {M : Mem} (hM : P9 M) : pc (fun r => P9 r.2) (f_X11_stand x1 x2 M) := by
  unfold f_X11_stand
  refine pc_bind (P := (fun r => P9 r.2)) (q_f_X11_needBoard hM) ?_
  rintro ⟨a60_0, a60_1⟩ h60
  replace h60 : P9 a60_1 := h60
  cases a60_0
  · dsimp only
    refine pc_bind (P := (fun r => P9 r.2)) (q_f_X11_needFit h60) ?_
    rintro ⟨a61_0, a61_1⟩ h61
    replace h61 : P9 a61_1 := h61
    cases a61_0
    · dsimp only
      refine pc_bind (P := P9) (q_f_X0_settle h61) ?_
      intro a62 h62
      refine pc_ite ?_ ?_
      · exact pc_some (show P9 _ from h62)
      · refine pc_ite ?_ ?_
        · exact pc_some (show P9 _ from h62)
        · exact pc_none
    · dsimp only
      exact pc_some (show P9 _ from h61)
  · dsimp only
    exact pc_some (show P9 _ from h60)
theorem q_f_X11_worst {x1 : Int32} {M : Mem} (hM : P9 M) : pc (fun r => P9 r.2) (f_X11_worst x1 M) := by
  unfold f_X11_worst
  refine pc_bind (P := (fun r => P9 r.2)) (q_f_X11_needFit hM) ?_
  rintro ⟨a63_0, a63_1⟩ h63
  replace h63 : P9 a63_1 := h63
  cases a63_0
  · dsimp only
    refine pc_bind (P := fun _ => True) pc_T ?_
    intro _ _
    exact pc_some (show P9 _ from h63)
  · dsimp only
    exact pc_some (show P9 _ from h63)
theorem q_f_X1_readClause {x2 : Int32} {M : Mem} (hM : P9 M) : pc P9 (f_X1_readClause x2 M) := by
  unfold f_X1_readClause
  refine pc_ite ?_ ?_
  · refine pc_bind (P := P9) (q_f_X1_readBoard hM) ?_
    intro a64 h64
    exact pc_some (show P9 _ from h64)
  · refine pc_ite ?_ ?_
    · refine pc_bind (P := P9) (q_f_X1_readBarge hM) ?_
      intro a65 h65
      exact pc_some (show P9 _ from h65)
    · refine pc_ite ?_ ?_
      · refine pc_bind (P := (fun r => P9 r.2)) (q_f_X10_number hM) ?_
        rintro ⟨a66_0, a66_1⟩ h66
        replace h66 : P9 a66_1 := h66
        exact pc_some (show P9 _ from (P9_c h66 (by decide)))
      · refine pc_ite ?_ ?_
        · refine pc_bind (P := P9) (q_f_X1_readStreet hM) ?_
          intro a67 h67
          exact pc_some (show P9 _ from h67)
        · refine pc_ite ?_ ?_
          · refine pc_bind (P := P9) (q_f_X1_readFish hM) ?_
            intro a68 h68
            exact pc_some (show P9 _ from h68)
          · refine pc_ite ?_ ?_
            · refine pc_bind (P := (fun r => P9 r.2)) (q_f_X10_number hM) ?_
              rintro ⟨a69_0, a69_1⟩ h69
              replace h69 : P9 a69_1 := h69
              exact pc_some (show P9 _ from (P9_c h69 (by decide)))
            · exact pc_some (show P9 _ from hM)
theorem q_L_X2_fewest_2 {x1 : Int32} : ∀ s, (fun r => P9 r.2) s → pc (sQ (fun r => P9 r.2) P9) (L_X2_fewest_2 x1 s) := by
  rintro ⟨b0, b1⟩ hM
  replace hM : P9 b1 := hM
  unfold L_X2_fewest_2
  refine pc_ite ?_ ?_
  · exact pc_some (show P9 _ from hM)
  · refine pc_ite ?_ ?_
    · refine pc_ite ?_ ?_
      · exact pc_some (show P9 _ from (P9_c hM (by decide)))
      · exact pc_none
    · refine pc_ite ?_ ?_
      · exact pc_some (show P9 _ from (P9_c hM (by decide)))
      · exact pc_none
theorem q_L_X2_fewest_48  : ∀ s, (fun r => P9 r.2) s → pc (sQ (fun r => P9 r.2) (sQ P9 P9)) (L_X2_fewest_48 s) := by
  rintro ⟨b0, b1⟩ hM
  replace hM : P9 b1 := hM
  unfold L_X2_fewest_48
  refine pc_ite ?_ ?_
  · exact pc_some (show P9 _ from hM)
  · refine pc_bind (P := (fun r => P9 r.2)) (q_f_X2_choose (P9_c hM (by decide))) ?_
    rintro ⟨a70_0, a70_1⟩ h70
    replace h70 : P9 a70_1 := h70
    refine pc_ite ?_ ?_
    · exact pc_some (show P9 _ from h70)
    · exact pc_some (show P9 _ from h70)
theorem q_f_X2_fewest {x1 : Int32} {M : Mem} (hM : P9 M) : pc (fun r => P9 r.2) (f_X2_fewest x1 M) := by
  unfold f_X2_fewest
  refine pc_bind (P := P9) (pc_wh (q_L_X2_fewest_2) (show P9 _ from hM)) ?_
  intro a71 h71
  refine pc_bind (P := (sQ P9 P9)) (pc_wh (q_L_X2_fewest_48) (show P9 _ from h71)) ?_
  intro ee he
  rcases ee with ee | ee
  · have h72 : P9 ee := he
    dsimp only
    exact pc_some (show P9 _ from h72)
  · have h73 : P9 ee := he
    dsimp only
    exact pc_some (show P9 _ from h73)
theorem q_L_X4_dueBits_5 {q1 : Nat} {qc : Nat} {qd : Nat} {x2 : Int32} (h_q1 : q1 ≠ 54) (h_qc : qc ≠ 54) (h_qd : qd ≠ 54) : ∀ s, (fun r => P9 r.2.2) s → pc (sQ (fun r => P9 r.2.2) (fun r => P9 r.2)) (L_X4_dueBits_5 q1 qc qd x2 s) := by
  rintro ⟨b0, b1, b2⟩ hM
  replace hM : P9 b2 := hM
  unfold L_X4_dueBits_5
  refine pc_ite ?_ ?_
  · exact pc_some (show P9 _ from hM)
  · refine pc_bind (P := fun _ => True) pc_T ?_
    intro _ _
    refine pc_bind (P := (fun r => P9 r.2)) (q_f_X3_value h_qc h_qd hM) ?_
    rintro ⟨a74_0, a74_1⟩ h74
    replace h74 : P9 a74_1 := h74
    refine pc_ite ?_ ?_
    · exact pc_some (show P9 _ from h74)
    · exact pc_some (show P9 _ from h74)
theorem q_f_X4_dueBits {q1 : Nat} {qc : Nat} {qd : Nat} {x2 : Int32} {M : Mem} (h_q1 : q1 ≠ 54) (h_qc : qc ≠ 54) (h_qd : qd ≠ 54) (hM : P9 M) : pc (fun r => P9 r.2) (f_X4_dueBits q1 qc qd x2 M) := by
  unfold f_X4_dueBits
  refine pc_bind (P := (fun r => P9 r.2)) (pc_wh (q_L_X4_dueBits_5 h_q1 h_qc h_qd) (show P9 _ from hM)) ?_
  rintro ⟨a75_0, a75_1⟩ h75
  replace h75 : P9 a75_1 := h75
  exact pc_some (show P9 _ from h75)
theorem q_L_X4_passHour_27 {q1 : Nat} {x4 : Int32} (h_q1 : q1 ≠ 54) : ∀ s, (fun r => P9 r.2) s → pc (sQ (fun r => P9 r.2) P9) (L_X4_passHour_27 q1 x4 s) := by
  rintro ⟨b0, b1⟩ hM
  replace hM : P9 b1 := hM
  unfold L_X4_passHour_27
  refine pc_ite ?_ ?_
  · exact pc_some (show P9 _ from hM)
  · refine pc_bind (P := fun _ => True) pc_T ?_
    intro _ _
    refine pc_ite ?_ ?_
    · refine pc_ite ?_ ?_
      · refine pc_ite ?_ ?_
        · refine pc_bind (P := P9) (q_f_X8_come h_q1 hM) ?_
          intro a76 h76
          refine pc_bind (P := fun _ => True) pc_T ?_
          intro _ _
          refine pc_ite ?_ ?_
          · refine pc_bind (P := fun _ => True) pc_T ?_
            intro _ _
            refine pc_bind (P := fun _ => True) pc_T ?_
            intro _ _
            refine pc_bind (P := P9) (q_f_X8_pass h_q1 h76) ?_
            intro a77 h77
            refine pc_ite ?_ ?_
            · refine pc_ite ?_ ?_
              · refine pc_bind (P := P9) (q_f_X8_leave h_q1 h77) ?_
                intro a78 h78
                exact pc_some (show P9 _ from h78)
              · exact pc_some (show P9 _ from h77)
            · refine pc_bind (P := P9) (q_f_X8_knock h_q1 h77) ?_
              intro a79 h79
              refine pc_ite ?_ ?_
              · refine pc_bind (P := P9) (q_f_X8_leave h_q1 h79) ?_
                intro a80 h80
                exact pc_some (show P9 _ from h80)
              · exact pc_some (show P9 _ from h79)
          · exact pc_some (show P9 _ from h76)
        · refine pc_bind (P := fun _ => True) pc_T ?_
          intro _ _
          refine pc_ite ?_ ?_
          · refine pc_bind (P := fun _ => True) pc_T ?_
            intro _ _
            refine pc_bind (P := fun _ => True) pc_T ?_
            intro _ _
            refine pc_bind (P := P9) (q_f_X8_pass h_q1 hM) ?_
            intro a81 h81
            refine pc_ite ?_ ?_
            · refine pc_ite ?_ ?_
              · refine pc_bind (P := P9) (q_f_X8_leave h_q1 h81) ?_
                intro a82 h82
                exact pc_some (show P9 _ from h82)
              · exact pc_some (show P9 _ from h81)
            · refine pc_bind (P := P9) (q_f_X8_knock h_q1 h81) ?_
              intro a83 h83
              refine pc_ite ?_ ?_
              · refine pc_bind (P := P9) (q_f_X8_leave h_q1 h83) ?_
                intro a84 h84
                exact pc_some (show P9 _ from h84)
              · exact pc_some (show P9 _ from h83)
          · exact pc_some (show P9 _ from hM)
      · exact pc_none
    · refine pc_bind (P := fun _ => True) pc_T ?_
      intro _ _
      refine pc_ite ?_ ?_
      · refine pc_bind (P := fun _ => True) pc_T ?_
        intro _ _
        refine pc_ite ?_ ?_
        · refine pc_bind (P := fun _ => True) pc_T ?_
          intro _ _
          refine pc_bind (P := P9) (q_f_X8_pass h_q1 hM) ?_
          intro a85 h85
          refine pc_ite ?_ ?_
          · refine pc_ite ?_ ?_
            · refine pc_bind (P := P9) (q_f_X8_leave h_q1 h85) ?_
              intro a86 h86
              exact pc_some (show P9 _ from h86)
            · exact pc_some (show P9 _ from h85)
          · refine pc_bind (P := P9) (q_f_X8_knock h_q1 h85) ?_
            intro a87 h87
            refine pc_ite ?_ ?_
            · refine pc_bind (P := P9) (q_f_X8_leave h_q1 h87) ?_
              intro a88 h88
              exact pc_some (show P9 _ from h88)
            · exact pc_some (show P9 _ from h87)
        · exact pc_none
      · exact pc_some (show P9 _ from hM)
theorem q_f_X4_passHour {q1 : Nat} {x2 x3 : Int32} {M : Mem} (h_q1 : q1 ≠ 54) (hM : P9 M) : pc P9 (f_X4_passHour q1 x2 x3 M) := by
  unfold f_X4_passHour
  refine pc_bind (P := P9) (q_f_X8_fine h_q1 hM) ?_
  intro a89 h89
  refine pc_bind (P := P9) (pc_wh (q_L_X4_passHour_27 h_q1) (show P9 _ from h89)) ?_
  intro a90 h90
  exact pc_some (show P9 _ from (P9_c h90 h_q1))
theorem q_L_X5_mostLeftBy_12 {x1 : Int32} : ∀ s, (fun r => P9 r.2.2) s → pc (sQ (fun r => P9 r.2.2) (fun r => P9 r.2)) (L_X5_mostLeftBy_12 x1 s) := by
  rintro ⟨b0, b1, b2⟩ hM
  replace hM : P9 b2 := hM
  unfold L_X5_mostLeftBy_12
  refine pc_ite ?_ ?_
  · exact pc_some (show P9 _ from hM)
  · refine pc_bind (P := fun _ => True) pc_T ?_
    intro _ _
    refine pc_ite ?_ ?_
    · refine pc_bind (P := fun _ => True) pc_T ?_
      intro _ _
      exact pc_some (show P9 _ from (P9_c hM (by decide)))
    · exact pc_none
theorem q_f_X5_mostLeftBy {x1 : Int32} {M : Mem} (hM : P9 M) : pc (fun r => P9 r.2) (f_X5_mostLeftBy x1 M) := by
  unfold f_X5_mostLeftBy
  refine pc_bind (P := (fun r => P9 r.2)) (pc_wh (q_L_X5_mostLeftBy_12) (show P9 _ from (P9_fill hM (by decide)))) ?_
  rintro ⟨a91_0, a91_1⟩ h91
  replace h91 : P9 a91_1 := h91
  exact pc_some (show P9 _ from h91)
theorem q_f_X5_readLine {qs : Nat} {qn : Nat} {x2 : Int32} {M : Mem} (h_qs : qs ≠ 54) (h_qn : qn ≠ 54) (hM : P9 M) : pc P9 (f_X5_readLine qs qn x2 M) := by
  unfold f_X5_readLine
  refine pc_bind (P := (fun r => P9 r.2)) (q_f_X10_number hM) ?_
  rintro ⟨a92_0, a92_1⟩ h92
  replace h92 : P9 a92_1 := h92
  refine pc_ite ?_ ?_
  · refine pc_ite ?_ ?_
    · refine pc_bind (P := (fun r => P9 r.2)) (q_f_X10_number (q_f_X10_blame h92)) ?_
      rintro ⟨a93_0, a93_1⟩ h93
      replace h93 : P9 a93_1 := h93
      refine pc_bind (P := P9) (q_f_X10_expect h93) ?_
      intro a94 h94
      refine pc_ite ?_ ?_
      · refine pc_ite ?_ ?_
        · exact pc_some (show P9 _ from (P9_c h94 h_qn))
        · exact pc_none
      · exact pc_some (show P9 _ from h94)
    · refine pc_bind (P := (fun r => P9 r.2)) (q_f_X10_number h92) ?_
      rintro ⟨a95_0, a95_1⟩ h95
      replace h95 : P9 a95_1 := h95
      refine pc_bind (P := P9) (q_f_X10_expect h95) ?_
      intro a96 h96
      refine pc_ite ?_ ?_
      · refine pc_ite ?_ ?_
        · exact pc_some (show P9 _ from (P9_c h96 h_qn))
        · exact pc_none
      · exact pc_some (show P9 _ from h96)
  · refine pc_ite ?_ ?_
    · refine pc_ite ?_ ?_
      · refine pc_ite ?_ ?_
        · refine pc_bind (P := (fun r => P9 r.2)) (q_f_X10_number (q_f_X10_blame h92)) ?_
          rintro ⟨a97_0, a97_1⟩ h97
          replace h97 : P9 a97_1 := h97
          refine pc_bind (P := P9) (q_f_X10_expect h97) ?_
          intro a98 h98
          refine pc_ite ?_ ?_
          · exact pc_some (show P9 _ from (P9_c h98 h_qn))
          · exact pc_some (show P9 _ from h98)
        · refine pc_bind (P := (fun r => P9 r.2)) (q_f_X10_number h92) ?_
          rintro ⟨a99_0, a99_1⟩ h99
          replace h99 : P9 a99_1 := h99
          refine pc_bind (P := P9) (q_f_X10_expect h99) ?_
          intro a100 h100
          refine pc_ite ?_ ?_
          · exact pc_some (show P9 _ from (P9_c h100 h_qn))
          · exact pc_some (show P9 _ from h100)
      · refine pc_ite ?_ ?_
        · refine pc_bind (P := (fun r => P9 r.2)) (q_f_X10_number (q_f_X10_blame (q_f_X10_blame h92))) ?_
          rintro ⟨a101_0, a101_1⟩ h101
          replace h101 : P9 a101_1 := h101
          refine pc_bind (P := P9) (q_f_X10_expect h101) ?_
          intro a102 h102
          refine pc_ite ?_ ?_
          · exact pc_some (show P9 _ from (P9_c h102 h_qn))
          · exact pc_some (show P9 _ from h102)
        · refine pc_bind (P := (fun r => P9 r.2)) (q_f_X10_number (q_f_X10_blame h92)) ?_
          rintro ⟨a103_0, a103_1⟩ h103
          replace h103 : P9 a103_1 := h103
          refine pc_bind (P := P9) (q_f_X10_expect h103) ?_
          intro a104 h104
          refine pc_ite ?_ ?_
          · exact pc_some (show P9 _ from (P9_c h104 h_qn))
          · exact pc_some (show P9 _ from h104)
    · exact pc_none
theorem q_f_X5_weighOn {qs : Nat} {qn : Nat} {x1 x2 : Int32} {M : Mem} (h_qs : qs ≠ 54) (h_qn : qn ≠ 54) (hM : P9 M) : pc P9 (f_X5_weighOn qs qn x1 x2 M) := by
  unfold f_X5_weighOn
  refine pc_ite ?_ ?_
  · refine pc_ite ?_ ?_
    · exact pc_some (show P9 _ from (P9_c hM (by decide)))
    · exact pc_none
  · refine pc_bind (P := fun _ => True) pc_T ?_
    intro _ _
    refine pc_ite ?_ ?_
    · exact pc_some (show P9 _ from (P9_c hM (by decide)))
    · exact pc_none
theorem q_L_X5_weighTo_31 {qs : Nat} {qn : Nat} {x1 x2 x3 : Int32} (h_qs : qs ≠ 54) (h_qn : qn ≠ 54) : ∀ s, (fun r => P9 r.2) s → pc (sQ (fun r => P9 r.2) P9) (L_X5_weighTo_31 qs qn x1 x2 x3 s) := by
  rintro ⟨b0, b1⟩ hM
  replace hM : P9 b1 := hM
  unfold L_X5_weighTo_31
  refine pc_ite ?_ ?_
  · exact pc_some (show P9 _ from hM)
  · refine pc_bind (P := fun _ => True) pc_T ?_
    intro _ _
    refine pc_ite ?_ ?_
    · exact pc_some (show P9 _ from hM)
    · refine pc_ite ?_ ?_
      · exact pc_some (show P9 _ from (P9_c hM (by decide)))
      · exact pc_none
theorem q_f_X5_weighTo {qs : Nat} {qn : Nat} {x1 x2 : Int32} {M : Mem} (h_qs : qs ≠ 54) (h_qn : qn ≠ 54) (hM : P9 M) : pc P9 (f_X5_weighTo qs qn x1 x2 M) := by
  unfold f_X5_weighTo
  refine pc_ite ?_ ?_
  · refine pc_ite ?_ ?_
    · refine pc_bind (P := P9) (pc_wh (q_L_X5_weighTo_31 h_qs h_qn) (show P9 _ from hM)) ?_
      intro a105 h105
      exact pc_some (show P9 _ from h105)
    · refine pc_ite ?_ ?_
      · refine pc_bind (P := P9) (pc_wh (q_L_X5_weighTo_31 h_qs h_qn) (show P9 _ from hM)) ?_
        intro a106 h106
        exact pc_some (show P9 _ from h106)
      · exact pc_none
  · refine pc_ite ?_ ?_
    · refine pc_bind (P := P9) (pc_wh (q_L_X5_weighTo_31 h_qs h_qn) (show P9 _ from hM)) ?_
      intro a107 h107
      exact pc_some (show P9 _ from h107)
    · refine pc_ite ?_ ?_
      · refine pc_bind (P := P9) (pc_wh (q_L_X5_weighTo_31 h_qs h_qn) (show P9 _ from hM)) ?_
        intro a108 h108
        exact pc_some (show P9 _ from h108)
      · exact pc_none
theorem q_L_X6_dueIn_15 {qc : Nat} {qd : Nat} {x1 : Int32} (h_qc : qc ≠ 54) (h_qd : qd ≠ 54) : ∀ s, P9 s → pc (sQ P9 P9) (L_X6_dueIn_15 qc qd x1 s) := by
  intro M0 hM
  unfold L_X6_dueIn_15
  refine pc_ite ?_ ?_
  · exact pc_some (show P9 _ from hM)
  · refine pc_bind (P := (fun r => P9 r.2)) (q_f_X4_dueBits (by decide) h_qc h_qd hM) ?_
    rintro ⟨a109_0, a109_1⟩ h109
    replace h109 : P9 a109_1 := h109
    refine pc_ite ?_ ?_
    · exact pc_some (show P9 _ from (P9_c (P9_c h109 (by decide)) (by decide)))
    · exact pc_none
theorem q_f_X6_dueIn {qc : Nat} {qd : Nat} {x1 : Int32} {M : Mem} (h_qc : qc ≠ 54) (h_qd : qd ≠ 54) (hM : P9 M) : pc (fun r => P9 r.2) (f_X6_dueIn qc qd x1 M) := by
  unfold f_X6_dueIn
  refine pc_ite ?_ ?_
  · exact pc_some (show P9 _ from hM)
  · refine pc_ite ?_ ?_
    · refine pc_bind (P := P9) (pc_wh (q_L_X6_dueIn_15 h_qc h_qd) (show P9 _ from hM)) ?_
      intro a110 h110
      refine pc_ite ?_ ?_
      · exact pc_some (show P9 _ from h110)
      · exact pc_none
    · exact pc_some (show P9 _ from hM)
theorem q_L_X6_dueThen_23 {qc : Nat} {qd : Nat} (h_qc : qc ≠ 54) (h_qd : qd ≠ 54) : ∀ s, (fun r => P9 r.2.2) s → pc (sQ (fun r => P9 r.2.2) (fun r => P9 r.2)) (L_X6_dueThen_23 qc qd s) := by
  rintro ⟨b0, b1, b2⟩ hM
  replace hM : P9 b2 := hM
  unfold L_X6_dueThen_23
  refine pc_ite ?_ ?_
  · exact pc_some (show P9 _ from hM)
  · refine pc_bind (P := fun _ => True) pc_T ?_
    intro _ _
    refine pc_bind (P := fun _ => True) pc_T ?_
    intro _ _
    refine pc_ite ?_ ?_
    · exact pc_some (show P9 _ from hM)
    · refine pc_bind (P := (fun r => P9 r.2)) (q_f_X4_isDue h_qc h_qd hM) ?_
      rintro ⟨a111_0, a111_1⟩ h111
      replace h111 : P9 a111_1 := h111
      refine pc_ite ?_ ?_
      · exact pc_some (show P9 _ from h111)
      · exact pc_some (show P9 _ from h111)
theorem q_f_X6_dueThen {qc : Nat} {qd : Nat} {x1 : Int32} {M : Mem} (h_qc : qc ≠ 54) (h_qd : qd ≠ 54) (hM : P9 M) : pc (fun r => P9 r.2) (f_X6_dueThen qc qd x1 M) := by
  unfold f_X6_dueThen
  refine pc_bind (P := (fun r => P9 r.2)) (q_f_X6_dueIn h_qc h_qd hM) ?_
  rintro ⟨a112_0, a112_1⟩ h112
  replace h112 : P9 a112_1 := h112
  refine pc_bind (P := fun _ => True) pc_T ?_
  intro _ _
  refine pc_ite ?_ ?_
  · exact pc_some (show P9 _ from h112)
  · refine pc_bind (P := (fun r => P9 r.2)) (pc_wh (q_L_X6_dueThen_23 h_qc h_qd) (show P9 _ from h112)) ?_
    rintro ⟨a113_0, a113_1⟩ h113
    replace h113 : P9 a113_1 := h113
    exact pc_some (show P9 _ from h113)
theorem q_L_X6_freeze_28 {qc : Nat} {qd : Nat} {x2 x3 : Int32} (h_qc : qc ≠ 54) (h_qd : qd ≠ 54) : ∀ s, (fun r => P9 r.2) s → pc (sQ (fun r => P9 r.2) P9) (L_X6_freeze_28 qc qd x2 x3 s) := by
  rintro ⟨b0, b1⟩ hM
  replace hM : P9 b1 := hM
  unfold L_X6_freeze_28
  refine pc_ite ?_ ?_
  · exact pc_some (show P9 _ from hM)
  · refine pc_bind (P := (fun r => P9 r.2)) (q_f_X6_drawFrozen hM) ?_
    rintro ⟨a114_0, a114_1⟩ h114
    replace h114 : P9 a114_1 := h114
    refine pc_bind (P := (fun r => P9 r.2)) (q_f_X6_dueThen h_qc h_qd h114) ?_
    rintro ⟨a115_0, a115_1⟩ h115
    replace h115 : P9 a115_1 := h115
    refine pc_bind (P := P9) (q_f_X4_passHour (by decide) (P9_c h115 (by decide))) ?_
    intro a116 h116
    exact pc_some (show P9 _ from h116)
theorem q_f_X6_freeze {qc : Nat} {qd : Nat} {x1 x2 x3 : Int32} {M : Mem} (h_qc : qc ≠ 54) (h_qd : qd ≠ 54) (hM : P9 M) : pc P9 (f_X6_freeze qc qd x1 x2 x3 M) := by
  unfold f_X6_freeze
  refine pc_bind (P := P9) (q_f_X8_writeTo_t hM) ?_
  intro a117 h117
  refine pc_bind (P := P9) (pc_wh (q_L_X6_freeze_28 h_qc h_qd) (show P9 _ from (P9_c (P9_c h117 (by decide)) (by decide)))) ?_
  intro a118 h118
  exact pc_some (show P9 _ from h118)
theorem q_f_X6_letPass {qc : Nat} {qd : Nat} {x1 : Int32} {M : Mem} (h_qc : qc ≠ 54) (h_qd : qd ≠ 54) (hM : P9 M) : pc P9 (f_X6_letPass qc qd x1 M) := by
  unfold f_X6_letPass
  refine pc_bind (P := P9) (q_f_X6_freeze h_qc h_qd hM) ?_
  intro a119 h119
  exact pc_some (show P9 _ from h119)
theorem q_f_X6_openIn {qc : Nat} {qd : Nat} {x1 : Int32} {M : Mem} (h_qc : qc ≠ 54) (h_qd : qd ≠ 54) (hM : P9 M) : pc (fun r => P9 r.2) (f_X6_openIn qc qd x1 M) := by
  unfold f_X6_openIn
  refine pc_bind (P := (fun r => P9 r.2)) (q_f_X6_dueIn h_qc h_qd hM) ?_
  rintro ⟨a120_0, a120_1⟩ h120
  replace h120 : P9 a120_1 := h120
  exact pc_some (show P9 _ from h120)
theorem q_L_X6_sail_23 {qc : Nat} {qd : Nat} {x1 : Int32} (h_qc : qc ≠ 54) (h_qd : qd ≠ 54) : ∀ s, (fun r => P9 r.2.2) s → pc (sQ (fun r => P9 r.2.2) P9) (L_X6_sail_23 qc qd x1 s) := by
  rintro ⟨b0, b1, b2⟩ hM
  replace hM : P9 b2 := hM
  unfold L_X6_sail_23
  refine pc_ite ?_ ?_
  · exact pc_some (show P9 _ from hM)
  · refine pc_ite ?_ ?_
    · refine pc_bind (P := (fun r => P9 r.2)) (q_f_X6_openIn h_qc h_qd hM) ?_
      rintro ⟨a121_0, a121_1⟩ h121
      replace h121 : P9 a121_1 := h121
      refine pc_bind (P := fun _ => True) pc_T ?_
      intro _ _
      refine pc_ite ?_ ?_
      · refine pc_ite ?_ ?_
        · exact pc_some (show P9 _ from (P9_c h121 (by decide)))
        · exact pc_some (show P9 _ from h121)
      · refine pc_ite ?_ ?_
        · refine pc_ite ?_ ?_
          · exact pc_some (show P9 _ from (P9_c (P9_c (P9_c h121 (by decide)) (by decide)) (by decide)))
          · exact pc_some (show P9 _ from (P9_c (P9_c h121 (by decide)) (by decide)))
        · exact pc_none
    · exact pc_some (show P9 _ from hM)
theorem q_f_X6_sail {qc : Nat} {qd : Nat} {x1 x2 : Int32} {M : Mem} (h_qc : qc ≠ 54) (h_qd : qd ≠ 54) (hM : P9 M) : pc P9 (f_X6_sail qc qd x1 x2 M) := by
  unfold f_X6_sail
  refine pc_bind (P := P9) (pc_wh (q_L_X6_sail_23 h_qc h_qd) (show P9 _ from (P9_fill (P9_c (P9_c hM (by decide)) (by decide)) (by decide)))) ?_
  intro a122 h122
  exact pc_some (show P9 _ from h122)
theorem q_f_X7_bringBack {M : Mem} (hM : P9 M) : pc P9 (f_X7_bringBack M) := by
  unfold f_X7_bringBack
  refine pc_ite ?_ ?_
  · exact pc_some (show P9 _ from hM)
  · refine pc_bind (P := P9) (q_f_X8_readFrom_p (P9_c hM (by decide))) ?_
    intro a123 h123
    exact pc_some (show P9 _ from h123)
theorem q_f_X7_bringBackImage {M : Mem} (hM : P9 M) : pc (fun r => P9 r.2) (f_X7_bringBackImage M) := by
  unfold f_X7_bringBackImage
  refine pc_ite ?_ ?_
  · refine pc_ite ?_ ?_
    · refine pc_bind (P := P9) (q_f_X8_readFrom_i (P9_cp (P9_c hM (by decide)) (by decide))) ?_
      intro a124 h124
      exact pc_some (show P9 _ from (P9_c h124 (by decide)))
    · exact pc_none
  · exact pc_some (show P9 _ from hM)
theorem q_f_X7_keep {M : Mem} (hM : P9 M) : pc P9 (f_X7_keep M) := by
  unfold f_X7_keep
  refine pc_ite ?_ ?_
  · refine pc_bind (P := P9) (q_f_X8_writeTo_p hM) ?_
    intro a125 h125
    exact pc_some (show P9 _ from (P9_c h125 (by decide)))
  · exact pc_some (show P9 _ from hM)
theorem q_f_X7_keepImage {M : Mem} (hM : P9 M) : pc (fun r => P9 r.2) (f_X7_keepImage M) := by
  unfold f_X7_keepImage
  refine pc_ite ?_ ?_
  · refine pc_ite ?_ ?_
    · refine pc_bind (P := P9) (q_f_X8_writeTo_i (P9_cp hM (by decide))) ?_
      intro a126 h126
      exact pc_some (show P9 _ from (P9_c (P9_c h126 (by decide)) (by decide)))
    · exact pc_none
  · exact pc_some (show P9 _ from hM)
theorem q_f_X9_isDone {qc : Nat} {qd : Nat} {x3 : Int32} {M : Mem} (h_qc : qc ≠ 54) (h_qd : qd ≠ 54) (hM : P9 M) : pc (fun r => P9 r.2) (f_X9_isDone qc qd x3 M) := by
  unfold f_X9_isDone
  refine pc_ite ?_ ?_
  · refine pc_ite ?_ ?_
    · refine pc_ite ?_ ?_
      · refine pc_bind (P := (fun r => P9 r.2)) (q_f_X4_dueBits (by decide) h_qc h_qd hM) ?_
        rintro ⟨a127_0, a127_1⟩ h127
        replace h127 : P9 a127_1 := h127
        refine pc_bind (P := P9) (q_f_X4_passHour (by decide) h127) ?_
        intro a128 h128
        exact pc_some (show P9 _ from h128)
      · exact pc_some (show P9 _ from hM)
    · refine pc_ite ?_ ?_
      · exact pc_some (show P9 _ from hM)
      · exact pc_some (show P9 _ from (q_f_X8_setMode (by decide) hM))
  · exact pc_none
theorem q_L_RX9_runRow_44 {qc : Nat} {qd : Nat} {r_X9_runRow : (Int32 → Int32 → Mem → Option (Mem))} {x5 : Int32} (h_qc : qc ≠ 54) (h_qd : qd ≠ 54) (hr : ∀ {a b : Int32} (M : Mem), P9 M → pc P9 (r_X9_runRow a b M)) : ∀ s, (fun r => P9 r.2) s → pc (sQ (fun r => P9 r.2) P9) (L_RX9_runRow_44 qc qd r_X9_runRow x5 s) := by
  rintro ⟨b0, b1⟩ hM
  replace hM : P9 b1 := hM
  unfold L_RX9_runRow_44
  refine pc_ite ?_ ?_
  · refine pc_ite ?_ ?_
    · exact pc_some (show P9 _ from hM)
    · refine pc_ite ?_ ?_
      · exact pc_some (show P9 _ from hM)
      · refine pc_bind (P := P9) (hr _ hM) ?_
        intro a129 h129
        exact pc_some (show P9 _ from h129)
  · exact pc_none
theorem q_L_RX9_runRow_3 {qc : Nat} {qd : Nat} {r_X9_runRow : (Int32 → Int32 → Mem → Option (Mem))} {x4 : Int32} (h_qc : qc ≠ 54) (h_qd : qd ≠ 54) (hr : ∀ {a b : Int32} (M : Mem), P9 M → pc P9 (r_X9_runRow a b M)) : ∀ s, (fun r => P9 r.2) s → pc (sQ (fun r => P9 r.2) P9) (L_RX9_runRow_3 qc qd r_X9_runRow x4 s) := by
  rintro ⟨b0, b1⟩ hM
  replace hM : P9 b1 := hM
  unfold L_RX9_runRow_3
  refine pc_ite ?_ ?_
  · exact pc_some (show P9 _ from hM)
  · refine pc_ite ?_ ?_
    · exact pc_some (show P9 _ from hM)
    · refine pc_ite ?_ ?_
      · refine pc_ite ?_ ?_
        · refine pc_bind (P := P9) (pc_wh (q_L_RX9_runRow_44 h_qc h_qd hr) (show P9 _ from (P9_c hM (by decide)))) ?_
          intro a130 h130
          exact pc_some (show P9 _ from h130)
        · refine pc_bind (P := (fun r => P9 r.2)) (q_f_X9_isDone h_qc h_qd (P9_c hM (by decide))) ?_
          rintro ⟨a131_0, a131_1⟩ h131
          replace h131 : P9 a131_1 := h131
          refine pc_ite ?_ ?_
          · exact pc_some (show P9 _ from (P9_c h131 (by decide)))
          · exact pc_some (show P9 _ from (P9_c h131 (by decide)))
      · exact pc_none
theorem q_f_RX9_runRow {qc : Nat} {qd : Nat} {r_X9_runRow : (Int32 → Int32 → Mem → Option (Mem))} {x3 x4 : Int32} {M : Mem} (h_qc : qc ≠ 54) (h_qd : qd ≠ 54) (hr : ∀ {a b : Int32} (M : Mem), P9 M → pc P9 (r_X9_runRow a b M)) (hM : P9 M) : pc P9 (f_RX9_runRow qc qd r_X9_runRow x3 x4 M) := by
  unfold f_RX9_runRow
  refine pc_bind (P := P9) (pc_wh (q_L_RX9_runRow_3 h_qc h_qd hr) (show P9 _ from hM)) ?_
  intro a132 h132
  exact pc_some (show P9 _ from h132)
theorem q_rec_runRow {qc qd : Nat} (h_qc : qc ≠ 54) (h_qd : qd ≠ 54) : ∀ n, ∀ {a b : Int32} (M : Mem), P9 M → pc P9 (rec_runRow qc qd n a b M)
  | 0, _, _, _, _ => pc_none
  | n + 1, a, b, M, h => show pc P9 (f_RX9_runRow qc qd (rec_runRow qc qd n) a b M) from q_f_RX9_runRow h_qc h_qd (fun M h => q_rec_runRow h_qc h_qd n M h) h
theorem q_f_X9_runRow {qc qd : Nat} {x3 x4 : Int32} {M : Mem} (h_qc : qc ≠ 54) (h_qd : qd ≠ 54) (hM : P9 M) : pc P9 (f_X9_runRow qc qd x3 x4 M) := q_rec_runRow h_qc h_qd 30 M hM
theorem q_L_RX3_readSum_8 {qc : Nat} {qd : Nat} {r_X3_readProduct : (Int32 → Mem → Option (Mem))} {x2 : Int32} (h_qc : qc ≠ 54) (h_qd : qd ≠ 54) (hr : ∀ {a : Int32} (M : Mem), P9 M → pc P9 (r_X3_readProduct a M)) : ∀ s, (fun r => P9 r.2) s → pc (sQ (fun r => P9 r.2) (sQ P9 P9)) (L_RX3_readSum_8 qc qd r_X3_readProduct x2 s) := by
  rintro ⟨b0, b1⟩ hM
  replace hM : P9 b1 := hM
  unfold L_RX3_readSum_8
  refine pc_ite ?_ ?_
  · exact pc_some (show P9 _ from hM)
  · refine pc_ite ?_ ?_
    · refine pc_bind (P := (fun r => P9 r.2)) (q_f_X10_takeOneOf hM) ?_
      rintro ⟨a133_0, a133_1⟩ h133
      replace h133 : P9 a133_1 := h133
      refine pc_ite ?_ ?_
      · exact pc_some (show P9 _ from h133)
      · refine pc_bind (P := P9) (hr _ h133) ?_
        intro a134 h134
        refine pc_bind (P := P9) (q_f_X3_add h_qc h_qd h134) ?_
        intro a135 h135
        exact pc_some (show P9 _ from h135)
    · exact pc_some (show P9 _ from hM)
theorem q_f_RX3_readSum {qc : Nat} {qd : Nat} {r_X3_readSum : (Int32 → Mem → Option (Mem))} {r_X3_readProduct : (Int32 → Mem → Option (Mem))} {r_X3_readUnit : (Int32 → Mem → Option (Mem))} {x2 : Int32} {M : Mem} (h_qc : qc ≠ 54) (h_qd : qd ≠ 54) (hr : ∀ {a : Int32} (M : Mem), P9 M → pc P9 (r_X3_readProduct a M)) (hM : P9 M) : pc P9 (f_RX3_readSum qc qd r_X3_readSum r_X3_readProduct r_X3_readUnit x2 M) := by
  unfold f_RX3_readSum
  refine pc_bind (P := P9) (hr _ hM) ?_
  intro a136 h136
  refine pc_bind (P := (sQ P9 P9)) (pc_wh (q_L_RX3_readSum_8 h_qc h_qd hr) (show P9 _ from h136)) ?_
  intro ee he
  rcases ee with ee | ee
  · have h137 : P9 ee := he
    dsimp only
    exact pc_some (show P9 _ from h137)
  · have h138 : P9 ee := he
    dsimp only
    exact pc_some (show P9 _ from h138)
theorem q_L_RX3_readProduct_8 {qc : Nat} {qd : Nat} {r_X3_readUnit : (Int32 → Mem → Option (Mem))} {x2 : Int32} (h_qc : qc ≠ 54) (h_qd : qd ≠ 54) (hr : ∀ {a : Int32} (M : Mem), P9 M → pc P9 (r_X3_readUnit a M)) : ∀ s, (fun r => P9 r.2) s → pc (sQ (fun r => P9 r.2) (sQ P9 P9)) (L_RX3_readProduct_8 qc qd r_X3_readUnit x2 s) := by
  rintro ⟨b0, b1⟩ hM
  replace hM : P9 b1 := hM
  unfold L_RX3_readProduct_8
  refine pc_ite ?_ ?_
  · exact pc_some (show P9 _ from hM)
  · refine pc_ite ?_ ?_
    · refine pc_bind (P := (fun r => P9 r.2)) (q_f_X10_takeOneOf hM) ?_
      rintro ⟨a139_0, a139_1⟩ h139
      replace h139 : P9 a139_1 := h139
      refine pc_ite ?_ ?_
      · exact pc_some (show P9 _ from h139)
      · refine pc_bind (P := P9) (hr _ h139) ?_
        intro a140 h140
        refine pc_bind (P := P9) (q_f_X3_add h_qc h_qd h140) ?_
        intro a141 h141
        exact pc_some (show P9 _ from h141)
    · exact pc_some (show P9 _ from hM)
theorem q_f_RX3_readProduct {qc : Nat} {qd : Nat} {r_X3_readSum : (Int32 → Mem → Option (Mem))} {r_X3_readProduct : (Int32 → Mem → Option (Mem))} {r_X3_readUnit : (Int32 → Mem → Option (Mem))} {x2 : Int32} {M : Mem} (h_qc : qc ≠ 54) (h_qd : qd ≠ 54) (hr : ∀ {a : Int32} (M : Mem), P9 M → pc P9 (r_X3_readUnit a M)) (hM : P9 M) : pc P9 (f_RX3_readProduct qc qd r_X3_readSum r_X3_readProduct r_X3_readUnit x2 M) := by
  unfold f_RX3_readProduct
  refine pc_bind (P := P9) (hr _ hM) ?_
  intro a142 h142
  refine pc_bind (P := (sQ P9 P9)) (pc_wh (q_L_RX3_readProduct_8 h_qc h_qd hr) (show P9 _ from h142)) ?_
  intro ee he
  rcases ee with ee | ee
  · have h143 : P9 ee := he
    dsimp only
    exact pc_some (show P9 _ from h143)
  · have h144 : P9 ee := he
    dsimp only
    exact pc_some (show P9 _ from h144)
theorem q_f_RX3_readUnit {qc : Nat} {qd : Nat} {r_X3_readSum : (Int32 → Mem → Option (Mem))} {r_X3_readProduct : (Int32 → Mem → Option (Mem))} {r_X3_readUnit : (Int32 → Mem → Option (Mem))} {x2 : Int32} {M : Mem} (h_qc : qc ≠ 54) (h_qd : qd ≠ 54) (hr : ∀ {a : Int32} (M : Mem), P9 M → pc P9 (r_X3_readSum a M)) (hM : P9 M) : pc P9 (f_RX3_readUnit qc qd r_X3_readSum r_X3_readProduct r_X3_readUnit x2 M) := by
  unfold f_RX3_readUnit
  refine pc_bind (P := (fun r => P9 r.2)) (q_f_X10_isAtDigit hM) ?_
  rintro ⟨a145_0, a145_1⟩ h145
  replace h145 : P9 a145_1 := h145
  refine pc_ite ?_ ?_
  · refine pc_bind (P := (fun r => P9 r.2)) (q_f_X10_takeOneOf h145) ?_
    rintro ⟨a146_0, a146_1⟩ h146
    replace h146 : P9 a146_1 := h146
    refine pc_ite ?_ ?_
    · refine pc_bind (P := (fun r => P9 r.2)) (q_f_X10_word h146) ?_
      rintro ⟨a147_0, a147_1⟩ h147
      replace h147 : P9 a147_1 := h147
      refine pc_ite ?_ ?_
      · refine pc_bind (P := P9) (q_f_X3_add h_qc h_qd h147) ?_
        intro a148 h148
        exact pc_some (show P9 _ from h148)
      · refine pc_ite ?_ ?_
        · refine pc_bind (P := P9) (q_f_X3_add h_qc h_qd (q_f_X3_isNestedDeeper h147)) ?_
          intro a149 h149
          exact pc_some (show P9 _ from h149)
        · refine pc_bind (P := P9) (q_f_X10_expect (q_f_X3_isNestedDeeper h147)) ?_
          intro a150 h150
          refine pc_bind (P := P9) (hr _ h150) ?_
          intro a151 h151
          refine pc_bind (P := P9) (q_f_X10_expect h151) ?_
          intro a152 h152
          refine pc_bind (P := P9) (hr _ h152) ?_
          intro a153 h153
          refine pc_bind (P := P9) (q_f_X10_expect h153) ?_
          intro a154 h154
          refine pc_bind (P := P9) (q_f_X3_add h_qc h_qd h154) ?_
          intro a155 h155
          exact pc_some (show P9 _ from h155)
    · refine pc_ite ?_ ?_
      · exact pc_some (show P9 _ from (q_f_X3_isNestedDeeper h146))
      · refine pc_bind (P := P9) (hr _ (q_f_X3_isNestedDeeper h146)) ?_
        intro a156 h156
        refine pc_bind (P := P9) (q_f_X10_expect h156) ?_
        intro a157 h157
        exact pc_some (show P9 _ from h157)
  · refine pc_bind (P := (fun r => P9 r.2)) (q_f_X10_number h145) ?_
    rintro ⟨a158_0, a158_1⟩ h158
    replace h158 : P9 a158_1 := h158
    refine pc_bind (P := P9) (q_f_X3_add h_qc h_qd h158) ?_
    intro a159 h159
    exact pc_some (show P9 _ from h159)
theorem q_rec_readSum {qc qd : Nat} (h_qc : qc ≠ 54) (h_qd : qd ≠ 54) : ∀ n, (∀ {a : Int32} (M : Mem), P9 M → pc P9 ((rec_readSum qc qd n).1 a M)) ∧ (∀ {a : Int32} (M : Mem), P9 M → pc P9 ((rec_readSum qc qd n).2.1 a M)) ∧ (∀ {a : Int32} (M : Mem), P9 M → pc P9 ((rec_readSum qc qd n).2.2 a M))
  | 0 => ⟨fun _ _ => pc_none, fun _ _ => pc_none, fun _ _ => pc_none⟩
  | n + 1 => ⟨fun {a} M h => show pc P9 (f_RX3_readSum qc qd (rec_readSum qc qd n).1 (rec_readSum qc qd n).2.1 (rec_readSum qc qd n).2.2 a M) from q_f_RX3_readSum h_qc h_qd (fun M h => (q_rec_readSum h_qc h_qd n).2.1 M h) h, fun {a} M h => show pc P9 (f_RX3_readProduct qc qd (rec_readSum qc qd n).1 (rec_readSum qc qd n).2.1 (rec_readSum qc qd n).2.2 a M) from q_f_RX3_readProduct h_qc h_qd (fun M h => (q_rec_readSum h_qc h_qd n).2.2 M h) h, fun {a} M h => show pc P9 (f_RX3_readUnit qc qd (rec_readSum qc qd n).1 (rec_readSum qc qd n).2.1 (rec_readSum qc qd n).2.2 a M) from q_f_RX3_readUnit h_qc h_qd (fun M h => (q_rec_readSum h_qc h_qd n).1 M h) h⟩
theorem q_f_X3_readSum {qc qd : Nat} {x2 : Int32} {M : Mem} (h_qc : qc ≠ 54) (h_qd : qd ≠ 54) (hM : P9 M) : pc P9 (f_X3_readSum qc qd x2 M) := (q_rec_readSum h_qc h_qd 30).1 M hM
theorem q_L_RX9_readRow_3 {r_X9_readStep : (Int32 → Int32 → Mem → Option (Mem))} {x2 x3 : Int32} (hr : ∀ {a b : Int32} (M : Mem), P9 M → pc P9 (r_X9_readStep a b M)) : ∀ s, (fun r => P9 r.2) s → pc (sQ (fun r => P9 r.2) (sQ P9 P9)) (L_RX9_readRow_3 r_X9_readStep x2 x3 s) := by
  rintro ⟨b0, b1⟩ hM
  replace hM : P9 b1 := hM
  unfold L_RX9_readRow_3
  refine pc_ite ?_ ?_
  · exact pc_some (show P9 _ from hM)
  · refine pc_ite ?_ ?_
    · refine pc_ite ?_ ?_
      · refine pc_bind (P := (fun r => P9 r.2)) (q_f_X10_isAtEnd hM) ?_
        rintro ⟨a160_0, a160_1⟩ h160
        replace h160 : P9 a160_1 := h160
        refine pc_ite ?_ ?_
        · refine pc_bind (P := P9) (hr _ h160) ?_
          intro a161 h161
          refine pc_bind (P := P9) (q_f_X10_expect h161) ?_
          intro a162 h162
          exact pc_some (show P9 _ from h162)
        · exact pc_some (show P9 _ from h160)
      · refine pc_bind (P := (fun r => P9 r.2)) (q_f_X10_next hM) ?_
        rintro ⟨a163_0, a163_1⟩ h163
        replace h163 : P9 a163_1 := h163
        refine pc_ite ?_ ?_
        · exact pc_some (show P9 _ from h163)
        · refine pc_bind (P := P9) (hr _ h163) ?_
          intro a164 h164
          refine pc_bind (P := P9) (q_f_X10_expect h164) ?_
          intro a165 h165
          exact pc_some (show P9 _ from h165)
    · exact pc_some (show P9 _ from hM)
theorem q_f_RX9_readRow {r_X9_readRow : (Int32 → Int32 → Mem → Option (Mem))} {r_X9_readStep : (Int32 → Int32 → Mem → Option (Mem))} {x2 x3 : Int32} {M : Mem} (hr : ∀ {a b : Int32} (M : Mem), P9 M → pc P9 (r_X9_readStep a b M)) (hM : P9 M) : pc P9 (f_RX9_readRow r_X9_readRow r_X9_readStep x2 x3 M) := by
  unfold f_RX9_readRow
  refine pc_bind (P := (sQ P9 P9)) (pc_wh (q_L_RX9_readRow_3 hr) (show P9 _ from hM)) ?_
  intro ee he
  rcases ee with ee | ee
  · have h166 : P9 ee := he
    dsimp only
    exact pc_some (show P9 _ from h166)
  · have h167 : P9 ee := he
    dsimp only
    exact pc_some (show P9 _ from h167)
theorem q_f_RX9_readStep {r_X9_readRow : (Int32 → Int32 → Mem → Option (Mem))} {r_X9_readStep : (Int32 → Int32 → Mem → Option (Mem))} {x2 x3 : Int32} {M : Mem} (hr : ∀ {a b : Int32} (M : Mem), P9 M → pc P9 (r_X9_readRow a b M)) (hM : P9 M) : pc P9 (f_RX9_readStep r_X9_readRow r_X9_readStep x2 x3 M) := by
  unfold f_RX9_readStep
  refine pc_bind (P := (fun r => P9 r.2)) (q_f_X10_word hM) ?_
  rintro ⟨a168_0, a168_1⟩ h168
  replace h168 : P9 a168_1 := h168
  refine pc_ite ?_ ?_
  · refine pc_ite ?_ ?_
    · refine pc_bind (P := (fun r => P9 r.2)) (q_f_X10_number (q_f_X10_blame h168)) ?_
      rintro ⟨a169_0, a169_1⟩ h169
      replace h169 : P9 a169_1 := h169
      refine pc_ite ?_ ?_
      · refine pc_ite ?_ ?_
        · refine pc_ite ?_ ?_
          · refine pc_bind (P := P9) (q_f_X10_expect (P9_c (P9_c (P9_c h169 (by decide)) (by decide)) (by decide))) ?_
            intro a170 h170
            refine pc_bind (P := P9) (hr _ h170) ?_
            intro a171 h171
            refine pc_bind (P := P9) (q_f_X10_expect h171) ?_
            intro a172 h172
            exact pc_some (show P9 _ from (P9_c h172 (by decide)))
          · exact pc_none
        · exact pc_some (show P9 _ from h169)
      · exact pc_some (show P9 _ from h169)
    · refine pc_bind (P := (fun r => P9 r.2)) (q_f_X10_number h168) ?_
      rintro ⟨a173_0, a173_1⟩ h173
      replace h173 : P9 a173_1 := h173
      refine pc_ite ?_ ?_
      · refine pc_ite ?_ ?_
        · refine pc_ite ?_ ?_
          · refine pc_bind (P := P9) (q_f_X10_expect (P9_c (P9_c (P9_c h173 (by decide)) (by decide)) (by decide))) ?_
            intro a174 h174
            refine pc_bind (P := P9) (hr _ h174) ?_
            intro a175 h175
            refine pc_bind (P := P9) (q_f_X10_expect h175) ?_
            intro a176 h176
            exact pc_some (show P9 _ from (P9_c h176 (by decide)))
          · exact pc_none
        · exact pc_some (show P9 _ from h173)
      · exact pc_some (show P9 _ from h173)
  · refine pc_ite ?_ ?_
    · refine pc_ite ?_ ?_
      · refine pc_ite ?_ ?_
        · refine pc_ite ?_ ?_
          · exact pc_some (show P9 _ from (P9_c (P9_c (P9_c (P9_c h168 (by decide)) (by decide)) (by decide)) (by decide)))
          · exact pc_none
        · exact pc_some (show P9 _ from h168)
      · exact pc_some (show P9 _ from h168)
    · refine pc_bind (P := (fun r => P9 r.2)) (q_f_X10_number h168) ?_
      rintro ⟨a177_0, a177_1⟩ h177
      replace h177 : P9 a177_1 := h177
      refine pc_ite ?_ ?_
      · refine pc_ite ?_ ?_
        · refine pc_ite ?_ ?_
          · exact pc_some (show P9 _ from (P9_c (P9_c (P9_c (P9_c h177 (by decide)) (by decide)) (by decide)) (by decide)))
          · exact pc_none
        · exact pc_some (show P9 _ from h177)
      · exact pc_some (show P9 _ from h177)
theorem q_rec_readRow : ∀ n, (∀ {a b : Int32} (M : Mem), P9 M → pc P9 ((rec_readRow n).1 a b M)) ∧ (∀ {a b : Int32} (M : Mem), P9 M → pc P9 ((rec_readRow n).2 a b M))
  | 0 => ⟨fun _ _ => pc_none, fun _ _ => pc_none⟩
  | n + 1 => ⟨fun {a b} M h => show pc P9 (f_RX9_readRow (rec_readRow n).1 (rec_readRow n).2 a b M) from q_f_RX9_readRow (fun M h => (q_rec_readRow n).2 M h) h, fun {a b} M h => show pc P9 (f_RX9_readStep (rec_readRow n).1 (rec_readRow n).2 a b M) from q_f_RX9_readStep (fun M h => (q_rec_readRow n).1 M h) h⟩
theorem q_f_X9_readRow {x2 x3 : Int32} {M : Mem} (hM : P9 M) : pc P9 (f_X9_readRow x2 x3 M) := (q_rec_readRow 30).1 M hM
theorem q_f_X10_expectEnd {M : Mem} (hM : P9 M) : pc P9 (f_X10_expectEnd M) := by
  unfold f_X10_expectEnd
  refine pc_bind (P := (fun r => P9 r.2)) (q_f_X10_isAtEnd hM) ?_
  rintro ⟨a178_0, a178_1⟩ h178
  replace h178 : P9 a178_1 := h178
  refine pc_ite ?_ ?_
  · exact pc_some (show P9 _ from (q_f_X10_blame h178))
  · exact pc_some (show P9 _ from h178)
theorem q_f_X11_ahead {qc : Nat} {qd : Nat} {x1 x2 : Int32} {M : Mem} (h_qc : qc ≠ 54) (h_qd : qd ≠ 54) (hM : P9 M) : pc (fun r => P9 r.2) (f_X11_ahead qc qd x1 x2 M) := by
  unfold f_X11_ahead
  refine pc_bind (P := (fun r => P9 r.2)) (q_f_X11_needFit hM) ?_
  rintro ⟨a179_0, a179_1⟩ h179
  replace h179 : P9 a179_1 := h179
  cases a179_0
  · dsimp only
    refine pc_bind (P := (fun r => P9 r.2)) (q_f_X11_needFit h179) ?_
    rintro ⟨a180_0, a180_1⟩ h180
    replace h180 : P9 a180_1 := h180
    cases a180_0
    · dsimp only
      refine pc_bind (P := P9) (q_f_X6_letPass h_qc h_qd h180) ?_
      intro a181 h181
      refine pc_ite ?_ ?_
      · refine pc_bind (P := fun _ => True) pc_T ?_
        intro _ _
        exact pc_some (show P9 _ from h181)
      · refine pc_ite ?_ ?_
        · refine pc_bind (P := fun _ => True) pc_T ?_
          intro _ _
          exact pc_some (show P9 _ from h181)
        · refine pc_bind (P := fun _ => True) pc_T ?_
          intro _ _
          exact pc_some (show P9 _ from h181)
    · dsimp only
      exact pc_some (show P9 _ from h180)
  · dsimp only
    exact pc_some (show P9 _ from h179)
theorem q_L_X11_busiest_26 {qc : Nat} {qd : Nat} {x1 : Int32} (h_qc : qc ≠ 54) (h_qd : qd ≠ 54) : ∀ s, (fun r => P9 r.2.2.2) s → pc (sQ (fun r => P9 r.2.2.2) (fun r => P9 r.2)) (L_X11_busiest_26 qc qd x1 s) := by
  rintro ⟨b0, b1, b2, b3⟩ hM
  replace hM : P9 b3 := hM
  unfold L_X11_busiest_26
  refine pc_ite ?_ ?_
  · exact pc_some (show P9 _ from hM)
  · refine pc_bind (P := (fun r => P9 r.2)) (q_f_X4_dueBits (by decide) h_qc h_qd hM) ?_
    rintro ⟨a182_0, a182_1⟩ h182
    replace h182 : P9 a182_1 := h182
    refine pc_ite ?_ ?_
    · exact pc_some (show P9 _ from h182)
    · exact pc_some (show P9 _ from h182)
theorem q_f_X11_busiest {qc : Nat} {qd : Nat} {M : Mem} (h_qc : qc ≠ 54) (h_qd : qd ≠ 54) (hM : P9 M) : pc (fun r => P9 r.2) (f_X11_busiest qc qd M) := by
  unfold f_X11_busiest
  refine pc_bind (P := (fun r => P9 r.2)) (pc_wh (q_L_X11_busiest_26 h_qc h_qd) (show P9 _ from hM)) ?_
  rintro ⟨a183_0, a183_1⟩ h183
  replace h183 : P9 a183_1 := h183
  exact pc_some (show P9 _ from h183)
theorem q_f_X11_flood {x1 : Int32} {M : Mem} (hM : P9 M) : pc (fun r => P9 r.2) (f_X11_flood x1 M) := by
  unfold f_X11_flood
  refine pc_bind (P := (fun r => P9 r.2)) (q_f_X11_needBits hM) ?_
  rintro ⟨a184_0, a184_1⟩ h184
  replace h184 : P9 a184_1 := h184
  cases a184_0
  · dsimp only
    refine pc_bind (P := (fun r => P9 r.2)) (q_f_X2_fewest h184) ?_
    rintro ⟨a185_0, a185_1⟩ h185
    replace h185 : P9 a185_1 := h185
    exact pc_some (show P9 _ from h185)
  · dsimp only
    exact pc_some (show P9 _ from h184)
theorem q_L_X11_hold_18 {qc : Nat} {qd : Nat} {x1 x2 : Int32} (h_qc : qc ≠ 54) (h_qd : qd ≠ 54) : ∀ s, (fun r => P9 r.2.2) s → pc (sQ (fun r => P9 r.2.2) (fun r => P9 r.2)) (L_X11_hold_18 qc qd x1 x2 s) := by
  rintro ⟨b0, b1, b2⟩ hM
  replace hM : P9 b2 := hM
  unfold L_X11_hold_18
  refine pc_ite ?_ ?_
  · exact pc_some (show P9 _ from hM)
  · refine pc_bind (P := fun _ => True) pc_T ?_
    intro _ _
    refine pc_bind (P := (fun r => P9 r.2)) (q_f_X6_openIn h_qc h_qd hM) ?_
    rintro ⟨a186_0, a186_1⟩ h186
    replace h186 : P9 a186_1 := h186
    refine pc_bind (P := fun _ => True) pc_T ?_
    intro _ _
    refine pc_ite ?_ ?_
    · exact pc_some (show P9 _ from h186)
    · exact pc_some (show P9 _ from h186)
theorem q_f_X11_hold {qc : Nat} {qd : Nat} {x1 x2 : Int32} {M : Mem} (h_qc : qc ≠ 54) (h_qd : qd ≠ 54) (hM : P9 M) : pc (fun r => P9 r.2) (f_X11_hold qc qd x1 x2 M) := by
  unfold f_X11_hold
  refine pc_bind (P := (fun r => P9 r.2)) (q_f_X11_needMast hM) ?_
  rintro ⟨a187_0, a187_1⟩ h187
  replace h187 : P9 a187_1 := h187
  cases a187_0
  · dsimp only
    refine pc_bind (P := (fun r => P9 r.2)) (q_f_X11_needFit h187) ?_
    rintro ⟨a188_0, a188_1⟩ h188
    replace h188 : P9 a188_1 := h188
    cases a188_0
    · dsimp only
      refine pc_bind (P := (fun r => P9 r.2)) (pc_wh (q_L_X11_hold_18 h_qc h_qd) (show P9 _ from h188)) ?_
      rintro ⟨a189_0, a189_1⟩ h189
      replace h189 : P9 a189_1 := h189
      exact pc_some (show P9 _ from h189)
    · dsimp only
      exact pc_some (show P9 _ from h188)
  · dsimp only
    exact pc_some (show P9 _ from h187)
theorem q_f_X11_holds {x1 : Int32} {M : Mem} (hM : P9 M) : pc (fun r => P9 r.2) (f_X11_holds x1 M) := by
  unfold f_X11_holds
  refine pc_bind (P := (fun r => P9 r.2)) (q_f_X11_needBits hM) ?_
  rintro ⟨a190_0, a190_1⟩ h190
  replace h190 : P9 a190_1 := h190
  cases a190_0
  · dsimp only
    refine pc_bind (P := fun _ => True) pc_T ?_
    intro _ _
    exact pc_some (show P9 _ from h190)
  · dsimp only
    exact pc_some (show P9 _ from h190)
theorem q_f_X11_image {M : Mem} (hM : P9 M) : pc (fun r => P9 r.2) (f_X11_image M) := by
  unfold f_X11_image
  refine pc_bind (P := (fun r => P9 r.2)) (q_f_X7_keepImage hM) ?_
  rintro ⟨a191_0, a191_1⟩ h191
  replace h191 : P9 a191_1 := h191
  refine pc_ite ?_ ?_
  · exact pc_some (show P9 _ from h191)
  · exact pc_some (show P9 _ from h191)
theorem q_f_X11_lawful {qc : Nat} {qd : Nat} {x1 x2 x3 : Int32} {M : Mem} (h_qc : qc ≠ 54) (h_qd : qd ≠ 54) (hM : P9 M) : pc (fun r => P9 r.2) (f_X11_lawful qc qd x1 x2 x3 M) := by
  unfold f_X11_lawful
  refine pc_bind (P := (fun r => P9 r.2)) (q_f_X11_needBoard hM) ?_
  rintro ⟨a192_0, a192_1⟩ h192
  replace h192 : P9 a192_1 := h192
  cases a192_0
  · dsimp only
    refine pc_bind (P := (fun r => P9 r.2)) (q_f_X11_needFit h192) ?_
    rintro ⟨a193_0, a193_1⟩ h193
    replace h193 : P9 a193_1 := h193
    cases a193_0
    · dsimp only
      refine pc_bind (P := (fun r => P9 r.2)) (q_f_X11_needFit h193) ?_
      rintro ⟨a194_0, a194_1⟩ h194
      replace h194 : P9 a194_1 := h194
      cases a194_0
      · dsimp only
        refine pc_bind (P := fun _ => True) pc_T ?_
        intro _ _
        refine pc_bind (P := (fun r => P9 r.2)) (q_f_X4_isDue h_qc h_qd h194) ?_
        rintro ⟨a195_0, a195_1⟩ h195
        replace h195 : P9 a195_1 := h195
        refine pc_ite ?_ ?_
        · exact pc_some (show P9 _ from h195)
        · exact pc_none
      · dsimp only
        exact pc_some (show P9 _ from h194)
    · dsimp only
      exact pc_some (show P9 _ from h193)
  · dsimp only
    exact pc_some (show P9 _ from h192)
theorem q_L_X11_letter_26 {qc : Nat} {qd : Nat} (h_qc : qc ≠ 54) (h_qd : qd ≠ 54) : ∀ s, (fun r => P9 r.2.2.2.2.2) s → pc (sQ (fun r => P9 r.2.2.2.2.2) (fun r => P9 r.2.2.2)) (L_X11_letter_26 qc qd s) := by
  rintro ⟨b0, b1, b2, b3, b4, b5⟩ hM
  replace hM : P9 b5 := hM
  unfold L_X11_letter_26
  refine pc_ite ?_ ?_
  · exact pc_some (show P9 _ from hM)
  · refine pc_ite ?_ ?_
    · exact pc_some (show P9 _ from hM)
    · refine pc_bind (P := (fun r => P9 r.2)) (q_f_X6_openIn h_qc h_qd hM) ?_
      rintro ⟨a196_0, a196_1⟩ h196
      replace h196 : P9 a196_1 := h196
      refine pc_ite ?_ ?_
      · exact pc_some (show P9 _ from h196)
      · refine pc_ite ?_ ?_
        · exact pc_some (show P9 _ from h196)
        · exact pc_some (show P9 _ from h196)
theorem q_f_X11_letter {qc : Nat} {qd : Nat} {x1 x2 : Int32} {M : Mem} (h_qc : qc ≠ 54) (h_qd : qd ≠ 54) (hM : P9 M) : pc (fun r => P9 r.2) (f_X11_letter qc qd x1 x2 M) := by
  unfold f_X11_letter
  refine pc_bind (P := (fun r => P9 r.2)) (q_f_X11_needBoard hM) ?_
  rintro ⟨a197_0, a197_1⟩ h197
  replace h197 : P9 a197_1 := h197
  cases a197_0
  · dsimp only
    refine pc_bind (P := (fun r => P9 r.2)) (q_f_X11_needFit h197) ?_
    rintro ⟨a198_0, a198_1⟩ h198
    replace h198 : P9 a198_1 := h198
    cases a198_0
    · dsimp only
      refine pc_bind (P := (fun r => P9 r.2.2.2)) (pc_wh (q_L_X11_letter_26 h_qc h_qd) (show P9 _ from h198)) ?_
      rintro ⟨a199_0, a199_1, a199_2, a199_3⟩ h199
      replace h199 : P9 a199_3 := h199
      refine pc_ite ?_ ?_
      · exact pc_some (show P9 _ from h199)
      · refine pc_ite ?_ ?_
        · exact pc_some (show P9 _ from h199)
        · exact pc_some (show P9 _ from h199)
    · dsimp only
      exact pc_some (show P9 _ from h198)
  · dsimp only
    exact pc_some (show P9 _ from h197)
theorem q_L_X11_often_19 {qc : Nat} {qd : Nat} {x1 x2 : Int32} (h_qc : qc ≠ 54) (h_qd : qd ≠ 54) : ∀ s, (fun r => P9 r.2.2) s → pc (sQ (fun r => P9 r.2.2) (fun r => P9 r.2)) (L_X11_often_19 qc qd x1 x2 s) := by
  rintro ⟨b0, b1, b2⟩ hM
  replace hM : P9 b2 := hM
  unfold L_X11_often_19
  refine pc_ite ?_ ?_
  · exact pc_some (show P9 _ from hM)
  · refine pc_bind (P := (fun r => P9 r.2)) (q_f_X6_openIn h_qc h_qd hM) ?_
    rintro ⟨a200_0, a200_1⟩ h200
    replace h200 : P9 a200_1 := h200
    exact pc_some (show P9 _ from h200)
theorem q_f_X11_often {qc : Nat} {qd : Nat} {x1 x2 : Int32} {M : Mem} (h_qc : qc ≠ 54) (h_qd : qd ≠ 54) (hM : P9 M) : pc (fun r => P9 r.2) (f_X11_often qc qd x1 x2 M) := by
  unfold f_X11_often
  refine pc_bind (P := (fun r => P9 r.2)) (q_f_X11_needBoard hM) ?_
  rintro ⟨a201_0, a201_1⟩ h201
  replace h201 : P9 a201_1 := h201
  cases a201_0
  · dsimp only
    refine pc_bind (P := (fun r => P9 r.2)) (q_f_X11_needFit h201) ?_
    rintro ⟨a202_0, a202_1⟩ h202
    replace h202 : P9 a202_1 := h202
    cases a202_0
    · dsimp only
      refine pc_bind (P := (fun r => P9 r.2)) (pc_wh (q_L_X11_often_19 h_qc h_qd) (show P9 _ from h202)) ?_
      rintro ⟨a203_0, a203_1⟩ h203
      replace h203 : P9 a203_1 := h203
      exact pc_some (show P9 _ from h203)
    · dsimp only
      exact pc_some (show P9 _ from h202)
  · dsimp only
    exact pc_some (show P9 _ from h201)
theorem q_f_X11_openNow {qc : Nat} {qd : Nat} {M : Mem} (h_qc : qc ≠ 54) (h_qd : qd ≠ 54) (hM : P9 M) : pc (fun r => P9 r.2) (f_X11_openNow qc qd M) := by
  unfold f_X11_openNow
  refine pc_bind (P := (fun r => P9 r.2)) (q_f_X6_openIn h_qc h_qd hM) ?_
  rintro ⟨a204_0, a204_1⟩ h204
  replace h204 : P9 a204_1 := h204
  exact pc_some (show P9 _ from h204)
theorem q_L_X11_opens_7 {qc : Nat} {qd : Nat} {x1 : Int32} (h_qc : qc ≠ 54) (h_qd : qd ≠ 54) : ∀ s, (fun r => P9 r.2) s → pc (sQ (fun r => P9 r.2) (sQ (fun r => P9 r.2) P9)) (L_X11_opens_7 qc qd x1 s) := by
  rintro ⟨b0, b1⟩ hM
  replace hM : P9 b1 := hM
  unfold L_X11_opens_7
  refine pc_ite ?_ ?_
  · exact pc_some (show P9 _ from hM)
  · refine pc_bind (P := (fun r => P9 r.2)) (q_f_X6_openIn h_qc h_qd hM) ?_
    rintro ⟨a205_0, a205_1⟩ h205
    replace h205 : P9 a205_1 := h205
    refine pc_ite ?_ ?_
    · exact pc_some (show P9 _ from h205)
    · exact pc_some (show P9 _ from h205)
theorem q_f_X11_opens {qc : Nat} {qd : Nat} {x1 : Int32} {M : Mem} (h_qc : qc ≠ 54) (h_qd : qd ≠ 54) (hM : P9 M) : pc (fun r => P9 r.2) (f_X11_opens qc qd x1 M) := by
  unfold f_X11_opens
  refine pc_bind (P := (fun r => P9 r.2)) (q_f_X11_needBoard hM) ?_
  rintro ⟨a206_0, a206_1⟩ h206
  replace h206 : P9 a206_1 := h206
  cases a206_0
  · dsimp only
    refine pc_bind (P := (sQ (fun r => P9 r.2) P9)) (pc_wh (q_L_X11_opens_7 h_qc h_qd) (show P9 _ from h206)) ?_
    intro ee he
    rcases ee with ee | ee
    · obtain ⟨a207_0, a207_1⟩ := ee
      have h207 : P9 a207_1 := he
      dsimp only
      exact pc_some (show P9 _ from h207)
    · have h208 : P9 ee := he
      dsimp only
      exact pc_some (show P9 _ from h208)
  · dsimp only
    exact pc_some (show P9 _ from h206)
theorem q_L_X11_peak_14 {qc : Nat} {qd : Nat} (h_qc : qc ≠ 54) (h_qd : qd ≠ 54) : ∀ s, (fun r => P9 r.2.2.2) s → pc (sQ (fun r => P9 r.2.2.2) (fun r => P9 r.2.2)) (L_X11_peak_14 qc qd s) := by
  rintro ⟨b0, b1, b2, b3⟩ hM
  replace hM : P9 b3 := hM
  unfold L_X11_peak_14
  refine pc_ite ?_ ?_
  · exact pc_some (show P9 _ from hM)
  · refine pc_bind (P := (fun r => P9 r.2)) (q_f_X6_openIn h_qc h_qd hM) ?_
    rintro ⟨a209_0, a209_1⟩ h209
    replace h209 : P9 a209_1 := h209
    refine pc_ite ?_ ?_
    · exact pc_some (show P9 _ from h209)
    · exact pc_some (show P9 _ from h209)
theorem q_f_X11_peak {qc : Nat} {qd : Nat} {x1 : Int32} {M : Mem} (h_qc : qc ≠ 54) (h_qd : qd ≠ 54) (hM : P9 M) : pc (fun r => P9 r.2) (f_X11_peak qc qd x1 M) := by
  unfold f_X11_peak
  refine pc_bind (P := (fun r => P9 r.2)) (q_f_X11_needFit hM) ?_
  rintro ⟨a210_0, a210_1⟩ h210
  replace h210 : P9 a210_1 := h210
  cases a210_0
  · dsimp only
    refine pc_bind (P := (fun r => P9 r.2.2)) (pc_wh (q_L_X11_peak_14 h_qc h_qd) (show P9 _ from h210)) ?_
    rintro ⟨a211_0, a211_1, a211_2⟩ h211
    replace h211 : P9 a211_2 := h211
    refine pc_ite ?_ ?_
    · exact pc_some (show P9 _ from h211)
    · exact pc_some (show P9 _ from h211)
  · dsimp only
    exact pc_some (show P9 _ from h210)
theorem q_f_X11_reach {qc : Nat} {qd : Nat} {x1 x2 : Int32} {M : Mem} (h_qc : qc ≠ 54) (h_qd : qd ≠ 54) (hM : P9 M) : pc (fun r => P9 r.2) (f_X11_reach qc qd x1 x2 M) := by
  unfold f_X11_reach
  refine pc_bind (P := (fun r => P9 r.2)) (q_f_X11_needBoard hM) ?_
  rintro ⟨a212_0, a212_1⟩ h212
  replace h212 : P9 a212_1 := h212
  cases a212_0
  · dsimp only
    refine pc_bind (P := (fun r => P9 r.2)) (q_f_X11_needFit h212) ?_
    rintro ⟨a213_0, a213_1⟩ h213
    replace h213 : P9 a213_1 := h213
    cases a213_0
    · dsimp only
      refine pc_bind (P := fun _ => True) pc_T ?_
      intro _ _
      refine pc_bind (P := (fun r => P9 r.2)) (q_f_X11_openNow h_qc h_qd h213) ?_
      rintro ⟨a214_0, a214_1⟩ h214
      replace h214 : P9 a214_1 := h214
      refine pc_bind (P := fun _ => True) pc_T ?_
      intro _ _
      exact pc_some (show P9 _ from h214)
    · dsimp only
      exact pc_some (show P9 _ from h213)
  · dsimp only
    exact pc_some (show P9 _ from h212)
theorem q_f_X11_restore {M : Mem} (hM : P9 M) : pc (fun r => P9 r.2) (f_X11_restore M) := by
  unfold f_X11_restore
  refine pc_bind (P := (fun r => P9 r.2)) (q_f_X7_bringBackImage hM) ?_
  rintro ⟨a215_0, a215_1⟩ h215
  replace h215 : P9 a215_1 := h215
  refine pc_ite ?_ ?_
  · exact pc_some (show P9 _ from h215)
  · exact pc_some (show P9 _ from (P9_c (P9_c h215 (by decide)) (by decide)))
theorem q_f_X11_smells {x1 x2 : Int32} {M : Mem} (hM : P9 M) : pc (fun r => P9 r.2) (f_X11_smells x1 x2 M) := by
  unfold f_X11_smells
  refine pc_bind (P := (fun r => P9 r.2)) (q_f_X11_needBoard hM) ?_
  rintro ⟨a216_0, a216_1⟩ h216
  replace h216 : P9 a216_1 := h216
  cases a216_0
  · dsimp only
    refine pc_bind (P := (fun r => P9 r.2)) (q_f_X11_needBits h216) ?_
    rintro ⟨a217_0, a217_1⟩ h217
    replace h217 : P9 a217_1 := h217
    cases a217_0
    · dsimp only
      refine pc_bind (P := fun _ => True) pc_T ?_
      intro _ _
      exact pc_some (show P9 _ from h217)
    · dsimp only
      exact pc_some (show P9 _ from h217)
  · dsimp only
    exact pc_some (show P9 _ from h216)
theorem q_L_X11_soonest_29 {qc : Nat} {qd : Nat} {x1 x2 : Int32} (h_qc : qc ≠ 54) (h_qd : qd ≠ 54) : ∀ s, (fun r => P9 r.2.2.2) s → pc (sQ (fun r => P9 r.2.2.2) (fun r => P9 r.2.2)) (L_X11_soonest_29 qc qd x1 x2 s) := by
  rintro ⟨b0, b1, b2, b3⟩ hM
  replace hM : P9 b3 := hM
  unfold L_X11_soonest_29
  refine pc_ite ?_ ?_
  · exact pc_some (show P9 _ from hM)
  · refine pc_bind (P := P9) (q_f_X6_sail h_qc h_qd hM) ?_
    intro a218 h218
    refine pc_ite ?_ ?_
    · exact pc_some (show P9 _ from h218)
    · refine pc_ite ?_ ?_
      · exact pc_some (show P9 _ from h218)
      · refine pc_ite ?_ ?_
        · exact pc_some (show P9 _ from h218)
        · exact pc_some (show P9 _ from h218)
theorem q_f_X11_soonest {qc : Nat} {qd : Nat} {x1 x2 x3 : Int32} {M : Mem} (h_qc : qc ≠ 54) (h_qd : qd ≠ 54) (hM : P9 M) : pc (fun r => P9 r.2) (f_X11_soonest qc qd x1 x2 x3 M) := by
  unfold f_X11_soonest
  refine pc_bind (P := (fun r => P9 r.2)) (q_f_X11_needMast hM) ?_
  rintro ⟨a219_0, a219_1⟩ h219
  replace h219 : P9 a219_1 := h219
  cases a219_0
  · dsimp only
    refine pc_bind (P := (fun r => P9 r.2)) (q_f_X11_needFit h219) ?_
    rintro ⟨a220_0, a220_1⟩ h220
    replace h220 : P9 a220_1 := h220
    cases a220_0
    · dsimp only
      refine pc_bind (P := (fun r => P9 r.2)) (q_f_X11_needFit h220) ?_
      rintro ⟨a221_0, a221_1⟩ h221
      replace h221 : P9 a221_1 := h221
      cases a221_0
      · dsimp only
        refine pc_bind (P := (fun r => P9 r.2.2)) (pc_wh (q_L_X11_soonest_29 h_qc h_qd) (show P9 _ from h221)) ?_
        rintro ⟨a222_0, a222_1, a222_2⟩ h222
        replace h222 : P9 a222_2 := h222
        refine pc_ite ?_ ?_
        · exact pc_some (show P9 _ from h222)
        · exact pc_some (show P9 _ from h222)
      · dsimp only
        exact pc_some (show P9 _ from h221)
    · dsimp only
      exact pc_some (show P9 _ from h220)
  · dsimp only
    exact pc_some (show P9 _ from h219)
theorem q_f_X11_street {qc : Nat} {qd : Nat} {x1 x2 : Int32} {M : Mem} (h_qc : qc ≠ 54) (h_qd : qd ≠ 54) (hM : P9 M) : pc (fun r => P9 r.2) (f_X11_street qc qd x1 x2 M) := by
  unfold f_X11_street
  refine pc_bind (P := (fun r => P9 r.2)) (q_f_X11_needThere hM) ?_
  rintro ⟨a223_0, a223_1⟩ h223
  replace h223 : P9 a223_1 := h223
  cases a223_0
  · dsimp only
    refine pc_bind (P := (fun r => P9 r.2)) (q_f_X11_needFit h223) ?_
    rintro ⟨a224_0, a224_1⟩ h224
    replace h224 : P9 a224_1 := h224
    cases a224_0
    · dsimp only
      refine pc_ite ?_ ?_
      · refine pc_ite ?_ ?_
        · exact pc_some (show P9 _ from h224)
        · exact pc_none
      · refine pc_ite ?_ ?_
        · refine pc_ite ?_ ?_
          · exact pc_some (show P9 _ from h224)
          · exact pc_none
        · refine pc_ite ?_ ?_
          · refine pc_ite ?_ ?_
            · exact pc_some (show P9 _ from h224)
            · exact pc_none
          · refine pc_bind (P := (fun r => P9 r.2)) (q_f_X11_openNow h_qc h_qd h224) ?_
            rintro ⟨a225_0, a225_1⟩ h225
            replace h225 : P9 a225_1 := h225
            refine pc_bind (P := fun _ => True) pc_T ?_
            intro _ _
            refine pc_ite ?_ ?_
            · exact pc_some (show P9 _ from h225)
            · exact pc_some (show P9 _ from h225)
    · dsimp only
      exact pc_some (show P9 _ from h224)
  · dsimp only
    exact pc_some (show P9 _ from h223)
theorem q_L_X11_tallest_11 {qc : Nat} {qd : Nat} {x1 : Int32} (h_qc : qc ≠ 54) (h_qd : qd ≠ 54) : ∀ s, (fun r => P9 r.2) s → pc (sQ (fun r => P9 r.2) (sQ (fun r => P9 r.2) P9)) (L_X11_tallest_11 qc qd x1 s) := by
  rintro ⟨b0, b1⟩ hM
  replace hM : P9 b1 := hM
  unfold L_X11_tallest_11
  refine pc_ite ?_ ?_
  · exact pc_some (show P9 _ from hM)
  · refine pc_bind (P := P9) (q_f_X6_sail h_qc h_qd hM) ?_
    intro a226 h226
    refine pc_ite ?_ ?_
    · exact pc_some (show P9 _ from h226)
    · exact pc_some (show P9 _ from h226)
theorem q_f_X11_tallest {qc : Nat} {qd : Nat} {x1 : Int32} {M : Mem} (h_qc : qc ≠ 54) (h_qd : qd ≠ 54) (hM : P9 M) : pc (fun r => P9 r.2) (f_X11_tallest qc qd x1 M) := by
  unfold f_X11_tallest
  refine pc_bind (P := (fun r => P9 r.2)) (q_f_X11_needFit hM) ?_
  rintro ⟨a227_0, a227_1⟩ h227
  replace h227 : P9 a227_1 := h227
  cases a227_0
  · dsimp only
    refine pc_bind (P := (sQ (fun r => P9 r.2) P9)) (pc_wh (q_L_X11_tallest_11 h_qc h_qd) (show P9 _ from h227)) ?_
    intro ee he
    rcases ee with ee | ee
    · obtain ⟨a228_0, a228_1⟩ := ee
      have h228 : P9 a228_1 := he
      dsimp only
      exact pc_some (show P9 _ from h228)
    · have h229 : P9 ee := he
      dsimp only
      exact pc_some (show P9 _ from h229)
  · dsimp only
    exact pc_some (show P9 _ from h227)
theorem q_f_X11_told {qc : Nat} {qd : Nat} {x1 : Int32} {M : Mem} (h_qc : qc ≠ 54) (h_qd : qd ≠ 54) (hM : P9 M) : pc (fun r => P9 r.2) (f_X11_told qc qd x1 M) := by
  unfold f_X11_told
  refine pc_bind (P := (fun r => P9 r.2)) (q_f_X11_needFit hM) ?_
  rintro ⟨a230_0, a230_1⟩ h230
  replace h230 : P9 a230_1 := h230
  cases a230_0
  · dsimp only
    refine pc_ite ?_ ?_
    · exact pc_some (show P9 _ from h230)
    · refine pc_ite ?_ ?_
      · exact pc_some (show P9 _ from h230)
      · refine pc_ite ?_ ?_
        · exact pc_some (show P9 _ from h230)
        · refine pc_ite ?_ ?_
          · exact pc_some (show P9 _ from h230)
          · refine pc_ite ?_ ?_
            · refine pc_bind (P := (fun r => P9 r.2)) (q_f_X11_openNow h_qc h_qd h230) ?_
              rintro ⟨a231_0, a231_1⟩ h231
              replace h231 : P9 a231_1 := h231
              exact pc_some (show P9 _ from h231)
            · refine pc_ite ?_ ?_
              · refine pc_bind (P := fun _ => True) pc_T ?_
                intro _ _
                exact pc_some (show P9 _ from h230)
              · refine pc_ite ?_ ?_
                · refine pc_bind (P := fun _ => True) pc_T ?_
                  intro _ _
                  exact pc_some (show P9 _ from h230)
                · refine pc_ite ?_ ?_
                  · refine pc_bind (P := fun _ => True) pc_T ?_
                    intro _ _
                    exact pc_some (show P9 _ from h230)
                  · refine pc_ite ?_ ?_
                    · exact pc_some (show P9 _ from h230)
                    · exact pc_some (show P9 _ from h230)
  · dsimp only
    exact pc_some (show P9 _ from h230)
theorem q_f_X11_trip {qc : Nat} {qd : Nat} {x1 x2 x3 : Int32} {M : Mem} (h_qc : qc ≠ 54) (h_qd : qd ≠ 54) (hM : P9 M) : pc (fun r => P9 r.2) (f_X11_trip qc qd x1 x2 x3 M) := by
  unfold f_X11_trip
  refine pc_bind (P := (fun r => P9 r.2)) (q_f_X11_needMast hM) ?_
  rintro ⟨a232_0, a232_1⟩ h232
  replace h232 : P9 a232_1 := h232
  cases a232_0
  · dsimp only
    refine pc_bind (P := (fun r => P9 r.2)) (q_f_X11_needFit h232) ?_
    rintro ⟨a233_0, a233_1⟩ h233
    replace h233 : P9 a233_1 := h233
    cases a233_0
    · dsimp only
      refine pc_bind (P := (fun r => P9 r.2)) (q_f_X11_needFit h233) ?_
      rintro ⟨a234_0, a234_1⟩ h234
      replace h234 : P9 a234_1 := h234
      cases a234_0
      · dsimp only
        refine pc_bind (P := P9) (q_f_X6_sail h_qc h_qd h234) ?_
        intro a235 h235
        refine pc_ite ?_ ?_
        · exact pc_some (show P9 _ from h235)
        · refine pc_ite ?_ ?_
          · exact pc_some (show P9 _ from h235)
          · refine pc_bind (P := fun _ => True) pc_T ?_
            intro _ _
            exact pc_some (show P9 _ from h235)
      · dsimp only
        exact pc_some (show P9 _ from h234)
    · dsimp only
      exact pc_some (show P9 _ from h233)
  · dsimp only
    exact pc_some (show P9 _ from h232)
theorem q_f_X11_undo {M : Mem} (hM : P9 M) : pc (fun r => P9 r.2) (f_X11_undo M) := by
  unfold f_X11_undo
  refine pc_ite ?_ ?_
  · exact pc_some (show P9 _ from hM)
  · refine pc_bind (P := P9) (q_f_X7_bringBack hM) ?_
    intro a236 h236
    exact pc_some (show P9 _ from (P9_c (P9_c h236 (by decide)) (by decide)))
theorem q_f_X11_walk {qc : Nat} {qd : Nat} {x1 x2 x3 : Int32} {M : Mem} (h_qc : qc ≠ 54) (h_qd : qd ≠ 54) (hM : P9 M) : pc (fun r => P9 r.2) (f_X11_walk qc qd x1 x2 x3 M) := by
  unfold f_X11_walk
  refine pc_bind (P := (fun r => P9 r.2)) (q_f_X11_needBoard hM) ?_
  rintro ⟨a237_0, a237_1⟩ h237
  replace h237 : P9 a237_1 := h237
  cases a237_0
  · dsimp only
    refine pc_bind (P := (fun r => P9 r.2)) (q_f_X11_needBoard h237) ?_
    rintro ⟨a238_0, a238_1⟩ h238
    replace h238 : P9 a238_1 := h238
    cases a238_0
    · dsimp only
      refine pc_bind (P := (fun r => P9 r.2)) (q_f_X11_needFit h238) ?_
      rintro ⟨a239_0, a239_1⟩ h239
      replace h239 : P9 a239_1 := h239
      cases a239_0
      · dsimp only
        refine pc_bind (P := fun _ => True) pc_T ?_
        intro _ _
        refine pc_bind (P := (fun r => P9 r.2)) (q_f_X11_openNow h_qc h_qd h239) ?_
        rintro ⟨a240_0, a240_1⟩ h240
        replace h240 : P9 a240_1 := h240
        refine pc_ite ?_ ?_
        · refine pc_ite ?_ ?_
          · refine pc_bind (P := fun _ => True) pc_T ?_
            intro _ _
            exact pc_some (show P9 _ from h240)
          · refine pc_bind (P := fun _ => True) pc_T ?_
            intro _ _
            exact pc_some (show P9 _ from h240)
        · refine pc_ite ?_ ?_
          · refine pc_bind (P := fun _ => True) pc_T ?_
            intro _ _
            exact pc_some (show P9 _ from h240)
          · refine pc_bind (P := fun _ => True) pc_T ?_
            intro _ _
            exact pc_some (show P9 _ from h240)
      · dsimp only
        exact pc_some (show P9 _ from h239)
    · dsimp only
      exact pc_some (show P9 _ from h238)
  · dsimp only
    exact pc_some (show P9 _ from h237)
theorem q_L_X1_read_35  : ∀ s, (fun r => P9 r.2) s → pc (sQ (fun r => P9 r.2) P9) (L_X1_read_35 s) := by
  rintro ⟨b0, b1⟩ hM
  replace hM : P9 b1 := hM
  unfold L_X1_read_35
  refine pc_ite ?_ ?_
  · exact pc_some (show P9 _ from hM)
  · refine pc_ite ?_ ?_
    · refine pc_bind (P := (fun r => P9 r.2)) (q_f_X10_isAtEnd hM) ?_
      rintro ⟨a241_0, a241_1⟩ h241
      replace h241 : P9 a241_1 := h241
      refine pc_ite ?_ ?_
      · refine pc_bind (P := (fun r => P9 r.2)) (q_f_X10_word h241) ?_
        rintro ⟨a242_0, a242_1⟩ h242
        replace h242 : P9 a242_1 := h242
        refine pc_ite ?_ ?_
        · refine pc_bind (P := P9) (q_f_X1_readClause (q_f_X10_blame h242)) ?_
          intro a243 h243
          refine pc_bind (P := P9) (q_f_X10_expect h243) ?_
          intro a244 h244
          exact pc_some (show P9 _ from h244)
        · refine pc_bind (P := P9) (q_f_X1_readClause h242) ?_
          intro a245 h245
          refine pc_bind (P := P9) (q_f_X10_expect h245) ?_
          intro a246 h246
          exact pc_some (show P9 _ from h246)
      · exact pc_some (show P9 _ from h241)
    · exact pc_some (show P9 _ from hM)
theorem q_f_X1_read {M : Mem} (hM : P9 M) : pc P9 (f_X1_read M) := by
  unfold f_X1_read
  refine pc_bind (P := P9) (pc_wh (q_L_X1_read_35) (show P9 _ from (P9_fill (P9_c (P9_c (P9_c (P9_c (P9_c hM (by decide)) (by decide)) (by decide)) (by decide)) (by decide)) (by decide)))) ?_
  intro a247 h247
  exact pc_some (show P9 _ from h247)
theorem q_L_X5_weigh_31 {qs : Nat} {qn : Nat} {x1 : Int32} (h_qs : qs ≠ 54) (h_qn : qn ≠ 54) : ∀ s, (fun r => P9 r.2) s → pc (sQ (fun r => P9 r.2) P9) (L_X5_weigh_31 qs qn x1 s) := by
  rintro ⟨b0, b1⟩ hM
  replace hM : P9 b1 := hM
  unfold L_X5_weigh_31
  refine pc_ite ?_ ?_
  · exact pc_some (show P9 _ from hM)
  · refine pc_bind (P := P9) (q_f_X5_weighTo h_qs h_qn hM) ?_
    intro a248 h248
    exact pc_some (show P9 _ from h248)
theorem q_L_X5_weigh_18 {qs : Nat} {qn : Nat} (h_qs : qs ≠ 54) (h_qn : qn ≠ 54) : ∀ s, (fun r => P9 r.2) s → pc (sQ (fun r => P9 r.2) P9) (L_X5_weigh_18 qs qn s) := by
  rintro ⟨b0, b1⟩ hM
  replace hM : P9 b1 := hM
  unfold L_X5_weigh_18
  refine pc_ite ?_ ?_
  · exact pc_some (show P9 _ from hM)
  · refine pc_bind (P := P9) (pc_wh (q_L_X5_weigh_31 h_qs h_qn) (show P9 _ from hM)) ?_
    intro a249 h249
    exact pc_some (show P9 _ from h249)
theorem q_L_X5_weigh_73 {qs : Nat} {qn : Nat} {x1 : Int32} (h_qs : qs ≠ 54) (h_qn : qn ≠ 54) : ∀ s, (fun r => P9 r.2) s → pc (sQ (fun r => P9 r.2) P9) (L_X5_weigh_73 qs qn x1 s) := by
  rintro ⟨b0, b1⟩ hM
  replace hM : P9 b1 := hM
  unfold L_X5_weigh_73
  refine pc_ite ?_ ?_
  · exact pc_some (show P9 _ from hM)
  · refine pc_bind (P := P9) (q_f_X5_weighOn h_qs h_qn hM) ?_
    intro a250 h250
    exact pc_some (show P9 _ from h250)
theorem q_L_X5_weigh_67 {qs : Nat} {qn : Nat} (h_qs : qs ≠ 54) (h_qn : qn ≠ 54) : ∀ s, (fun r => P9 r.2) s → pc (sQ (fun r => P9 r.2) P9) (L_X5_weigh_67 qs qn s) := by
  rintro ⟨b0, b1⟩ hM
  replace hM : P9 b1 := hM
  unfold L_X5_weigh_67
  refine pc_ite ?_ ?_
  · exact pc_some (show P9 _ from hM)
  · refine pc_bind (P := P9) (pc_wh (q_L_X5_weigh_73 h_qs h_qn) (show P9 _ from hM)) ?_
    intro a251 h251
    exact pc_some (show P9 _ from h251)
theorem q_L_X5_weigh_120 {qs : Nat} {qn : Nat} (h_qs : qs ≠ 54) (h_qn : qn ≠ 54) : ∀ s, (fun r => P9 r.2) s → pc (sQ (fun r => P9 r.2) P9) (L_X5_weigh_120 qs qn s) := by
  rintro ⟨b0, b1⟩ hM
  replace hM : P9 b1 := hM
  unfold L_X5_weigh_120
  refine pc_ite ?_ ?_
  · exact pc_some (show P9 _ from hM)
  · refine pc_ite ?_ ?_
    · exact pc_some (show P9 _ from hM)
    · refine pc_bind (P := fun _ => True) pc_T ?_
      intro _ _
      exact pc_some (show P9 _ from (P9_c hM (by decide)))
theorem q_f_X5_weigh {qs : Nat} {qn : Nat} {M : Mem} (h_qs : qs ≠ 54) (h_qn : qn ≠ 54) (hM : P9 M) : pc P9 (f_X5_weigh qs qn M) := by
  unfold f_X5_weigh
  refine pc_bind (P := P9) (pc_wh (q_L_X5_weigh_18 h_qs h_qn) (show P9 _ from (P9_fill (P9_fill hM (by decide)) (by decide)))) ?_
  intro a252 h252
  refine pc_bind (P := P9) (pc_wh (q_L_X5_weigh_67 h_qs h_qn) (show P9 _ from h252)) ?_
  intro a253 h253
  refine pc_ite ?_ ?_
  · refine pc_bind (P := P9) (pc_wh (q_L_X5_weigh_120 h_qs h_qn) (show P9 _ from (P9_c h253 (by decide)))) ?_
    intro a254 h254
    exact pc_some (show P9 _ from h254)
  · refine pc_bind (P := P9) (pc_wh (q_L_X5_weigh_120 h_qs h_qn) (show P9 _ from (P9_c h253 (by decide)))) ?_
    intro a255 h255
    exact pc_some (show P9 _ from h255)
theorem q_f_X9_read {x2 : Int32} {M : Mem} (hM : P9 M) : pc P9 (f_X9_read x2 M) := by
  unfold f_X9_read
  refine pc_bind (P := P9) (q_f_X9_readRow (P9_c hM (by decide))) ?_
  intro a256 h256
  refine pc_bind (P := P9) (q_f_X10_expectEnd h256) ?_
  intro a257 h257
  exact pc_some (show P9 _ from h257)
theorem q_f_X9_run {qc : Nat} {qd : Nat} {M : Mem} (h_qc : qc ≠ 54) (h_qd : qd ≠ 54) (hM : P9 M) : pc (fun r => P9 r.2) (f_X9_run qc qd M) := by
  unfold f_X9_run
  refine pc_bind (P := P9) (q_f_X9_runRow h_qc h_qd (P9_c (P9_c (P9_c hM (by decide)) (by decide)) (by decide))) ?_
  intro a258 h258
  exact pc_some (show P9 _ from h258)
theorem q_f_X11_board {qc : Nat} {qd : Nat} {x1 x2 : Int32} {M : Mem} (h_qc : qc ≠ 54) (h_qd : qd ≠ 54) (hM : P9 M) : pc (fun r => P9 r.2) (f_X11_board qc qd x1 x2 M) := by
  unfold f_X11_board
  refine pc_bind (P := (fun r => P9 r.2)) (q_f_X11_needBoard hM) ?_
  rintro ⟨a259_0, a259_1⟩ h259
  replace h259 : P9 a259_1 := h259
  cases a259_0
  · dsimp only
    refine pc_bind (P := (fun r => P9 r.2)) (q_f_X11_needFit h259) ?_
    rintro ⟨a260_0, a260_1⟩ h260
    replace h260 : P9 a260_1 := h260
    cases a260_0
    · dsimp only
      refine pc_ite ?_ ?_
      · refine pc_ite ?_ ?_
        · exact pc_some (show P9 _ from h260)
        · exact pc_none
      · refine pc_ite ?_ ?_
        · refine pc_ite ?_ ?_
          · exact pc_some (show P9 _ from h260)
          · exact pc_none
        · refine pc_ite ?_ ?_
          · refine pc_ite ?_ ?_
            · exact pc_some (show P9 _ from h260)
            · exact pc_none
          · refine pc_ite ?_ ?_
            · refine pc_ite ?_ ?_
              · exact pc_some (show P9 _ from h260)
              · exact pc_none
            · refine pc_ite ?_ ?_
              · exact pc_some (show P9 _ from h260)
              · refine pc_ite ?_ ?_
                · refine pc_bind (P := (fun r => P9 r.2)) (q_f_X11_openNow h_qc h_qd h260) ?_
                  rintro ⟨a261_0, a261_1⟩ h261
                  replace h261 : P9 a261_1 := h261
                  exact pc_some (show P9 _ from h261)
                · refine pc_ite ?_ ?_
                  · refine pc_bind (P := fun _ => True) pc_T ?_
                    intro _ _
                    exact pc_some (show P9 _ from h260)
                  · refine pc_bind (P := fun _ => True) pc_T ?_
                    intro _ _
                    exact pc_some (show P9 _ from h260)
    · dsimp only
      exact pc_some (show P9 _ from h260)
  · dsimp only
    exact pc_some (show P9 _ from h259)
theorem q_L_X11_nose_21 {qs : Nat} {qn : Nat} (h_qs : qs ≠ 54) (h_qn : qn ≠ 54) : ∀ s, (fun r => P9 r.2.2.2) s → pc (sQ (fun r => P9 r.2.2.2) (fun r => P9 r.2.2)) (L_X11_nose_21 qs qn s) := by
  rintro ⟨b0, b1, b2, b3⟩ hM
  replace hM : P9 b3 := hM
  unfold L_X11_nose_21
  refine pc_ite ?_ ?_
  · exact pc_some (show P9 _ from hM)
  · refine pc_bind (P := fun _ => True) pc_T ?_
    intro _ _
    refine pc_ite ?_ ?_
    · refine pc_bind (P := (fun r => P9 r.2)) (q_f_X5_mostLeftBy hM) ?_
      rintro ⟨a262_0, a262_1⟩ h262
      replace h262 : P9 a262_1 := h262
      refine pc_ite ?_ ?_
      · exact pc_some (show P9 _ from h262)
      · refine pc_ite ?_ ?_
        · exact pc_some (show P9 _ from h262)
        · refine pc_ite ?_ ?_
          · exact pc_some (show P9 _ from h262)
          · exact pc_some (show P9 _ from h262)
    · exact pc_some (show P9 _ from hM)
theorem q_f_X11_nose {qs : Nat} {qn : Nat} {x1 : Int32} {M : Mem} (h_qs : qs ≠ 54) (h_qn : qn ≠ 54) (hM : P9 M) : pc (fun r => P9 r.2) (f_X11_nose qs qn x1 M) := by
  unfold f_X11_nose
  refine pc_bind (P := (fun r => P9 r.2)) (q_f_X11_needFit hM) ?_
  rintro ⟨a263_0, a263_1⟩ h263
  replace h263 : P9 a263_1 := h263
  cases a263_0
  · dsimp only
    refine pc_bind (P := P9) (q_f_X5_weigh h_qs h_qn h263) ?_
    intro a264 h264
    refine pc_bind (P := (fun r => P9 r.2.2)) (pc_wh (q_L_X11_nose_21 h_qs h_qn) (show P9 _ from h264)) ?_
    rintro ⟨a265_0, a265_1, a265_2⟩ h265
    replace h265 : P9 a265_2 := h265
    refine pc_ite ?_ ?_
    · exact pc_some (show P9 _ from h265)
    · exact pc_some (show P9 _ from h265)
  · dsimp only
    exact pc_some (show P9 _ from h263)
theorem q_f_X11_openers {qs : Nat} {qn : Nat} {x1 : Int32} {M : Mem} (h_qs : qs ≠ 54) (h_qn : qn ≠ 54) (hM : P9 M) : pc (fun r => P9 r.2) (f_X11_openers qs qn x1 M) := by
  unfold f_X11_openers
  refine pc_bind (P := (fun r => P9 r.2)) (q_f_X11_needFit hM) ?_
  rintro ⟨a266_0, a266_1⟩ h266
  replace h266 : P9 a266_1 := h266
  cases a266_0
  · dsimp only
    refine pc_bind (P := P9) (q_f_X5_weigh h_qs h_qn h266) ?_
    intro a267 h267
    refine pc_ite ?_ ?_
    · exact pc_some (show P9 _ from h267)
    · refine pc_ite ?_ ?_
      · refine pc_bind (P := fun _ => True) pc_T ?_
        intro _ _
        exact pc_some (show P9 _ from h267)
      · refine pc_ite ?_ ?_
        · refine pc_bind (P := fun _ => True) pc_T ?_
          intro _ _
          exact pc_some (show P9 _ from h267)
        · refine pc_bind (P := fun _ => True) pc_T ?_
          intro _ _
          exact pc_some (show P9 _ from h267)
  · dsimp only
    exact pc_some (show P9 _ from h266)
theorem q_L_X11_span_35 {qc : Nat} {qd : Nat} {x1 x2 x3 x4 : Int32} (h_qc : qc ≠ 54) (h_qd : qd ≠ 54) : ∀ s, (fun r => P9 r.2.2.2.2) s → pc (sQ (fun r => P9 r.2.2.2.2) (fun r => P9 r.2.2.2)) (L_X11_span_35 qc qd x1 x2 x3 x4 s) := by
  rintro ⟨b0, b1, b2, b3, b4⟩ hM
  replace hM : P9 b4 := hM
  unfold L_X11_span_35
  refine pc_ite ?_ ?_
  · exact pc_some (show P9 _ from hM)
  · refine pc_bind (P := P9) (q_f_X6_freeze h_qc h_qd hM) ?_
    intro a268 h268
    refine pc_bind (P := fun _ => True) pc_T ?_
    intro _ _
    refine pc_ite ?_ ?_
    · refine pc_bind (P := fun _ => True) pc_T ?_
      intro _ _
      refine pc_ite ?_ ?_
      · exact pc_some (show P9 _ from h268)
      · exact pc_some (show P9 _ from h268)
    · refine pc_bind (P := fun _ => True) pc_T ?_
      intro _ _
      refine pc_ite ?_ ?_
      · exact pc_some (show P9 _ from h268)
      · exact pc_some (show P9 _ from h268)
theorem q_f_X11_span {qc : Nat} {qd : Nat} {x1 x2 x3 x4 x5 : Int32} {M : Mem} (h_qc : qc ≠ 54) (h_qd : qd ≠ 54) (hM : P9 M) : pc (fun r => P9 r.2) (f_X11_span qc qd x1 x2 x3 x4 x5 M) := by
  unfold f_X11_span
  refine pc_bind (P := (fun r => P9 r.2)) (q_f_X11_needFit hM) ?_
  rintro ⟨a269_0, a269_1⟩ h269
  replace h269 : P9 a269_1 := h269
  cases a269_0
  · dsimp only
    refine pc_bind (P := (fun r => P9 r.2)) (q_f_X11_needWinter h269) ?_
    rintro ⟨a270_0, a270_1⟩ h270
    replace h270 : P9 a270_1 := h270
    cases a270_0
    · dsimp only
      refine pc_bind (P := (fun r => P9 r.2)) (q_f_X11_needFit h270) ?_
      rintro ⟨a271_0, a271_1⟩ h271
      replace h271 : P9 a271_1 := h271
      cases a271_0
      · dsimp only
        refine pc_bind (P := (fun r => P9 r.2.2.2)) (pc_wh (q_L_X11_span_35 h_qc h_qd) (show P9 _ from h271)) ?_
        rintro ⟨a272_0, a272_1, a272_2, a272_3⟩ h272
        replace h272 : P9 a272_3 := h272
        refine pc_ite ?_ ?_
        · exact pc_some (show P9 _ from h272)
        · refine pc_ite ?_ ?_
          · exact pc_some (show P9 _ from h272)
          · exact pc_some (show P9 _ from h272)
      · dsimp only
        exact pc_some (show P9 _ from h271)
    · dsimp only
      exact pc_some (show P9 _ from h270)
  · dsimp only
    exact pc_some (show P9 _ from h269)
theorem q_f_X11_winters {qc : Nat} {qd : Nat} {x1 x2 x3 x4 : Int32} {M : Mem} (h_qc : qc ≠ 54) (h_qd : qd ≠ 54) (hM : P9 M) : pc (fun r => P9 r.2) (f_X11_winters qc qd x1 x2 x3 x4 M) := by
  unfold f_X11_winters
  refine pc_bind (P := (fun r => P9 r.2)) (q_f_X11_needWinter hM) ?_
  rintro ⟨a273_0, a273_1⟩ h273
  replace h273 : P9 a273_1 := h273
  cases a273_0
  · dsimp only
    refine pc_bind (P := (fun r => P9 r.2)) (q_f_X11_needFit h273) ?_
    rintro ⟨a274_0, a274_1⟩ h274
    replace h274 : P9 a274_1 := h274
    cases a274_0
    · dsimp only
      refine pc_bind (P := P9) (q_f_X6_freeze h_qc h_qd h274) ?_
      intro a275 h275
      refine pc_ite ?_ ?_
      · refine pc_bind (P := fun _ => True) pc_T ?_
        intro _ _
        exact pc_some (show P9 _ from h275)
      · refine pc_ite ?_ ?_
        · refine pc_bind (P := fun _ => True) pc_T ?_
          intro _ _
          exact pc_some (show P9 _ from h275)
        · refine pc_ite ?_ ?_
          · exact pc_some (show P9 _ from h275)
          · refine pc_bind (P := fun _ => True) pc_T ?_
            intro _ _
            exact pc_some (show P9 _ from h275)
    · dsimp only
      exact pc_some (show P9 _ from h274)
  · dsimp only
    exact pc_some (show P9 _ from h273)
theorem q_f_X11_work {qc : Nat} {qd : Nat} {x1 : Int32} {M : Mem} (h_qc : qc ≠ 54) (h_qd : qd ≠ 54) (hM : P9 M) : pc (fun r => P9 r.2) (f_X11_work qc qd x1 M) := by
  unfold f_X11_work
  refine pc_bind (P := (fun r => P9 r.2)) (q_f_X11_takeText hM) ?_
  rintro ⟨a276_0, a276_1⟩ h276
  replace h276 : P9 a276_1 := h276
  cases a276_0
  · dsimp only
    refine pc_ite ?_ ?_
    · refine pc_bind (P := P9) (q_f_X9_read h276) ?_
      intro a277 h277
      refine pc_ite ?_ ?_
      · refine pc_bind (P := P9) (q_f_X7_keep h277) ?_
        intro a278 h278
        refine pc_bind (P := (fun r => P9 r.2)) (q_f_X9_run h_qc h_qd h278) ?_
        rintro ⟨a279_0, a279_1⟩ h279
        replace h279 : P9 a279_1 := h279
        exact pc_some (show P9 _ from (P9_c (P9_c h279 (by decide)) (by decide)))
      · exact pc_some (show P9 _ from h277)
    · exact pc_some (show P9 _ from h276)
  · dsimp only
    exact pc_some (show P9 _ from h276)
theorem q_L_X3_adoptDraft_33 {qc : Nat} {qd : Nat} (h_qc : qc ≠ 54) (h_qd : qd ≠ 54) : ∀ s, (fun r => P9 r.2) s → pc (sQ (fun r => P9 r.2) P9) (L_X3_adoptDraft_33 qc qd s) := by
  rintro ⟨b0, b1⟩ hM
  replace hM : P9 b1 := hM
  unfold L_X3_adoptDraft_33
  refine pc_ite ?_ ?_
  · exact pc_some (show P9 _ from hM)
  · refine pc_ite ?_ ?_
    · refine pc_ite ?_ ?_
      · refine pc_ite ?_ ?_
        · exact pc_some (show P9 _ from (P9_c hM (by decide)))
        · exact pc_some (show P9 _ from (P9_c hM (by decide)))
      · exact pc_none
    · exact pc_some (show P9 _ from (P9_c hM (by decide)))
theorem q_f_X3_adoptDraft {qc : Nat} {qd : Nat} {M : Mem} (h_qc : qc ≠ 54) (h_qd : qd ≠ 54) (hM : P9 M) : pc P9 (f_X3_adoptDraft qc qd M) := by
  unfold f_X3_adoptDraft
  refine pc_bind (P := P9) (pc_wh (q_L_X3_adoptDraft_33 h_qd h_qc) (show P9 _ from (P9_c (P9_c hM (by decide)) (by decide)))) ?_
  intro a280 h280
  exact pc_some (show P9 _ from h280)
theorem q_f_X3_beUntold {qc : Nat} {qd : Nat} {M : Mem} (h_qc : qc ≠ 54) (h_qd : qd ≠ 54) (hM : P9 M) : pc P9 (f_X3_beUntold qc qd M) := by
  unfold f_X3_beUntold
  refine pc_bind (P := P9) (q_f_X3_add h_qc h_qd (P9_c hM (by decide))) ?_
  intro a281 h281
  refine pc_bind (P := P9) (q_f_X3_add h_qc h_qd h281) ?_
  intro a282 h282
  refine pc_bind (P := P9) (q_f_X3_add h_qc h_qd h282) ?_
  intro a283 h283
  refine pc_bind (P := P9) (q_f_X3_add h_qc h_qd h283) ?_
  intro a284 h284
  refine pc_bind (P := P9) (q_f_X3_add h_qc h_qd h284) ?_
  intro a285 h285
  refine pc_bind (P := P9) (q_f_X3_add h_qc h_qd h285) ?_
  intro a286 h286
  refine pc_bind (P := P9) (q_f_X3_add h_qc h_qd h286) ?_
  intro a287 h287
  refine pc_bind (P := P9) (q_f_X3_add h_qc h_qd h287) ?_
  intro a288 h288
  refine pc_bind (P := P9) (q_f_X3_add h_qc h_qd h288) ?_
  intro a289 h289
  refine pc_bind (P := P9) (q_f_X3_adoptDraft h_qc h_qd h289) ?_
  intro a290 h290
  exact pc_some (show P9 _ from h290)
theorem q_f_X3_read {qc : Nat} {qd : Nat} {M : Mem} (h_qc : qc ≠ 54) (h_qd : qd ≠ 54) (hM : P9 M) : pc (fun r => P9 r.2) (f_X3_read qc qd M) := by
  unfold f_X3_read
  refine pc_bind (P := P9) (q_f_X3_readSum h_qc h_qd (P9_c hM (by decide))) ?_
  intro a291 h291
  refine pc_bind (P := P9) (q_f_X10_expectEnd h291) ?_
  intro a292 h292
  refine pc_ite ?_ ?_
  · refine pc_bind (P := P9) (q_f_X3_adoptDraft h_qc h_qd h292) ?_
    intro a293 h293
    exact pc_some (show P9 _ from h293)
  · exact pc_some (show P9 _ from h292)
theorem q_L_X5_readBook_10 {qs : Nat} {qn : Nat} (h_qs : qs ≠ 54) (h_qn : qn ≠ 54) : ∀ s, (fun r => P9 r.2) s → pc (sQ (fun r => P9 r.2) (fun r => P9 r.2)) (L_X5_readBook_10 qs qn s) := by
  rintro ⟨b0, b1⟩ hM
  replace hM : P9 b1 := hM
  unfold L_X5_readBook_10
  refine pc_ite ?_ ?_
  · exact pc_some (show P9 _ from hM)
  · refine pc_ite ?_ ?_
    · refine pc_bind (P := (fun r => P9 r.2)) (q_f_X10_isAtEnd hM) ?_
      rintro ⟨a294_0, a294_1⟩ h294
      replace h294 : P9 a294_1 := h294
      refine pc_ite ?_ ?_
      · refine pc_bind (P := P9) (q_f_X5_readLine h_qs h_qn h294) ?_
        intro a295 h295
        exact pc_some (show P9 _ from h295)
      · exact pc_some (show P9 _ from h294)
    · exact pc_some (show P9 _ from hM)
theorem q_f_X5_readBook {qs : Nat} {qn : Nat} {M : Mem} (h_qs : qs ≠ 54) (h_qn : qn ≠ 54) (hM : P9 M) : pc (fun r => P9 r.2) (f_X5_readBook qs qn M) := by
  unfold f_X5_readBook
  refine pc_bind (P := (fun r => P9 r.2)) (pc_wh (q_L_X5_readBook_10 h_qs h_qn) (show P9 _ from (P9_fill hM h_qn))) ?_
  rintro ⟨a296_0, a296_1⟩ h296
  replace h296 : P9 a296_1 := h296
  refine pc_ite ?_ ?_
  · exact pc_some (show P9 _ from (P9_c h296 (by decide)))
  · exact pc_some (show P9 _ from h296)
theorem q_f_X11_river {qc : Nat} {qd : Nat} {qs : Nat} {qn : Nat} {x1 : Int32} {M : Mem} (h_qc : qc ≠ 54) (h_qd : qd ≠ 54) (h_qs : qs ≠ 54) (h_qn : qn ≠ 54) (hM : P9 M) : pc (fun r => P9 r.2.2) (f_X11_river qc qd qs qn x1 M) := by
  unfold f_X11_river
  refine pc_bind (P := (fun r => P9 r.2)) (q_f_X11_takeText hM) ?_
  rintro ⟨a297_0, a297_1⟩ h297
  replace h297 : P9 a297_1 := h297
  cases a297_0
  · dsimp only
    refine pc_bind (P := P9) (q_f_X1_read h297) ?_
    intro a298 h298
    refine pc_ite ?_ ?_
    · refine pc_bind (P := P9) (q_f_X3_beUntold h_qc h_qd (P9_cp (P9_cp (P9_cp (P9_cp (P9_cp (P9_cp (P9_cp (P9_cp (P9_cp (P9_c (P9_c (P9_c (P9_c (P9_c h298 (by decide)) (by decide)) (by decide)) (by decide)) (by decide)) (by decide)) (by decide)) (by decide)) (by decide)) (by decide)) (by decide)) (by decide)) (by decide)) (by decide))) ?_
      intro a299 h299
      exact pc_some (show P9 _ from (P9_c (P9_c (P9_c (P9_c (P9_fill (P9_c (P9_fill h299 h_qs) (by decide)) (by decide)) (by decide)) (by decide)) (by decide)) (by decide)))
    · exact pc_some (show P9 _ from h298)
  · dsimp only
    exact pc_some (show P9 _ from h297)
theorem q_f_X11_law {qc : Nat} {qd : Nat} {x1 : Int32} {M : Mem} (h_qc : qc ≠ 54) (h_qd : qd ≠ 54) (hM : P9 M) : pc (fun r => P9 r.2.2) (f_X11_law qc qd x1 M) := by
  unfold f_X11_law
  refine pc_bind (P := (fun r => P9 r.2)) (q_f_X11_takeText hM) ?_
  rintro ⟨a300_0, a300_1⟩ h300
  replace h300 : P9 a300_1 := h300
  cases a300_0
  · dsimp only
    refine pc_bind (P := (fun r => P9 r.2)) (q_f_X3_read h_qc h_qd h300) ?_
    rintro ⟨a301_0, a301_1⟩ h301
    replace h301 : P9 a301_1 := h301
    cases a301_0
    · dsimp only
      refine pc_ite ?_ ?_
      · exact pc_some (show P9 _ from (P9_c h301 (by decide)))
      · exact pc_some (show P9 _ from h301)
    · dsimp only
      refine pc_ite ?_ ?_
      · exact pc_some (show P9 _ from (P9_c h301 (by decide)))
      · exact pc_some (show P9 _ from h301)
  · dsimp only
    exact pc_some (show P9 _ from h300)
theorem q_f_X11_book {qs : Nat} {qn : Nat} {x1 : Int32} {M : Mem} (h_qs : qs ≠ 54) (h_qn : qn ≠ 54) (hM : P9 M) : pc (fun r => P9 r.2.2) (f_X11_book qs qn x1 M) := by
  unfold f_X11_book
  refine pc_bind (P := (fun r => P9 r.2)) (q_f_X11_takeText hM) ?_
  rintro ⟨a302_0, a302_1⟩ h302
  replace h302 : P9 a302_1 := h302
  cases a302_0
  · dsimp only
    refine pc_bind (P := (fun r => P9 r.2)) (q_f_X5_readBook h_qs h_qn h302) ?_
    rintro ⟨a303_0, a303_1⟩ h303
    replace h303 : P9 a303_1 := h303
    cases a303_0
    · dsimp only
      refine pc_ite ?_ ?_
      · exact pc_some (show P9 _ from h303)
      · exact pc_some (show P9 _ from h303)
    · dsimp only
      refine pc_ite ?_ ?_
      · exact pc_some (show P9 _ from h303)
      · exact pc_some (show P9 _ from h303)
  · dsimp only
    exact pc_some (show P9 _ from h302)
