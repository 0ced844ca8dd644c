/-! KEPT BY EVERY CALL: the class's side -/
theorem P9_cp {M : Mem} {c0 r0 sp c1 r1 dp n : Nat} (h : P9 M) (hc : c1 ≠ 54) : P9 (am_cp M c0 r0 sp c1 r1 dp n) := by
  unfold P9
  rw [cp_c (Ne.symm hc)]; exact h
theorem P9_fill {M : Mem} {c n : Nat} {v : Int32} (h : P9 M) (hc : c ≠ 54) : P9 (fillM M c n v) := by
  unfold P9
  rw [fill_c 54 (by simpa using Ne.symm hc)]; exact h
theorem P9_ite {c : Prop} {i : Decidable c} {a b : Mem} (h1 : P9 a) (h2 : P9 b) : P9 (@ite _ c i a b) := by
  by_cases h : c
  · rw [if_pos h]; exact h1
  · rw [if_neg h]; exact h2
theorem q_f_X0_keepFirst {M : Mem} (h : P9 M) : P9 (f_X0_keepFirst M) := P9_ite (P9_cp h (by decide)) h
theorem q_f_X10_blame {x1 x2 : Int32} {M : Mem} (h : P9 M) : P9 (f_X10_blame x1 x2 M) := P9_ite (P9_c (P9_c h (by decide)) (by decide)) h
theorem q_f_X10_blameToken {x1 : Int32} {M : Mem} (h : P9 M) : P9 (f_X10_blameToken x1 M) := q_f_X10_blame h
theorem q_f_X10_take {x1 : Int32} {M : Mem} (h : P9 M) : P9 (f_X10_take x1 M) := P9_c (P9_c (P9_c (P9_c (P9_c h (by decide)) (by decide)) (by decide)) (by decide)) (by decide)
theorem q_f_X1_copyFrom {M : Mem} (h : P9 M) : P9 (f_X1_copyFrom M) := P9_cp (P9_cp (P9_cp (P9_cp (P9_cp (P9_cp (P9_cp (P9_cp (P9_cp (P9_c (P9_c (P9_c (P9_c (P9_c h (by decide)) (by decide)) (by decide)) (by decide)) (by decide)) (by decide)) (by decide)) (by decide)) (by decide)) (by decide)) (by decide)) (by decide)) (by decide)) (by decide)
theorem q_f_X3_isNestedDeeper {x1 : Int32} {M : Mem} (h : P9 M) : P9 (f_X3_isNestedDeeper x1 M).2 := by
  unfold f_X3_isNestedDeeper
  split
  · split
    · exact q_f_X10_blame h
    · exact q_f_X10_blame h
  · split
    · exact h
    · exact h
theorem q_f_X5_clearBook {qs qn : Nat} {M : Mem} (h_qs : qs ≠ 54) (h_qn : qn ≠ 54) (h : P9 M) : P9 (f_X5_clearBook qs qn M) := P9_c (P9_fill h h_qs) (by decide)
theorem q_f_X6_forget {M : Mem} (h : P9 M) : P9 (f_X6_forget M) := P9_c h (by decide)
theorem q_f_X7_clear {M : Mem} (h : P9 M) : P9 (f_X7_clear M) := P9_c (P9_c h (by decide)) (by decide)
theorem q_f_X8_addHour {q1 : Nat} {M : Mem} (h_q1 : q1 ≠ 54) (h : P9 M) : P9 (f_X8_addHour q1 M) := P9_c h h_q1
theorem q_f_X8_clear {q1 : Nat} {M : Mem} (h_q1 : q1 ≠ 54) (h : P9 M) : P9 (f_X8_clear q1 M) := P9_fill h h_q1
theorem q_f_X8_setMode {q1 : Nat} {x1 x2 : Int32} {M : Mem} (h_q1 : q1 ≠ 54) (h : P9 M) : P9 (f_X8_setMode q1 x1 x2 M) := P9_ite (P9_ite (P9_c (P9_c h h_q1) h_q1) (P9_c (P9_c h h_q1) h_q1)) (P9_ite (P9_c (P9_c h h_q1) h_q1) (P9_c (P9_c h h_q1) h_q1))
theorem q_L_X10_next_0  : ∀ s, P9 s → pc (sQ P9 P9) (L_X10_next_0 s) := by
  intro M0 hM
  unfold L_X10_next_0
  refine pc_ite ?_ ?_
  · exact pc_some (show P9 _ from hM)
  · refine pc_ite ?_ ?_
    · refine pc_ite ?_ ?_
      · exact pc_some (show P9 _ from (P9_c hM (by decide)))
      · exact pc_some (show P9 _ from hM)
    · exact pc_none
theorem q_f_X10_next {M : Mem} (hM : P9 M) : pc (fun r => P9 r.2) (f_X10_next M) := by
  unfold f_X10_next
  refine pc_bind (P := P9) (pc_wh (q_L_X10_next_0) (show P9 _ from hM)) ?_
  intro a1 h1
  refine pc_ite ?_ ?_
  · exact pc_some (show P9 _ from h1)
  · refine pc_ite ?_ ?_
    · exact pc_some (show P9 _ from h1)
    · exact pc_none
theorem q_L_X10_number_15  : ∀ s, (fun r => P9 r.2) s → pc (sQ (fun r => P9 r.2) (fun r => P9 r.2)) (L_X10_number_15 s) := by
  rintro ⟨b0, b1⟩ hM
  replace hM : P9 b1 := hM
  unfold L_X10_number_15
  refine pc_ite ?_ ?_
  · exact pc_some (show P9 _ from hM)
  · refine pc_ite ?_ ?_
    · refine pc_ite ?_ ?_
      · exact pc_some (show P9 _ from hM)
      · refine pc_ite ?_ ?_
        · exact pc_some (show P9 _ from hM)
        · exact pc_some (show P9 _ from (P9_c hM (by decide)))
    · exact pc_none
theorem q_f_X10_number {x1 x2 : Int32} {M : Mem} (hM : P9 M) : pc (fun r => P9 r.2) (f_X10_number x1 x2 M) := by
  unfold f_X10_number
  refine pc_bind (P := (fun r => P9 r.2)) (q_f_X10_next hM) ?_
  rintro ⟨a2_0, a2_1⟩ h2
  replace h2 : P9 a2_1 := h2
  refine pc_bind (P := (fun r => P9 r.2)) (pc_wh (q_L_X10_number_15) (show P9 _ from (P9_c h2 (by decide)))) ?_
  rintro ⟨a3_0, a3_1⟩ h3
  replace h3 : P9 a3_1 := h3
  refine pc_ite ?_ ?_
  · refine pc_ite ?_ ?_
    · exact pc_some (show P9 _ from (q_f_X10_blame h3))
    · exact pc_some (show P9 _ from (q_f_X10_blame h3))
  · refine pc_ite ?_ ?_
    · refine pc_ite ?_ ?_
      · exact pc_some (show P9 _ from (q_f_X10_blame h3))
      · exact pc_some (show P9 _ from (q_f_X10_blame h3))
    · refine pc_ite ?_ ?_
      · refine pc_ite ?_ ?_
        · exact pc_some (show P9 _ from h3)
        · exact pc_some (show P9 _ from h3)
      · refine pc_ite ?_ ?_
        · exact pc_some (show P9 _ from (q_f_X10_blame h3))
        · exact pc_some (show P9 _ from (q_f_X10_blame h3))
theorem q_L_X10_put_3 {x1 : Int32} : ∀ s, (fun r => P9 r.2) s → pc (sQ (fun r => P9 r.2) P9) (L_X10_put_3 x1 s) := by
  rintro ⟨b0, b1⟩ hM
  replace hM : P9 b1 := hM
  unfold L_X10_put_3
  refine pc_ite ?_ ?_
  · exact pc_some (show P9 _ from hM)
  · refine pc_ite ?_ ?_
    · exact pc_some (show P9 _ from hM)
    · refine pc_ite ?_ ?_
      · exact pc_some (show P9 _ from (P9_c (P9_c hM (by decide)) (by decide)))
      · exact pc_none
theorem q_f_X10_put {x1 : Int32} {M : Mem} (hM : P9 M) : pc P9 (f_X10_put x1 M) := by
  unfold f_X10_put
  refine pc_bind (P := P9) (pc_wh (q_L_X10_put_3) (show P9 _ from hM)) ?_
  intro a4 h4
  exact pc_some (show P9 _ from h4)
theorem q_f_X11_feed {x1 x2 x3 x4 x5 : Int32} {M : Mem} (hM : P9 M) : pc (fun r => P9 r.2) (f_X11_feed x1 x2 x3 x4 x5 M) := by
  unfold f_X11_feed
  refine pc_ite ?_ ?_
  · exact pc_some (show P9 _ from hM)
  · refine pc_bind (P := P9) (q_f_X10_put hM) ?_
    intro a5 h5
    refine pc_bind (P := P9) (q_f_X10_put h5) ?_
    intro a6 h6
    refine pc_bind (P := P9) (q_f_X10_put h6) ?_
    intro a7 h7
    refine pc_bind (P := P9) (q_f_X10_put h7) ?_
    intro a8 h8
    refine pc_bind (P := P9) (q_f_X10_put h8) ?_
    intro a9 h9
    exact pc_some (show P9 _ from h9)
theorem q_f_X11_needFit {x1 x2 x3 : Int32} {M : Mem} (hM : P9 M) : pc (fun r => P9 r.2) (f_X11_needFit x1 x2 x3 M) := by
  unfold f_X11_needFit
  refine pc_ite ?_ ?_
  · exact pc_some (show P9 _ from (P9_c hM (by decide)))
  · refine pc_ite ?_ ?_
    · exact pc_some (show P9 _ from hM)
    · exact pc_some (show P9 _ from (P9_c hM (by decide)))
theorem q_f_X11_needMast {x1 : Int32} {M : Mem} (hM : P9 M) : pc (fun r => P9 r.2) (f_X11_needMast x1 M) := by
  unfold f_X11_needMast
  refine pc_bind (P := (fun r => P9 r.2)) (q_f_X11_needFit hM) ?_
  rintro ⟨a10_0, a10_1⟩ h10
  replace h10 : P9 a10_1 := h10
  cases a10_0
  · dsimp only
    exact pc_some (show P9 _ from h10)
  · dsimp only
    exact pc_some (show P9 _ from h10)
theorem q_f_X11_needThere {x1 x2 : Int32} {M : Mem} (hM : P9 M) : pc (fun r => P9 r.2) (f_X11_needThere x1 x2 M) := by
  unfold f_X11_needThere
  refine pc_ite ?_ ?_
  · exact pc_some (show P9 _ from (P9_c hM (by decide)))
  · refine pc_ite ?_ ?_
    · exact pc_some (show P9 _ from hM)
    · exact pc_some (show P9 _ from (P9_c hM (by decide)))
theorem q_f_X11_needWinter {x1 x2 : Int32} {M : Mem} (hM : P9 M) : pc (fun r => P9 r.2) (f_X11_needWinter x1 x2 M) := by
  unfold f_X11_needWinter
  refine pc_bind (P := (fun r => P9 r.2)) (q_f_X11_needFit hM) ?_
  rintro ⟨a11_0, a11_1⟩ h11
  replace h11 : P9 a11_1 := h11
  cases a11_0
  · dsimp only
    refine pc_bind (P := (fun r => P9 r.2)) (q_f_X11_needFit h11) ?_
    rintro ⟨a12_0, a12_1⟩ h12
    replace h12 : P9 a12_1 := h12
    cases a12_0
    · dsimp only
      exact pc_some (show P9 _ from h12)
    · dsimp only
      exact pc_some (show P9 _ from h12)
  · dsimp only
    exact pc_some (show P9 _ from h11)
theorem q_f_X11_takeText {x1 x2 : Int32} {M : Mem} (hM : P9 M) : pc (fun r => P9 r.2) (f_X11_takeText x1 x2 M) := by
  unfold f_X11_takeText
  refine pc_bind (P := (fun r => P9 r.2)) (q_f_X11_needFit hM) ?_
  rintro ⟨a13_0, a13_1⟩ h13
  replace h13 : P9 a13_1 := h13
  cases a13_0
  · dsimp only
    exact pc_some (show P9 _ from (P9_c (P9_c (P9_c (P9_c (P9_c h13 (by decide)) (by decide)) (by decide)) (by decide)) (by decide)))
  · dsimp only
    exact pc_some (show P9 _ from h13)
theorem q_f_X1_readBarge {M : Mem} (hM : P9 M) : pc P9 (f_X1_readBarge M) := by
  unfold f_X1_readBarge
  refine pc_ite ?_ ?_
  · refine pc_bind (P := (fun r => P9 r.2)) (q_f_X10_number (q_f_X10_blame hM)) ?_
    rintro ⟨a14_0, a14_1⟩ h14
    replace h14 : P9 a14_1 := h14
    refine pc_bind (P := (fun r => P9 r.2)) (q_f_X10_number h14) ?_
    rintro ⟨a15_0, a15_1⟩ h15
    replace h15 : P9 a15_1 := h15
    refine pc_ite ?_ ?_
    · refine pc_ite ?_ ?_
      · exact pc_some (show P9 _ from (P9_c (P9_c (P9_c h15 (by decide)) (by decide)) (by decide)))
      · exact pc_none
    · exact pc_some (show P9 _ from h15)
  · refine pc_bind (P := (fun r => P9 r.2)) (q_f_X10_number hM) ?_
    rintro ⟨a16_0, a16_1⟩ h16
    replace h16 : P9 a16_1 := h16
    refine pc_bind (P := (fun r => P9 r.2)) (q_f_X10_number h16) ?_
    rintro ⟨a17_0, a17_1⟩ h17
    replace h17 : P9 a17_1 := h17
    refine pc_ite ?_ ?_
    · refine pc_ite ?_ ?_
      · exact pc_some (show P9 _ from (P9_c (P9_c (P9_c h17 (by decide)) (by decide)) (by decide)))
      · exact pc_none
    · exact pc_some (show P9 _ from h17)
theorem q_f_X1_readBoard {M : Mem} (hM : P9 M) : pc P9 (f_X1_readBoard M) := by
  unfold f_X1_readBoard
  refine pc_ite ?_ ?_
  · refine pc_bind (P := (fun r => P9 r.2)) (q_f_X10_number (q_f_X10_blame hM)) ?_
    rintro ⟨a18_0, a18_1⟩ h18
    replace h18 : P9 a18_1 := h18
    refine pc_bind (P := (fun r => P9 r.2)) (q_f_X10_number h18) ?_
    rintro ⟨a19_0, a19_1⟩ h19
    replace h19 : P9 a19_1 := h19
    refine pc_bind (P := (fun r => P9 r.2)) (q_f_X10_number h19) ?_
    rintro ⟨a20_0, a20_1⟩ h20
    replace h20 : P9 a20_1 := h20
    refine pc_ite ?_ ?_
    · refine pc_ite ?_ ?_
      · exact pc_some (show P9 _ from (P9_c (P9_c (P9_c (P9_c h20 (by decide)) (by decide)) (by decide)) (by decide)))
      · exact pc_none
    · exact pc_some (show P9 _ from h20)
  · refine pc_bind (P := (fun r => P9 r.2)) (q_f_X10_number hM) ?_
    rintro ⟨a21_0, a21_1⟩ h21
    replace h21 : P9 a21_1 := h21
    refine pc_bind (P := (fun r => P9 r.2)) (q_f_X10_number h21) ?_
    rintro ⟨a22_0, a22_1⟩ h22
    replace h22 : P9 a22_1 := h22
    refine pc_bind (P := (fun r => P9 r.2)) (q_f_X10_number h22) ?_
    rintro ⟨a23_0, a23_1⟩ h23
    replace h23 : P9 a23_1 := h23
    refine pc_ite ?_ ?_
    · refine pc_ite ?_ ?_
      · exact pc_some (show P9 _ from (P9_c (P9_c (P9_c (P9_c h23 (by decide)) (by decide)) (by decide)) (by decide)))
      · exact pc_none
    · exact pc_some (show P9 _ from h23)
theorem q_f_X1_readFish {M : Mem} (hM : P9 M) : pc P9 (f_X1_readFish M) := by
  unfold f_X1_readFish
  refine pc_bind (P := (fun r => P9 r.2)) (q_f_X10_number hM) ?_
  rintro ⟨a24_0, a24_1⟩ h24
  replace h24 : P9 a24_1 := h24
  refine pc_bind (P := (fun r => P9 r.2)) (q_f_X10_number h24) ?_
  rintro ⟨a25_0, a25_1⟩ h25
  replace h25 : P9 a25_1 := h25
  refine pc_ite ?_ ?_
  · refine pc_ite ?_ ?_
    · exact pc_some (show P9 _ from (P9_c h25 (by decide)))
    · exact pc_none
  · exact pc_some (show P9 _ from h25)
theorem q_f_X1_readStreet {M : Mem} (hM : P9 M) : pc P9 (f_X1_readStreet M) := by
  unfold f_X1_readStreet
  refine pc_ite ?_ ?_
  · refine pc_bind (P := (fun r => P9 r.2)) (q_f_X10_number (q_f_X10_blame hM)) ?_
    rintro ⟨a26_0, a26_1⟩ h26
    replace h26 : P9 a26_1 := h26
    refine pc_bind (P := (fun r => P9 r.2)) (q_f_X10_number h26) ?_
    rintro ⟨a27_0, a27_1⟩ h27
    replace h27 : P9 a27_1 := h27
    refine pc_bind (P := (fun r => P9 r.2)) (q_f_X10_number h27) ?_
    rintro ⟨a28_0, a28_1⟩ h28
    replace h28 : P9 a28_1 := h28
    refine pc_ite ?_ ?_
    · refine pc_ite ?_ ?_
      · exact pc_some (show P9 _ from (P9_c (P9_c (P9_c (P9_c h28 (by decide)) (by decide)) (by decide)) (by decide)))
      · exact pc_none
    · exact pc_some (show P9 _ from h28)
  · refine pc_bind (P := (fun r => P9 r.2)) (q_f_X10_number hM) ?_
    rintro ⟨a29_0, a29_1⟩ h29
    replace h29 : P9 a29_1 := h29
    refine pc_bind (P := (fun r => P9 r.2)) (q_f_X10_number h29) ?_
    rintro ⟨a30_0, a30_1⟩ h30
    replace h30 : P9 a30_1 := h30
    refine pc_bind (P := (fun r => P9 r.2)) (q_f_X10_number h30) ?_
    rintro ⟨a31_0, a31_1⟩ h31
    replace h31 : P9 a31_1 := h31
    refine pc_ite ?_ ?_
    · refine pc_ite ?_ ?_
      · exact pc_some (show P9 _ from (P9_c (P9_c (P9_c (P9_c h31 (by decide)) (by decide)) (by decide)) (by decide)))
      · exact pc_none
    · exact pc_some (show P9 _ from h31)
theorem q_L_X2_drain_2 {x1 x2 : Int32} : ∀ s, (fun r => P9 r.2) s → pc (sQ (fun r => P9 r.2) P9) (L_X2_drain_2 x1 x2 s) := by
  rintro ⟨b0, b1⟩ hM
  replace hM : P9 b1 := hM
  unfold L_X2_drain_2
  refine pc_ite ?_ ?_
  · exact pc_some (show P9 _ from hM)
  · refine pc_ite ?_ ?_
    · refine pc_ite ?_ ?_
      · exact pc_some (show P9 _ from hM)
      · refine pc_ite ?_ ?_
        · exact pc_some (show P9 _ from hM)
        · exact pc_some (show P9 _ from (P9_c hM (by decide)))
    · exact pc_none
theorem q_f_X2_drain {x1 x2 : Int32} {M : Mem} (hM : P9 M) : pc P9 (f_X2_drain x1 x2 M) := by
  unfold f_X2_drain
  refine pc_bind (P := P9) (pc_wh (q_L_X2_drain_2) (show P9 _ from hM)) ?_
  intro a32 h32
  exact pc_some (show P9 _ from h32)
theorem q_f_X3_add {qc : Nat} {qd : Nat} {x1 : Int32} {M : Mem} (h_qc : qc ≠ 54) (h_qd : qd ≠ 54) (hM : P9 M) : pc P9 (f_X3_add qc qd x1 M) := by
  unfold f_X3_add
  refine pc_ite ?_ ?_
  · exact pc_some (show P9 _ from hM)
  · refine pc_ite ?_ ?_
    · exact pc_some (show P9 _ from (P9_c (P9_c hM h_qd) (by decide)))
    · exact pc_none
theorem q_L_X3_value_91 {qc : Nat} {qd : Nat} (h_qc : qc ≠ 54) (h_qd : qd ≠ 54) : ∀ s, (fun r => P9 r.2.2) s → pc (sQ (fun r => P9 r.2.2) P9) (L_X3_value_91 qc qd s) := by
  rintro ⟨b0, b1, b2⟩ hM
  replace hM : P9 b2 := hM
  unfold L_X3_value_91
  refine pc_ite ?_ ?_
  · exact pc_some (show P9 _ from hM)
  · refine pc_ite ?_ ?_
    · refine pc_ite ?_ ?_
      · refine pc_ite ?_ ?_
        · refine pc_ite ?_ ?_
          · refine pc_ite ?_ ?_
            · refine pc_bind (P := fun _ => True) pc_T ?_
              intro _ _
              exact pc_some (show P9 _ from (P9_c hM (by decide)))
            · exact pc_none
          · exact pc_none
        · refine pc_ite ?_ ?_
          · refine pc_ite ?_ ?_
            · exact pc_some (show P9 _ from (P9_c hM (by decide)))
            · exact pc_none
          · exact pc_none
      · refine pc_ite ?_ ?_
        · exact pc_some (show P9 _ from (P9_c hM (by decide)))
        · exact pc_none
    · exact pc_none
theorem q_f_X3_value {qc : Nat} {qd : Nat} {x2 x3 x4 : Int32} {M : Mem} (h_qc : qc ≠ 54) (h_qd : qd ≠ 54) (hM : P9 M) : pc (fun r => P9 r.2) (f_X3_value qc qd x2 x3 x4 M) := by
  unfold f_X3_value
  refine pc_ite ?_ ?_
  · refine pc_bind (P := P9) (pc_wh (q_L_X3_value_91 h_qc h_qd) (show P9 _ from (P9_c (P9_c (P9_c (P9_c (P9_c (P9_c (P9_c (P9_c hM (by decide)) (by decide)) (by decide)) (by decide)) (by decide)) (by decide)) (by decide)) (by decide)))) ?_
    intro a33 h33
    exact pc_some (show P9 _ from h33)
  · exact pc_none
theorem q_f_X4_isDue {qc : Nat} {qd : Nat} {x1 x2 x3 : Int32} {M : Mem} (h_qc : qc ≠ 54) (h_qd : qd ≠ 54) (hM : P9 M) : pc (fun r => P9 r.2) (f_X4_isDue qc qd x1 x2 x3 M) := by
  unfold f_X4_isDue
  refine pc_bind (P := (fun r => P9 r.2)) (q_f_X3_value h_qc h_qd hM) ?_
  rintro ⟨a34_0, a34_1⟩ h34
  replace h34 : P9 a34_1 := h34
  refine pc_ite ?_ ?_
  · exact pc_some (show P9 _ from h34)
  · exact pc_some (show P9 _ from h34)
theorem q_L_X6_drawFrozen_4 {x1 : Int32} : ∀ s, (fun r => P9 r.2.2) s → pc (sQ (fun r => P9 r.2.2) (fun r => P9 r.2)) (L_X6_drawFrozen_4 x1 s) := by
  rintro ⟨b0, b1, b2⟩ hM
  replace hM : P9 b2 := hM
  unfold L_X6_drawFrozen_4
  refine pc_ite ?_ ?_
  · exact pc_some (show P9 _ from hM)
  · refine pc_ite ?_ ?_
    · exact pc_some (show P9 _ from (P9_c hM (by decide)))
    · exact pc_some (show P9 _ from (P9_c hM (by decide)))
theorem q_f_X6_drawFrozen {x1 : Int32} {M : Mem} (hM : P9 M) : pc (fun r => P9 r.2) (f_X6_drawFrozen x1 M) := by
  unfold f_X6_drawFrozen
  refine pc_bind (P := (fun r => P9 r.2)) (pc_wh (q_L_X6_drawFrozen_4) (show P9 _ from hM)) ?_
  rintro ⟨a35_0, a35_1⟩ h35
  replace h35 : P9 a35_1 := h35
  exact pc_some (show P9 _ from h35)
theorem q_f_X8_come {q1 : Nat} {x1 : Int32} {M : Mem} (h_q1 : q1 ≠ 54) (hM : P9 M) : pc P9 (f_X8_come q1 x1 M) := by
  unfold f_X8_come
  refine pc_ite ?_ ?_
  · exact pc_some (show P9 _ from (P9_c hM h_q1))
  · exact pc_none
theorem q_L_X8_fine_2 {q1 : Nat} {x1 : Int32} (h_q1 : q1 ≠ 54) : ∀ s, (fun r => P9 r.2) s → pc (sQ (fun r => P9 r.2) P9) (L_X8_fine_2 q1 x1 s) := by
  rintro ⟨b0, b1⟩ hM
  replace hM : P9 b1 := hM
  unfold L_X8_fine_2
  refine pc_ite ?_ ?_
  · exact pc_some (show P9 _ from hM)
  · refine pc_ite ?_ ?_
    · exact pc_some (show P9 _ from (P9_c hM h_q1))
    · exact pc_none
theorem q_f_X8_fine {q1 : Nat} {x1 : Int32} {M : Mem} (h_q1 : q1 ≠ 54) (hM : P9 M) : pc P9 (f_X8_fine q1 x1 M) := by
  unfold f_X8_fine
  refine pc_bind (P := P9) (pc_wh (q_L_X8_fine_2 h_q1) (show P9 _ from hM)) ?_
  intro a36 h36
  exact pc_some (show P9 _ from h36)
theorem q_f_X8_knock {q1 : Nat} {x1 : Int32} {M : Mem} (h_q1 : q1 ≠ 54) (hM : P9 M) : pc P9 (f_X8_knock q1 x1 M) := by
  unfold f_X8_knock
  refine pc_ite ?_ ?_
  · exact pc_some (show P9 _ from (P9_c hM h_q1))
  · exact pc_none
theorem q_f_X8_leave {q1 : Nat} {x1 : Int32} {M : Mem} (h_q1 : q1 ≠ 54) (hM : P9 M) : pc P9 (f_X8_leave q1 x1 M) := by
  unfold f_X8_leave
  refine pc_ite ?_ ?_
  · refine pc_ite ?_ ?_
    · exact pc_some (show P9 _ from (P9_c (P9_c hM h_q1) h_q1))
    · exact pc_none
  · exact pc_none
theorem q_f_X8_pass {q1 : Nat} {x1 x2 : Int32} {M : Mem} (h_q1 : q1 ≠ 54) (hM : P9 M) : pc P9 (f_X8_pass q1 x1 x2 M) := by
  unfold f_X8_pass
  refine pc_ite ?_ ?_
  · exact pc_some (show P9 _ from (P9_c hM h_q1))
  · exact pc_none
theorem q_f_X8_writeTo_t {x2 : Int32} {M : Mem} (hM : P9 M) : pc P9 (f_X8_writeTo_t x2 M) := by
  unfold f_X8_writeTo_t
  refine pc_ite ?_ ?_
  · refine pc_ite ?_ ?_
    · exact pc_some (show P9 _ from (P9_cp hM (by decide)))
    · exact pc_none
  · exact pc_none
theorem q_f_X8_writeTo_p {x2 : Int32} {M : Mem} (hM : P9 M) : pc P9 (f_X8_writeTo_p x2 M) := by
  unfold f_X8_writeTo_p
  refine pc_ite ?_ ?_
  · refine pc_ite ?_ ?_
    · exact pc_some (show P9 _ from (P9_cp hM (by decide)))
    · exact pc_none
  · exact pc_none
theorem q_f_X8_writeTo_i {r1 : Nat} {x2 : Int32} {M : Mem} (hM : P9 M) : pc P9 (f_X8_writeTo_i r1 x2 M) := by
  unfold f_X8_writeTo_i
  refine pc_ite ?_ ?_
  · refine pc_ite ?_ ?_
    · exact pc_some (show P9 _ from (P9_cp hM (by decide)))
    · exact pc_none
  · exact pc_none
theorem q_f_X8_readFrom_p {x2 : Int32} {M : Mem} (hM : P9 M) : pc P9 (f_X8_readFrom_p x2 M) := by
  unfold f_X8_readFrom_p
  refine pc_ite ?_ ?_
  · refine pc_ite ?_ ?_
    · exact pc_some (show P9 _ from (P9_cp hM (by decide)))
    · exact pc_none
  · exact pc_none
theorem q_f_X8_readFrom_i {r1 : Nat} {x2 : Int32} {M : Mem} (hM : P9 M) : pc P9 (f_X8_readFrom_i r1 x2 M) := by
  unfold f_X8_readFrom_i
  refine pc_ite ?_ ?_
  · refine pc_ite ?_ ?_
    · exact pc_some (show P9 _ from (P9_cp hM (by decide)))
    · exact pc_none
  · exact pc_none
theorem q_L_X10_word_13  : ∀ s, P9 s → pc (sQ P9 P9) (L_X10_word_13 s) := by
  intro M0 hM
  unfold L_X10_word_13
  refine pc_ite ?_ ?_
  · exact pc_some (show P9 _ from hM)
  · refine pc_ite ?_ ?_
    · refine pc_ite ?_ ?_
      · exact pc_some (show P9 _ from hM)
      · refine pc_ite ?_ ?_
        · exact pc_some (show P9 _ from hM)
        · exact pc_some (show P9 _ from (P9_c hM (by decide)))
    · exact pc_none
theorem q_f_X10_word {k1 : Nat} {M : Mem} (hM : P9 M) : pc (fun r => P9 r.2) (f_X10_word k1 M) := by
  unfold f_X10_word
  refine pc_bind (P := (fun r => P9 r.2)) (q_f_X10_next hM) ?_
  rintro ⟨a37_0, a37_1⟩ h37
  replace h37 : P9 a37_1 := h37
  refine pc_bind (P := P9) (pc_wh (q_L_X10_word_13) (show P9 _ from (P9_c h37 (by decide)))) ?_
  intro a38 h38
  refine pc_bind (P := fun _ => True) pc_T ?_
  intro _ _
  refine pc_ite ?_ ?_
  · refine pc_ite ?_ ?_
    · exact pc_some (show P9 _ from (q_f_X10_blame h38))
    · exact pc_some (show P9 _ from (q_f_X10_blame h38))
  · refine pc_ite ?_ ?_
    · exact pc_some (show P9 _ from h38)
    · exact pc_some (show P9 _ from h38)
theorem q_f_X10_takeOneOf {k1 : Nat} {M : Mem} (hM : P9 M) : pc (fun r => P9 r.2) (f_X10_takeOneOf k1 M) := by
  unfold f_X10_takeOneOf
  refine pc_bind (P := (fun r => P9 r.2)) (q_f_X10_next hM) ?_
  rintro ⟨a39_0, a39_1⟩ h39
  replace h39 : P9 a39_1 := h39
  refine pc_bind (P := fun _ => True) pc_T ?_
  intro ee he
  rcases ee with ee | ee
  · skip
    exact pc_some (show P9 _ from (P9_c (P9_c h39 (by decide)) (by decide)))
  · skip
    exact pc_some (show P9 _ from h39)
theorem q_f_RX2_choose {r_X2_choose : (Int32 → Int32 → Mem → Option (Int32 × Mem))} {x1 x2 : Int32} {M : Mem} (hr : ∀ {a b : Int32} (M : Mem), P9 M → pc (fun r => P9 r.2) (r_X2_choose a b M)) (hM : P9 M) : pc (fun r => P9 r.2) (f_RX2_choose r_X2_choose x1 x2 M) := by
  unfold f_RX2_choose
  refine pc_bind (P := fun _ => True) pc_T ?_
  intro _ _
  refine pc_ite ?_ ?_
  · exact pc_some (show P9 _ from hM)
  · refine pc_ite ?_ ?_
    · exact pc_some (show P9 _ from hM)
    · refine pc_ite ?_ ?_
      · refine pc_bind (P := (fun r => P9 r.2)) (hr _ hM) ?_
        rintro ⟨a40_0, a40_1⟩ h40
        replace h40 : P9 a40_1 := h40
        refine pc_ite ?_ ?_
        · refine pc_ite ?_ ?_
          · refine pc_bind (P := P9) (q_f_X2_drain h40) ?_
            intro a41 h41
            refine pc_bind (P := (fun r => P9 r.2)) (hr _ h41) ?_
            rintro ⟨a42_0, a42_1⟩ h42
            replace h42 : P9 a42_1 := h42
            refine pc_ite ?_ ?_
            · refine pc_bind (P := P9) (q_f_X2_drain h42) ?_
              intro a43 h43
              exact pc_some (show P9 _ from h43)
            · exact pc_some (show P9 _ from (P9_c h42 (by decide)))
          · exact pc_none
        · exact pc_some (show P9 _ from h40)
      · exact pc_some (show P9 _ from hM)
theorem q_rec_choose : ∀ n, ∀ {a b : Int32} (M : Mem), P9 M → pc (fun r => P9 r.2) (rec_choose n a b M)
  | 0, _, _, _, _ => pc_none
  | n + 1, a, b, M, h => show pc (fun r => P9 r.2) (f_RX2_choose (rec_choose n) a b M) from q_f_RX2_choose (fun M h => q_rec_choose n M h) h
theorem q_f_X2_choose {x1 x2 : Int32} {M : Mem} (hM : P9 M) : pc (fun r => P9 r.2) (f_X2_choose x1 x2 M) := q_rec_choose 30 M hM
theorem q_L_RX0_place_39 {r_X0_place : (Int32 → Int32 → Mem → Option (Mem))} {x1 x2 : Int32} (hr : ∀ {a b : Int32} (M : Mem), P9 M → pc P9 (r_X0_place a b M)) : ∀ s, (fun r => P9 r.2) s → pc (sQ (fun r => P9 r.2) P9) (L_RX0_place_39 r_X0_place x1 x2 s) := by
  rintro ⟨b0, b1⟩ hM
  replace hM : P9 b1 := hM
  unfold L_RX0_place_39
  refine pc_ite ?_ ?_
  · exact pc_some (show P9 _ from hM)
  · refine pc_ite ?_ ?_
    · refine pc_bind (P := P9) (hr _ (P9_c hM (by decide))) ?_
      intro a44 h44
      exact pc_some (show P9 _ from h44)
    · exact pc_none
theorem q_f_RX0_place {r_X0_place : (Int32 → Int32 → Mem → Option (Mem))} {x1 x2 : Int32} {M : Mem} (hr : ∀ {a b : Int32} (M : Mem), P9 M → pc P9 (r_X0_place a b M)) (hM : P9 M) : pc P9 (f_RX0_place r_X0_place x1 x2 M) := by
  unfold f_RX0_place
  refine pc_ite ?_ ?_
  · refine pc_ite ?_ ?_
    · refine pc_bind (P := fun _ => True) pc_T ?_
      intro _ _
      refine pc_ite ?_ ?_
      · exact pc_some (show P9 _ from hM)
      · exact pc_some (show P9 _ from (P9_c (q_f_X0_keepFirst hM) (by decide)))
    · exact pc_some (show P9 _ from hM)
  · refine pc_bind (P := P9) (pc_wh (q_L_RX0_place_39 hr) (show P9 _ from hM)) ?_
    intro a45 h45
    exact pc_some (show P9 _ from h45)
theorem q_rec_place : ∀ n, ∀ {a b : Int32} (M : Mem), P9 M → pc P9 (rec_place n a b M)
  | 0, _, _, _, _ => pc_none
  | n + 1, a, b, M, h => show pc P9 (f_RX0_place (rec_place n) a b M) from q_f_RX0_place (fun M h => q_rec_place n M h) h
theorem q_f_X0_place {x1 x2 : Int32} {M : Mem} (hM : P9 M) : pc P9 (f_X0_place x1 x2 M) := q_rec_place 30 M hM
theorem q_f_X0_settle {x1 : Int32} {M : Mem} (hM : P9 M) : pc P9 (f_X0_settle x1 M) := by
  unfold f_X0_settle
  refine pc_bind (P := P9) (q_f_X0_place (P9_c hM (by decide))) ?_
  intro a46 h46
  exact pc_some (show P9 _ from h46)
theorem q_f_X10_expect {x1 : Int32} {M : Mem} (hM : P9 M) : pc P9 (f_X10_expect x1 M) := by
  unfold f_X10_expect
  refine pc_bind (P := (fun r => P9 r.2)) (q_f_X10_next hM) ?_
  rintro ⟨a47_0, a47_1⟩ h47
  replace h47 : P9 a47_1 := h47
  refine pc_ite ?_ ?_
  · exact pc_some (show P9 _ from (P9_c h47 (by decide)))
  · exact pc_some (show P9 _ from (q_f_X10_blame h47))
theorem q_f_X10_isAtDigit {M : Mem} (hM : P9 M) : pc (fun r => P9 r.2) (f_X10_isAtDigit M) := by
  unfold f_X10_isAtDigit
  refine pc_bind (P := (fun r => P9 r.2)) (q_f_X10_next hM) ?_
  rintro ⟨a48_0, a48_1⟩ h48
  replace h48 : P9 a48_1 := h48
  refine pc_ite ?_ ?_
  · exact pc_some (show P9 _ from h48)
  · refine pc_ite ?_ ?_
    · exact pc_some (show P9 _ from h48)
    · exact pc_some (show P9 _ from h48)
theorem q_f_X10_isAtEnd {M : Mem} (hM : P9 M) : pc (fun r => P9 r.2) (f_X10_isAtEnd M) := by
  unfold f_X10_isAtEnd
  refine pc_bind (P := (fun r => P9 r.2)) (q_f_X10_next hM) ?_
  rintro ⟨a49_0, a49_1⟩ h49
  replace h49 : P9 a49_1 := h49
  refine pc_ite ?_ ?_
  · exact pc_some (show P9 _ from h49)
  · exact pc_some (show P9 _ from h49)
theorem q_f_X11_anglers {x1 x2 : Int32} {M : Mem} (hM : P9 M) : pc (fun r => P9 r.2) (f_X11_anglers x1 x2 M) := by
  unfold f_X11_anglers
  refine pc_bind (P := (fun r => P9 r.2)) (q_f_X11_needFit hM) ?_
  rintro ⟨a50_0, a50_1⟩ h50
  replace h50 : P9 a50_1 := h50
  cases a50_0
  · dsimp only
    refine pc_bind (P := (fun r => P9 r.2)) (q_f_X11_needFit h50) ?_
    rintro ⟨a51_0, a51_1⟩ h51
    replace h51 : P9 a51_1 := h51
    cases a51_0
    · dsimp only
      refine pc_bind (P := P9) (q_f_X0_settle h51) ?_
      intro a52 h52
      refine pc_ite ?_ ?_
      · exact pc_some (show P9 _ from h52)
      · refine pc_bind (P := fun _ => True) pc_T ?_
        intro _ _
        exact pc_some (show P9 _ from h52)
    · dsimp only
      exact pc_some (show P9 _ from h51)
  · dsimp only
    exact pc_some (show P9 _ from h50)
theorem q_f_X11_barge {x1 x2 : Int32} {M : Mem} (hM : P9 M) : pc (fun r => P9 r.2) (f_X11_barge x1 x2 M) := by
  unfold f_X11_barge
  refine pc_bind (P := (fun r => P9 r.2)) (q_f_X11_needThere hM) ?_
  rintro ⟨a53_0, a53_1⟩ h53
  replace h53 : P9 a53_1 := h53
  cases a53_0
  · dsimp only
    refine pc_bind (P := (fun r => P9 r.2)) (q_f_X11_needFit h53) ?_
    rintro ⟨a54_0, a54_1⟩ h54
    replace h54 : P9 a54_1 := h54
    cases a54_0
    · dsimp only
      refine pc_ite ?_ ?_
      · refine pc_ite ?_ ?_
        · exact pc_some (show P9 _ from h54)
        · exact pc_none
      · refine pc_ite ?_ ?_
        · refine pc_ite ?_ ?_
          · exact pc_some (show P9 _ from h54)
          · exact pc_none
        · refine pc_ite ?_ ?_
          · refine pc_bind (P := fun _ => True) pc_T ?_
            intro _ _
            exact pc_some (show P9 _ from h54)
          · refine pc_ite ?_ ?_
            · refine pc_bind (P := fun _ => True) pc_T ?_
              intro _ _
              exact pc_some (show P9 _ from h54)
            · refine pc_bind (P := fun _ => True) pc_T ?_
              intro _ _
              refine pc_ite ?_ ?_
              · refine pc_bind (P := fun _ => True) pc_T ?_
                intro _ _
                exact pc_some (show P9 _ from h54)
              · exact pc_some (show P9 _ from h54)
    · dsimp only
      exact pc_some (show P9 _ from h54)
  · dsimp only
    exact pc_some (show P9 _ from h53)
theorem q_f_X11_narrow {x1 x2 : Int32} {M : Mem} (hM : P9 M) : pc (fun r => P9 r.2) (f_X11_narrow x1 x2 M) := by
  unfold f_X11_narrow
  refine pc_bind (P := (fun r => P9 r.2)) (q_f_X11_needMast hM) ?_
  rintro ⟨a55_0, a55_1⟩ h55
  replace h55 : P9 a55_1 := h55
  cases a55_0
  · dsimp only
    refine pc_bind (P := (fun r => P9 r.2)) (q_f_X11_needFit h55) ?_
    rintro ⟨a56_0, a56_1⟩ h56
    replace h56 : P9 a56_1 := h56
    cases a56_0
    · dsimp only
      refine pc_bind (P := fun _ => True) pc_T ?_
      rintro ⟨_, _⟩ -
      refine pc_ite ?_ ?_
      · refine pc_bind (P := fun _ => True) pc_T ?_
        intro _ _
        exact pc_some (show P9 _ from h56)
      · refine pc_ite ?_ ?_
        · exact pc_some (show P9 _ from h56)
        · exact pc_some (show P9 _ from h56)
    · dsimp only
      exact pc_some (show P9 _ from h56)
  · dsimp only
    exact pc_some (show P9 _ from h55)
theorem q_f_X11_needBits {x1 x2 : Int32} {M : Mem} (hM : P9 M) : pc (fun r => P9 r.2) (f_X11_needBits x1 x2 M) := by
  unfold f_X11_needBits
  refine pc_bind (P := (fun r => P9 r.2)) (q_f_X11_needFit hM) ?_
  rintro ⟨a57_0, a57_1⟩ h57
  replace h57 : P9 a57_1 := h57
  cases a57_0
  · dsimp only
    exact pc_some (show P9 _ from h57)
  · dsimp only
    exact pc_some (show P9 _ from h57)
theorem q_f_X11_needBoard {x1 : Int32} {M : Mem} (hM : P9 M) : pc (fun r => P9 r.2) (f_X11_needBoard x1 M) := by
  unfold f_X11_needBoard
  refine pc_bind (P := (fun r => P9 r.2)) (q_f_X11_needThere hM) ?_
  rintro ⟨a58_0, a58_1⟩ h58
  replace h58 : P9 a58_1 := h58
  cases a58_0
  · dsimp only
    exact pc_some (show P9 _ from h58)
  · dsimp only
    exact pc_some (show P9 _ from h58)
theorem q_f_X11_stand {x1 x2 : Int32} {M : Mem} (hM : P9 M) : pc (fun r => P9 r.2) (f_X11_stand x1 x2 M) := by
  unfold f_X11_stand
  refine pc_bind (P := (fun r => P9 r.2)) (q_f_X11_needBoard hM) ?_
  rintro ⟨a59_0, a59_1⟩ h59
  replace h59 : P9 a59_1 := h59
  cases a59_0
  · dsimp only
    refine pc_bind (P := (fun r => P9 r.2)) (q_f_X11_needFit h59) ?_
    rintro ⟨a60_0, a60_1⟩ h60
    replace h60 : P9 a60_1 := h60
    cases a60_0
    · dsimp only
      refine pc_bind (P := P9) (q_f_X0_settle h60) ?_
      intro a61 h61
      refine pc_ite ?_ ?_
      · exact pc_some (show P9 _ from h61)
      · refine pc_ite ?_ ?_
        · exact pc_some (show P9 _ from h61)
        · exact pc_none
    · dsimp only
      exact pc_some (show P9 _ from h60)
  · dsimp only
    exact pc_some (show P9 _ from h59)
theorem q_f_X11_worst {x1 : Int32} {M : Mem} (hM : P9 M) : pc (fun r => P9 r.2) (f_X11_worst x1 M) := by
  unfold f_X11_worst
  refine pc_bind (P := (fun r => P9 r.2)) (q_f_X11_needFit hM) ?_
  rintro ⟨a62_0, a62_1⟩ h62
  replace h62 : P9 a62_1 := h62
  cases a62_0
  · dsimp only
    refine pc_bind (P := fun _ => True) pc_T ?_
    intro _ _
    exact pc_some (show P9 _ from h62)
  · dsimp only
    exact pc_some (show P9 _ from h62)
theorem q_f_X1_readClause {x2 : Int32} {M : Mem} (hM : P9 M) : pc P9 (f_X1_readClause x2 M) := by
  unfold f_X1_readClause
  refine pc_ite ?_ ?_
  · refine pc_bind (P := P9) (q_f_X1_readBoard hM) ?_
    intro a63 h63
    exact pc_some (show P9 _ from h63)
  · refine pc_ite ?_ ?_
    · refine pc_bind (P := P9) (q_f_X1_readBarge hM) ?_
      intro a64 h64
      exact pc_some (show P9 _ from h64)
    · refine pc_ite ?_ ?_
      · refine pc_bind (P := (fun r => P9 r.2)) (q_f_X10_number hM) ?_
        rintro ⟨a65_0, a65_1⟩ h65
        replace h65 : P9 a65_1 := h65
        exact pc_some (show P9 _ from (P9_c h65 (by decide)))
      · refine pc_ite ?_ ?_
        · refine pc_bind (P := P9) (q_f_X1_readStreet hM) ?_
          intro a66 h66
          exact pc_some (show P9 _ from h66)
        · refine pc_ite ?_ ?_
          · refine pc_bind (P := P9) (q_f_X1_readFish hM) ?_
            intro a67 h67
            exact pc_some (show P9 _ from h67)
          · refine pc_ite ?_ ?_
            · refine pc_bind (P := (fun r => P9 r.2)) (q_f_X10_number hM) ?_
              rintro ⟨a68_0, a68_1⟩ h68
              replace h68 : P9 a68_1 := h68
              exact pc_some (show P9 _ from (P9_c h68 (by decide)))
            · exact pc_some (show P9 _ from hM)
theorem q_L_X2_fewest_2 {x1 : Int32} : ∀ s, (fun r => P9 r.2) s → pc (sQ (fun r => P9 r.2) P9) (L_X2_fewest_2 x1 s) := by
  rintro ⟨b0, b1⟩ hM
  replace hM : P9 b1 := hM
  unfold L_X2_fewest_2
  refine pc_ite ?_ ?_
  · exact pc_some (show P9 _ from hM)
  · refine pc_ite ?_ ?_
    · refine pc_ite ?_ ?_
      · exact pc_some (show P9 _ from (P9_c hM (by decide)))
      · exact pc_none
    · refine pc_ite ?_ ?_
      · exact pc_some (show P9 _ from (P9_c hM (by decide)))
      · exact pc_none
theorem q_L_X2_fewest_48  : ∀ s, (fun r => P9 r.2) s → pc (sQ (fun r => P9 r.2) (sQ P9 P9)) (L_X2_fewest_48 s) := by
  rintro ⟨b0, b1⟩ hM
  replace hM : P9 b1 := hM
  unfold L_X2_fewest_48
  refine pc_ite ?_ ?_
  · exact pc_some (show P9 _ from hM)
  · refine pc_bind (P := (fun r => P9 r.2)) (q_f_X2_choose (P9_c hM (by decide))) ?_
    rintro ⟨a69_0, a69_1⟩ h69
    replace h69 : P9 a69_1 := h69
    refine pc_ite ?_ ?_
    · exact pc_some (show P9 _ from h69)
    · exact pc_some (show P9 _ from h69)
theorem q_f_X2_fewest {x1 : Int32} {M : Mem} (hM : P9 M) : pc (fun r => P9 r.2) (f_X2_fewest x1 M) := by
  unfold f_X2_fewest
  refine pc_bind (P := P9) (pc_wh (q_L_X2_fewest_2) (show P9 _ from hM)) ?_
  intro a70 h70
  refine pc_bind (P := (sQ P9 P9)) (pc_wh (q_L_X2_fewest_48) (show P9 _ from h70)) ?_
  intro ee he
  rcases ee with ee | ee
  · have h71 : P9 ee := he
    dsimp only
    exact pc_some (show P9 _ from h71)
  · have h72 : P9 ee := he
    dsimp only
    exact pc_some (show P9 _ from h72)
theorem q_L_X4_dueBits_5 {q1 : Nat} {qc : Nat} {qd : Nat} {x2 : Int32} (h_q1 : q1 ≠ 54) (h_qc : qc ≠ 54) (h_qd : qd ≠ 54) : ∀ s, (fun r => P9 r.2.2) s → pc (sQ (fun r => P9 r.2.2) (fun r => P9 r.2)) (L_X4_dueBits_5 q1 qc qd x2 s) := by
  rintro ⟨b0, b1, b2⟩ hM
  replace hM : P9 b2 := hM
  unfold L_X4_dueBits_5
  refine pc_ite ?_ ?_
  · exact pc_some (show P9 _ from hM)
  · refine pc_bind (P := fun _ => True) pc_T ?_
    intro _ _
    refine pc_bind (P := (fun r => P9 r.2)) (q_f_X3_value h_qc h_qd hM) ?_
    rintro ⟨a73_0, a73_1⟩ h73
    replace h73 : P9 a73_1 := h73
    refine pc_ite ?_ ?_
    · exact pc_some (show P9 _ from h73)
    · exact pc_some (show P9 _ from h73)
theorem q_f_X4_dueBits {q1 : Nat} {qc : Nat} {qd : Nat} {x2 : Int32} {M : Mem} (h_q1 : q1 ≠ 54) (h_qc : qc ≠ 54) (h_qd : qd ≠ 54) (hM : P9 M) : pc (fun r => P9 r.2) (f_X4_dueBits q1 qc qd x2 M) := by
  unfold f_X4_dueBits
  refine pc_bind (P := (fun r => P9 r.2)) (pc_wh (q_L_X4_dueBits_5 h_q1 h_qc h_qd) (show P9 _ from hM)) ?_
  rintro ⟨a74_0, a74_1⟩ h74
  replace h74 : P9 a74_1 := h74
  exact pc_some (show P9 _ from h74)
theorem q_L_X4_passHour_27 {q1 : Nat} {x4 : Int32} (h_q1 : q1 ≠ 54) : ∀ s, (fun r => P9 r.2) s → pc (sQ (fun r => P9 r.2) P9) (L_X4_passHour_27 q1 x4 s) := by
  rintro ⟨b0, b1⟩ hM
  replace hM : P9 b1 := hM
  unfold L_X4_passHour_27
  refine pc_ite ?_ ?_
  · exact pc_some (show P9 _ from hM)
  · refine pc_bind (P := fun _ => True) pc_T ?_
    intro _ _
    refine pc_ite ?_ ?_
    · refine pc_ite ?_ ?_
      · refine pc_ite ?_ ?_
        · refine pc_bind (P := P9) (q_f_X8_come h_q1 hM) ?_
          intro a75 h75
          refine pc_bind (P := fun _ => True) pc_T ?_
          intro _ _
          refine pc_ite ?_ ?_
          · refine pc_bind (P := fun _ => True) pc_T ?_
            intro _ _
            refine pc_bind (P := fun _ => True) pc_T ?_
            intro _ _
            refine pc_bind (P := P9) (q_f_X8_pass h_q1 h75) ?_
            intro a76 h76
            refine pc_ite ?_ ?_
            · refine pc_ite ?_ ?_
              · refine pc_bind (P := P9) (q_f_X8_leave h_q1 h76) ?_
                intro a77 h77
                exact pc_some (show P9 _ from h77)
              · exact pc_some (show P9 _ from h76)
            · refine pc_bind (P := P9) (q_f_X8_knock h_q1 h76) ?_
              intro a78 h78
              refine pc_ite ?_ ?_
              · refine pc_bind (P := P9) (q_f_X8_leave h_q1 h78) ?_
                intro a79 h79
                exact pc_some (show P9 _ from h79)
              · exact pc_some (show P9 _ from h78)
          · exact pc_some (show P9 _ from h75)
        · refine pc_bind (P := fun _ => True) pc_T ?_
          intro _ _
          refine pc_ite ?_ ?_
          · refine pc_bind (P := fun _ => True) pc_T ?_
            intro _ _
            refine pc_bind (P := fun _ => True) pc_T ?_
            intro _ _
            refine pc_bind (P := P9) (q_f_X8_pass h_q1 hM) ?_
            intro a80 h80
            refine pc_ite ?_ ?_
            · refine pc_ite ?_ ?_
              · refine pc_bind (P := P9) (q_f_X8_leave h_q1 h80) ?_
                intro a81 h81
                exact pc_some (show P9 _ from h81)
              · exact pc_some (show P9 _ from h80)
            · refine pc_bind (P := P9) (q_f_X8_knock h_q1 h80) ?_
              intro a82 h82
              refine pc_ite ?_ ?_
              · refine pc_bind (P := P9) (q_f_X8_leave h_q1 h82) ?_
                intro a83 h83
                exact pc_some (show P9 _ from h83)
              · exact pc_some (show P9 _ from h82)
          · exact pc_some (show P9 _ from hM)
      · exact pc_none
    · refine pc_bind (P := fun _ => True) pc_T ?_
      intro _ _
      refine pc_ite ?_ ?_
      · refine pc_bind (P := fun _ => True) pc_T ?_
        intro _ _
        refine pc_ite ?_ ?_
        · refine pc_bind (P := fun _ => True) pc_T ?_
          intro _ _
          refine pc_bind (P := P9) (q_f_X8_pass h_q1 hM) ?_
          intro a84 h84
          refine pc_ite ?_ ?_
          · refine pc_ite ?_ ?_
            · refine pc_bind (P := P9) (q_f_X8_leave h_q1 h84) ?_
              intro a85 h85
              exact pc_some (show P9 _ from h85)
            · exact pc_some (show P9 _ from h84)
          · refine pc_bind (P := P9) (q_f_X8_knock h_q1 h84) ?_
            intro a86 h86
            refine pc_ite ?_ ?_
            · refine pc_bind (P := P9) (q_f_X8_leave h_q1 h86) ?_
              intro a87 h87
              exact pc_some (show P9 _ from h87)
            · exact pc_some (show P9 _ from h86)
        · exact pc_none
      · exact pc_some (show P9 _ from hM)
theorem q_f_X4_passHour {q1 : Nat} {x2 x3 : Int32} {M : Mem} (h_q1 : q1 ≠ 54) (hM : P9 M) : pc P9 (f_X4_passHour q1 x2 x3 M) := by
  unfold f_X4_passHour
  refine pc_bind (P := P9) (q_f_X8_fine h_q1 hM) ?_
  intro a88 h88
  refine pc_bind (P := P9) (pc_wh (q_L_X4_passHour_27 h_q1) (show P9 _ from h88)) ?_
  intro a89 h89
  exact pc_some (show P9 _ from (P9_c h89 h_q1))
theorem q_L_X5_mostLeftBy_12 {x1 : Int32} : ∀ s, (fun r => P9 r.2.2) s → pc (sQ (fun r => P9 r.2.2) (fun r => P9 r.2)) (L_X5_mostLeftBy_12 x1 s) := by
  rintro ⟨b0, b1, b2⟩ hM
  replace hM : P9 b2 := hM
  unfold L_X5_mostLeftBy_12
  refine pc_ite ?_ ?_
  · exact pc_some (show P9 _ from hM)
  · refine pc_bind (P := fun _ => True) pc_T ?_
    intro _ _
    refine pc_ite ?_ ?_
    · refine pc_bind (P := fun _ => True) pc_T ?_
      intro _ _
      exact pc_some (show P9 _ from (P9_c hM (by decide)))
    · exact pc_none
theorem q_f_X5_mostLeftBy {x1 : Int32} {M : Mem} (hM : P9 M) : pc (fun r => P9 r.2) (f_X5_mostLeftBy x1 M) := by
  unfold f_X5_mostLeftBy
  refine pc_bind (P := (fun r => P9 r.2)) (pc_wh (q_L_X5_mostLeftBy_12) (show P9 _ from (P9_fill hM (by decide)))) ?_
  rintro ⟨a90_0, a90_1⟩ h90
  replace h90 : P9 a90_1 := h90
  exact pc_some (show P9 _ from h90)
theorem q_f_X5_readLine {qs : Nat} {qn : Nat} {x2 : Int32} {M : Mem} (h_qs : qs ≠ 54) (h_qn : qn ≠ 54) (hM : P9 M) : pc P9 (f_X5_readLine qs qn x2 M) := by
  unfold f_X5_readLine
  refine pc_bind (P := (fun r => P9 r.2)) (q_f_X10_number hM) ?_
  rintro ⟨a91_0, a91_1⟩ h91
  replace h91 : P9 a91_1 := h91
  refine pc_ite ?_ ?_
  · refine pc_ite ?_ ?_
    · refine pc_bind (P := (fun r => P9 r.2)) (q_f_X10_number (q_f_X10_blame h91)) ?_
      rintro ⟨a92_0, a92_1⟩ h92
      replace h92 : P9 a92_1 := h92
      refine pc_bind (P := P9) (q_f_X10_expect h92) ?_
      intro a93 h93
      refine pc_ite ?_ ?_
      · refine pc_ite ?_ ?_
        · exact pc_some (show P9 _ from (P9_c h93 h_qn))
        · exact pc_none
      · exact pc_some (show P9 _ from h93)
    · refine pc_bind (P := (fun r => P9 r.2)) (q_f_X10_number h91) ?_
      rintro ⟨a94_0, a94_1⟩ h94
      replace h94 : P9 a94_1 := h94
      refine pc_bind (P := P9) (q_f_X10_expect h94) ?_
      intro a95 h95
      refine pc_ite ?_ ?_
      · refine pc_ite ?_ ?_
        · exact pc_some (show P9 _ from (P9_c h95 h_qn))
        · exact pc_none
      · exact pc_some (show P9 _ from h95)
  · refine pc_ite ?_ ?_
    · refine pc_ite ?_ ?_
      · refine pc_ite ?_ ?_
        · refine pc_bind (P := (fun r => P9 r.2)) (q_f_X10_number (q_f_X10_blame h91)) ?_
          rintro ⟨a96_0, a96_1⟩ h96
          replace h96 : P9 a96_1 := h96
          refine pc_bind (P := P9) (q_f_X10_expect h96) ?_
          intro a97 h97
          refine pc_ite ?_ ?_
          · exact pc_some (show P9 _ from (P9_c h97 h_qn))
          · exact pc_some (show P9 _ from h97)
        · refine pc_bind (P := (fun r => P9 r.2)) (q_f_X10_number h91) ?_
          rintro ⟨a98_0, a98_1⟩ h98
          replace h98 : P9 a98_1 := h98
          refine pc_bind (P := P9) (q_f_X10_expect h98) ?_
          intro a99 h99
          refine pc_ite ?_ ?_
          · exact pc_some (show P9 _ from (P9_c h99 h_qn))
          · exact pc_some (show P9 _ from h99)
      · refine pc_ite ?_ ?_
        · refine pc_bind (P := (fun r => P9 r.2)) (q_f_X10_number (q_f_X10_blame (q_f_X10_blame h91))) ?_
          rintro ⟨a100_0, a100_1⟩ h100
          replace h100 : P9 a100_1 := h100
          refine pc_bind (P := P9) (q_f_X10_expect h100) ?_
          intro a101 h101
          refine pc_ite ?_ ?_
          · exact pc_some (show P9 _ from (P9_c h101 h_qn))
          · exact pc_some (show P9 _ from h101)
        · refine pc_bind (P := (fun r => P9 r.2)) (q_f_X10_number (q_f_X10_blame h91)) ?_
          rintro ⟨a102_0, a102_1⟩ h102
          replace h102 : P9 a102_1 := h102
          refine pc_bind (P := P9) (q_f_X10_expect h102) ?_
          intro a103 h103
          refine pc_ite ?_ ?_
          · exact pc_some (show P9 _ from (P9_c h103 h_qn))
          · exact pc_some (show P9 _ from h103)
    · exact pc_none
theorem q_f_X5_weighOn {qs : Nat} {qn : Nat} {x1 x2 : Int32} {M : Mem} (h_qs : qs ≠ 54) (h_qn : qn ≠ 54) (hM : P9 M) : pc P9 (f_X5_weighOn qs qn x1 x2 M) := by
  unfold f_X5_weighOn
  refine pc_ite ?_ ?_
  · refine pc_ite ?_ ?_
    · exact pc_some (show P9 _ from (P9_c hM (by decide)))
    · exact pc_none
  · refine pc_bind (P := fun _ => True) pc_T ?_
    intro _ _
    refine pc_ite ?_ ?_
    · exact pc_some (show P9 _ from (P9_c hM (by decide)))
    · exact pc_none
theorem q_L_X5_weighTo_31 {qs : Nat} {qn : Nat} {x1 x2 x3 : Int32} (h_qs : qs ≠ 54) (h_qn : qn ≠ 54) : ∀ s, (fun r => P9 r.2) s → pc (sQ (fun r => P9 r.2) P9) (L_X5_weighTo_31 qs qn x1 x2 x3 s) := by
  rintro ⟨b0, b1⟩ hM
  replace hM : P9 b1 := hM
  unfold L_X5_weighTo_31
  refine pc_ite ?_ ?_
  · exact pc_some (show P9 _ from hM)
  · refine pc_bind (P := fun _ => True) pc_T ?_
    intro _ _
    refine pc_ite ?_ ?_
    · exact pc_some (show P9 _ from hM)
    · refine pc_ite ?_ ?_
      · exact pc_some (show P9 _ from (P9_c hM (by decide)))
      · exact pc_none
theorem q_f_X5_weighTo {qs : Nat} {qn : Nat} {x1 x2 : Int32} {M : Mem} (h_qs : qs ≠ 54) (h_qn : qn ≠ 54) (hM : P9 M) : pc P9 (f_X5_weighTo qs qn x1 x2 M) := by
  unfold f_X5_weighTo
  refine pc_ite ?_ ?_
  · refine pc_ite ?_ ?_
    · refine pc_bind (P := P9) (pc_wh (q_L_X5_weighTo_31 h_qs h_qn) (show P9 _ from hM)) ?_
      intro a104 h104
      exact pc_some (show P9 _ from h104)
    · refine pc_ite ?_ ?_
      · refine pc_bind (P := P9) (pc_wh (q_L_X5_weighTo_31 h_qs h_qn) (show P9 _ from hM)) ?_
        intro a105 h105
        exact pc_some (show P9 _ from h105)
      · exact pc_none
  · refine pc_ite ?_ ?_
    · refine pc_bind (P := P9) (pc_wh (q_L_X5_weighTo_31 h_qs h_qn) (show P9 _ from hM)) ?_
      intro a106 h106
      exact pc_some (show P9 _ from h106)
    · refine pc_ite ?_ ?_
      · refine pc_bind (P := P9) (pc_wh (q_L_X5_weighTo_31 h_qs h_qn) (show P9 _ from hM)) ?_
        intro a107 h107
        exact pc_some (show P9 _ from h107)
      · exact pc_none
theorem q_L_X6_dueIn_15 {qc : Nat} {qd : Nat} {x1 : Int32} (h_qc : qc ≠ 54) (h_qd : qd ≠ 54) : ∀ s, P9 s → pc (sQ P9 P9) (L_X6_dueIn_15 qc qd x1 s) := by
  intro M0 hM
  unfold L_X6_dueIn_15
  refine pc_ite ?_ ?_
  · exact pc_some (show P9 _ from hM)
  · refine pc_bind (P := (fun r => P9 r.2)) (q_f_X4_dueBits (by decide) h_qc h_qd hM) ?_
    rintro ⟨a108_0, a108_1⟩ h108
    replace h108 : P9 a108_1 := h108
    refine pc_ite ?_ ?_
    · exact pc_some (show P9 _ from (P9_c (P9_c h108 (by decide)) (by decide)))
    · exact pc_none
theorem q_f_X6_dueIn {qc : Nat} {qd : Nat} {x1 : Int32} {M : Mem} (h_qc : qc ≠ 54) (h_qd : qd ≠ 54) (hM : P9 M) : pc (fun r => P9 r.2) (f_X6_dueIn qc qd x1 M) := by
  unfold f_X6_dueIn
  refine pc_ite ?_ ?_
  · exact pc_some (show P9 _ from hM)
  · refine pc_ite ?_ ?_
    · refine pc_bind (P := P9) (pc_wh (q_L_X6_dueIn_15 h_qc h_qd) (show P9 _ from hM)) ?_
      intro a109 h109
      refine pc_ite ?_ ?_
      · exact pc_some (show P9 _ from h109)
      · exact pc_none
    · exact pc_some (show P9 _ from hM)
theorem q_L_X6_dueThen_23 {qc : Nat} {qd : Nat} (h_qc : qc ≠ 54) (h_qd : qd ≠ 54) : ∀ s, (fun r => P9 r.2.2) s → pc (sQ (fun r => P9 r.2.2) (fun r => P9 r.2)) (L_X6_dueThen_23 qc qd s) := by
  rintro ⟨b0, b1, b2⟩ hM
  replace hM : P9 b2 := hM
  unfold L_X6_dueThen_23
  refine pc_ite ?_ ?_
  · exact pc_some (show P9 _ from hM)
  · refine pc_bind (P := fun _ => True) pc_T ?_
    intro _ _
    refine pc_bind (P := fun _ => True) pc_T ?_
    intro _ _
    refine pc_ite ?_ ?_
    · exact pc_some (show P9 _ from hM)
    · refine pc_bind (P := (fun r => P9 r.2)) (q_f_X4_isDue h_qc h_qd hM) ?_
      rintro ⟨a110_0, a110_1⟩ h110
      replace h110 : P9 a110_1 := h110
      refine pc_ite ?_ ?_
      · exact pc_some (show P9 _ from h110)
      · exact pc_some (show P9 _ from h110)
theorem q_f_X6_dueThen {qc : Nat} {qd : Nat} {x1 : Int32} {M : Mem} (h_qc : qc ≠ 54) (h_qd : qd ≠ 54) (hM : P9 M) : pc (fun r => P9 r.2) (f_X6_dueThen qc qd x1 M) := by
  unfold f_X6_dueThen
  refine pc_bind (P := (fun r => P9 r.2)) (q_f_X6_dueIn h_qc h_qd hM) ?_
  rintro ⟨a111_0, a111_1⟩ h111
  replace h111 : P9 a111_1 := h111
  refine pc_bind (P := fun _ => True) pc_T ?_
  intro _ _
  refine pc_ite ?_ ?_
  · exact pc_some (show P9 _ from h111)
  · refine pc_bind (P := (fun r => P9 r.2)) (pc_wh (q_L_X6_dueThen_23 h_qc h_qd) (show P9 _ from h111)) ?_
    rintro ⟨a112_0, a112_1⟩ h112
    replace h112 : P9 a112_1 := h112
    exact pc_some (show P9 _ from h112)
theorem q_L_X6_freeze_28 {qc : Nat} {qd : Nat} {x2 x3 : Int32} (h_qc : qc ≠ 54) (h_qd : qd ≠ 54) : ∀ s, (fun r => P9 r.2) s → pc (sQ (fun r => P9 r.2) P9) (L_X6_freeze_28 qc qd x2 x3 s) := by
  rintro ⟨b0, b1⟩ hM
  replace hM : P9 b1 := hM
  unfold L_X6_freeze_28
  refine pc_ite ?_ ?_
  · exact pc_some (show P9 _ from hM)
  · refine pc_bind (P := (fun r => P9 r.2)) (q_f_X6_drawFrozen hM) ?_
    rintro ⟨a113_0, a113_1⟩ h113
    replace h113 : P9 a113_1 := h113
    refine pc_bind (P := (fun r => P9 r.2)) (q_f_X6_dueThen h_qc h_qd h113) ?_
    rintro ⟨a114_0, a114_1⟩ h114
    replace h114 : P9 a114_1 := h114
    refine pc_bind (P := P9) (q_f_X4_passHour (by decide) (P9_c h114 (by decide))) ?_
    intro a115 h115
    exact pc_some (show P9 _ from h115)
theorem q_f_X6_freeze {qc : Nat} {qd : Nat} {x1 x2 x3 : Int32} {M : Mem} (h_qc : qc ≠ 54) (h_qd : qd ≠ 54) (hM : P9 M) : pc P9 (f_X6_freeze qc qd x1 x2 x3 M) := by
  unfold f_X6_freeze
  refine pc_bind (P := P9) (q_f_X8_writeTo_t hM) ?_
  intro a116 h116
  refine pc_bind (P := P9) (pc_wh (q_L_X6_freeze_28 h_qc h_qd) (show P9 _ from (P9_c (P9_c h116 (by decide)) (by decide)))) ?_
  intro a117 h117
  exact pc_some (show P9 _ from h117)
theorem q_f_X6_letPass {qc : Nat} {qd : Nat} {x1 : Int32} {M : Mem} (h_qc : qc ≠ 54) (h_qd : qd ≠ 54) (hM : P9 M) : pc P9 (f_X6_letPass qc qd x1 M) := by
  unfold f_X6_letPass
  refine pc_bind (P := P9) (q_f_X6_freeze h_qc h_qd hM) ?_
  intro a118 h118
  exact pc_some (show P9 _ from h118)
theorem q_f_X6_openIn {qc : Nat} {qd : Nat} {x1 : Int32} {M : Mem} (h_qc : qc ≠ 54) (h_qd : qd ≠ 54) (hM : P9 M) : pc (fun r => P9 r.2) (f_X6_openIn qc qd x1 M) := by
  unfold f_X6_openIn
  refine pc_bind (P := (fun r => P9 r.2)) (q_f_X6_dueIn h_qc h_qd hM) ?_
  rintro ⟨a119_0, a119_1⟩ h119
  replace h119 : P9 a119_1 := h119
  exact pc_some (show P9 _ from h119)
theorem q_L_X6_sail_23 {qc : Nat} {qd : Nat} {x1 : Int32} (h_qc : qc ≠ 54) (h_qd : qd ≠ 54) : ∀ s, (fun r => P9 r.2.2) s → pc (sQ (fun r => P9 r.2.2) P9) (L_X6_sail_23 qc qd x1 s) := by
  rintro ⟨b0, b1, b2⟩ hM
  replace hM : P9 b2 := hM
  unfold L_X6_sail_23
  refine pc_ite ?_ ?_
  · exact pc_some (show P9 _ from hM)
  · refine pc_ite ?_ ?_
    · refine pc_bind (P := (fun r => P9 r.2)) (q_f_X6_openIn h_qc h_qd hM) ?_
      rintro ⟨a120_0, a120_1⟩ h120
      replace h120 : P9 a120_1 := h120
      refine pc_bind (P := fun _ => True) pc_T ?_
      intro _ _
      refine pc_ite ?_ ?_
      · refine pc_ite ?_ ?_
        · exact pc_some (show P9 _ from (P9_c h120 (by decide)))
        · exact pc_some (show P9 _ from h120)
      · refine pc_ite ?_ ?_
        · refine pc_ite ?_ ?_
          · exact pc_some (show P9 _ from (P9_c (P9_c (P9_c h120 (by decide)) (by decide)) (by decide)))
          · exact pc_some (show P9 _ from (P9_c (P9_c h120 (by decide)) (by decide)))
        · exact pc_none
    · exact pc_some (show P9 _ from hM)
theorem q_f_X6_sail {qc : Nat} {qd : Nat} {x1 x2 : Int32} {M : Mem} (h_qc : qc ≠ 54) (h_qd : qd ≠ 54) (hM : P9 M) : pc P9 (f_X6_sail qc qd x1 x2 M) := by
  unfold f_X6_sail
  refine pc_bind (P := P9) (pc_wh (q_L_X6_sail_23 h_qc h_qd) (show P9 _ from (P9_fill (P9_c (P9_c hM (by decide)) (by decide)) (by decide)))) ?_
  intro a121 h121
  exact pc_some (show P9 _ from h121)
theorem q_f_X7_bringBack {M : Mem} (hM : P9 M) : pc P9 (f_X7_bringBack M) := by
  unfold f_X7_bringBack
  refine pc_ite ?_ ?_
  · exact pc_some (show P9 _ from hM)
  · refine pc_bind (P := P9) (q_f_X8_readFrom_p (P9_c hM (by decide))) ?_
    intro a122 h122
    exact pc_some (show P9 _ from h122)
theorem q_f_X7_bringBackImage {M : Mem} (hM : P9 M) : pc (fun r => P9 r.2) (f_X7_bringBackImage M) := by
  unfold f_X7_bringBackImage
  refine pc_ite ?_ ?_
  · refine pc_ite ?_ ?_
    · refine pc_bind (P := P9) (q_f_X8_readFrom_i (P9_cp (P9_c hM (by decide)) (by decide))) ?_
      intro a123 h123
      exact pc_some (show P9 _ from (P9_c h123 (by decide)))
    · exact pc_none
  · exact pc_some (show P9 _ from hM)
theorem q_f_X7_keep {M : Mem} (hM : P9 M) : pc P9 (f_X7_keep M) := by
  unfold f_X7_keep
  refine pc_ite ?_ ?_
  · refine pc_bind (P := P9) (q_f_X8_writeTo_p hM) ?_
    intro a124 h124
    exact pc_some (show P9 _ from (P9_c h124 (by decide)))
  · exact pc_some (show P9 _ from hM)
theorem q_f_X7_keepImage {M : Mem} (hM : P9 M) : pc (fun r => P9 r.2) (f_X7_keepImage M) := by
  unfold f_X7_keepImage
  refine pc_ite ?_ ?_
  · refine pc_ite ?_ ?_
    · refine pc_bind (P := P9) (q_f_X8_writeTo_i (P9_cp hM (by decide))) ?_
      intro a125 h125
      exact pc_some (show P9 _ from (P9_c (P9_c h125 (by decide)) (by decide)))
    · exact pc_none
  · exact pc_some (show P9 _ from hM)
theorem q_f_X9_isDone {qc : Nat} {qd : Nat} {x3 : Int32} {M : Mem} (h_qc : qc ≠ 54) (h_qd : qd ≠ 54) (hM : P9 M) : pc (fun r => P9 r.2) (f_X9_isDone qc qd x3 M) := by
  unfold f_X9_isDone
  refine pc_ite ?_ ?_
  · refine pc_ite ?_ ?_
    · refine pc_ite ?_ ?_
      · refine pc_bind (P := (fun r => P9 r.2)) (q_f_X4_dueBits (by decide) h_qc h_qd hM) ?_
        rintro ⟨a126_0, a126_1⟩ h126
        replace h126 : P9 a126_1 := h126
        refine pc_bind (P := P9) (q_f_X4_passHour (by decide) h126) ?_
        intro a127 h127
        exact pc_some (show P9 _ from h127)
      · exact pc_some (show P9 _ from hM)
    · refine pc_ite ?_ ?_
      · exact pc_some (show P9 _ from hM)
      · exact pc_some (show P9 _ from (q_f_X8_setMode (by decide) hM))
  · exact pc_none
theorem q_L_RX9_runRow_44 {qc : Nat} {qd : Nat} {r_X9_runRow : (Int32 → Int32 → Mem → Option (Mem))} {x5 : Int32} (h_qc : qc ≠ 54) (h_qd : qd ≠ 54) (hr : ∀ {a b : Int32} (M : Mem), P9 M → pc P9 (r_X9_runRow a b M)) : ∀ s, (fun r => P9 r.2) s → pc (sQ (fun r => P9 r.2) P9) (L_RX9_runRow_44 qc qd r_X9_runRow x5 s) := by
  rintro ⟨b0, b1⟩ hM
  replace hM : P9 b1 := hM
  unfold L_RX9_runRow_44
  refine pc_ite ?_ ?_
  · refine pc_ite ?_ ?_
    · exact pc_some (show P9 _ from hM)
    · refine pc_ite ?_ ?_
      · exact pc_some (show P9 _ from hM)
      · refine pc_bind (P := P9) (hr _ hM) ?_
        intro a128 h128
        exact pc_some (show P9 _ from h128)
  · exact pc_none
theorem q_L_RX9_runRow_3 {qc : Nat} {qd : Nat} {r_X9_runRow : (Int32 → Int32 → Mem → Option (Mem))} {x4 : Int32} (h_qc : qc ≠ 54) (h_qd : qd ≠ 54) (hr : ∀ {a b : Int32} (M : Mem), P9 M → pc P9 (r_X9_runRow a b M)) : ∀ s, (fun r => P9 r.2) s → pc (sQ (fun r => P9 r.2) P9) (L_RX9_runRow_3 qc qd r_X9_runRow x4 s) := by
  rintro ⟨b0, b1⟩ hM
  replace hM : P9 b1 := hM
  unfold L_RX9_runRow_3
  refine pc_ite ?_ ?_
  · exact pc_some (show P9 _ from hM)
  · refine pc_ite ?_ ?_
    · exact pc_some (show P9 _ from hM)
    · refine pc_ite ?_ ?_
      · refine pc_ite ?_ ?_
        · refine pc_bind (P := P9) (pc_wh (q_L_RX9_runRow_44 h_qc h_qd hr) (show P9 _ from (P9_c hM (by decide)))) ?_
          intro a129 h129
          exact pc_some (show P9 _ from h129)
        · refine pc_bind (P := (fun r => P9 r.2)) (q_f_X9_isDone h_qc h_qd (P9_c hM (by decide))) ?_
          rintro ⟨a130_0, a130_1⟩ h130
          replace h130 : P9 a130_1 := h130
          refine pc_ite ?_ ?_
          · exact pc_some (show P9 _ from (P9_c h130 (by decide)))
          · exact pc_some (show P9 _ from (P9_c h130 (by decide)))
      · exact pc_none
theorem q_f_RX9_runRow {qc : Nat} {qd : Nat} {r_X9_runRow : (Int32 → Int32 → Mem → Option (Mem))} {x3 x4 : Int32} {M : Mem} (h_qc : qc ≠ 54) (h_qd : qd ≠ 54) (hr : ∀ {a b : Int32} (M : Mem), P9 M → pc P9 (r_X9_runRow a b M)) (hM : P9 M) : pc P9 (f_RX9_runRow qc qd r_X9_runRow x3 x4 M) := by
  unfold f_RX9_runRow
  refine pc_bind (P := P9) (pc_wh (q_L_RX9_runRow_3 h_qc h_qd hr) (show P9 _ from hM)) ?_
  intro a131 h131
  exact pc_some (show P9 _ from h131)
theorem q_rec_runRow {qc qd : Nat} (h_qc : qc ≠ 54) (h_qd : qd ≠ 54) : ∀ n, ∀ {a b : Int32} (M : Mem), P9 M → pc P9 (rec_runRow qc qd n a b M)
  | 0, _, _, _, _ => pc_none
  | n + 1, a, b, M, h => show pc P9 (f_RX9_runRow qc qd (rec_runRow qc qd n) a b M) from q_f_RX9_runRow h_qc h_qd (fun M h => q_rec_runRow h_qc h_qd n M h) h
theorem q_f_X9_runRow {qc qd : Nat} {x3 x4 : Int32} {M : Mem} (h_qc : qc ≠ 54) (h_qd : qd ≠ 54) (hM : P9 M) : pc P9 (f_X9_runRow qc qd x3 x4 M) := q_rec_runRow h_qc h_qd 30 M hM
theorem q_L_RX3_readSum_8 {qc : Nat} {qd : Nat} {r_X3_readProduct : (Int32 → Mem → Option (Mem))} {x2 : Int32} (h_qc : qc ≠ 54) (h_qd : qd ≠ 54) (hr : ∀ {a : Int32} (M : Mem), P9 M → pc P9 (r_X3_readProduct a M)) : ∀ s, (fun r => P9 r.2) s → pc (sQ (fun r => P9 r.2) (sQ P9 P9)) (L_RX3_readSum_8 qc qd r_X3_readProduct x2 s) := by
  rintro ⟨b0, b1⟩ hM
  replace hM : P9 b1 := hM
  unfold L_RX3_readSum_8
  refine pc_ite ?_ ?_
  · exact pc_some (show P9 _ from hM)
  · refine pc_ite ?_ ?_
    · refine pc_bind (P := (fun r => P9 r.2)) (q_f_X10_takeOneOf hM) ?_
      rintro ⟨a132_0, a132_1⟩ h132
      replace h132 : P9 a132_1 := h132
      refine pc_ite ?_ ?_
      · exact pc_some (show P9 _ from h132)
      · refine pc_bind (P := P9) (hr _ h132) ?_
        intro a133 h133
        refine pc_bind (P := P9) (q_f_X3_add h_qc h_qd h133) ?_
        intro a134 h134
        exact pc_some (show P9 _ from h134)
    · exact pc_some (show P9 _ from hM)
theorem q_f_RX3_readSum {qc : Nat} {qd : Nat} {r_X3_readSum : (Int32 → Mem → Option (Mem))} {r_X3_readProduct : (Int32 → Mem → Option (Mem))} {r_X3_readUnit : (Int32 → Mem → Option (Mem))} {x2 : Int32} {M : Mem} (h_qc : qc ≠ 54) (h_qd : qd ≠ 54) (hr : ∀ {a : Int32} (M : Mem), P9 M → pc P9 (r_X3_readProduct a M)) (hM : P9 M) : pc P9 (f_RX3_readSum qc qd r_X3_readSum r_X3_readProduct r_X3_readUnit x2 M) := by
  unfold f_RX3_readSum
  refine pc_bind (P := P9) (hr _ hM) ?_
  intro a135 h135
  refine pc_bind (P := (sQ P9 P9)) (pc_wh (q_L_RX3_readSum_8 h_qc h_qd hr) (show P9 _ from h135)) ?_
  intro ee he
  rcases ee with ee | ee
  · have h136 : P9 ee := he
    dsimp only
    exact pc_some (show P9 _ from h136)
  · have h137 : P9 ee := he
    dsimp only
    exact pc_some (show P9 _ from h137)
theorem q_L_RX3_readProduct_8 {qc : Nat} {qd : Nat} {r_X3_readUnit : (Int32 → Mem → Option (Mem))} {x2 : Int32} (h_qc : qc ≠ 54) (h_qd : qd ≠ 54) (hr : ∀ {a : Int32} (M : Mem), P9 M → pc P9 (r_X3_readUnit a M)) : ∀ s, (fun r => P9 r.2) s → pc (sQ (fun r => P9 r.2) (sQ P9 P9)) (L_RX3_readProduct_8 qc qd r_X3_readUnit x2 s) := by
  rintro ⟨b0, b1⟩ hM
  replace hM : P9 b1 := hM
  unfold L_RX3_readProduct_8
  refine pc_ite ?_ ?_
  · exact pc_some (show P9 _ from hM)
  · refine pc_ite ?_ ?_
    · refine pc_bind (P := (fun r => P9 r.2)) (q_f_X10_takeOneOf hM) ?_
      rintro ⟨a138_0, a138_1⟩ h138
      replace h138 : P9 a138_1 := h138
      refine pc_ite ?_ ?_
      · exact pc_some (show P9 _ from h138)
      · refine pc_bind (P := P9) (hr _ h138) ?_
        intro a139 h139
        refine pc_bind (P := P9) (q_f_X3_add h_qc h_qd h139) ?_
        intro a140 h140
        exact pc_some (show P9 _ from h140)
    · exact pc_some (show P9 _ from hM)
theorem q_f_RX3_readProduct {qc : Nat} {qd : Nat} {r_X3_readSum : (Int32 → Mem → Option (Mem))} {r_X3_readProduct : (Int32 → Mem → Option (Mem))} {r_X3_readUnit : (Int32 → Mem → Option (Mem))} {x2 : Int32} {M : Mem} (h_qc : qc ≠ 54) (h_qd : qd ≠ 54) (hr : ∀ {a : Int32} (M : Mem), P9 M → pc P9 (r_X3_readUnit a M)) (hM : P9 M) : pc P9 (f_RX3_readProduct qc qd r_X3_readSum r_X3_readProduct r_X3_readUnit x2 M) := by
  unfold f_RX3_readProduct
  refine pc_bind (P := P9) (hr _ hM) ?_
  intro a141 h141
  refine pc_bind (P := (sQ P9 P9)) (pc_wh (q_L_RX3_readProduct_8 h_qc h_qd hr) (show P9 _ from h141)) ?_
  intro ee he
  rcases ee with ee | ee
  · have h142 : P9 ee := he
    dsimp only
    exact pc_some (show P9 _ from h142)
  · have h143 : P9 ee := he
    dsimp only
    exact pc_some (show P9 _ from h143)
theorem q_f_RX3_readUnit {qc : Nat} {qd : Nat} {r_X3_readSum : (Int32 → Mem → Option (Mem))} {r_X3_readProduct : (Int32 → Mem → Option (Mem))} {r_X3_readUnit : (Int32 → Mem → Option (Mem))} {x2 : Int32} {M : Mem} (h_qc : qc ≠ 54) (h_qd : qd ≠ 54) (hr : ∀ {a : Int32} (M : Mem), P9 M → pc P9 (r_X3_readSum a M)) (hM : P9 M) : pc P9 (f_RX3_readUnit qc qd r_X3_readSum r_X3_readProduct r_X3_readUnit x2 M) := by
  unfold f_RX3_readUnit
  refine pc_bind (P := (fun r => P9 r.2)) (q_f_X10_isAtDigit hM) ?_
  rintro ⟨a144_0, a144_1⟩ h144
  replace h144 : P9 a144_1 := h144
  refine pc_ite ?_ ?_
  · refine pc_bind (P := (fun r => P9 r.2)) (q_f_X10_takeOneOf h144) ?_
    rintro ⟨a145_0, a145_1⟩ h145
    replace h145 : P9 a145_1 := h145
    refine pc_ite ?_ ?_
    · refine pc_bind (P := (fun r => P9 r.2)) (q_f_X10_word h145) ?_
      rintro ⟨a146_0, a146_1⟩ h146
      replace h146 : P9 a146_1 := h146
      refine pc_ite ?_ ?_
      · refine pc_bind (P := P9) (q_f_X3_add h_qc h_qd h146) ?_
        intro a147 h147
        exact pc_some (show P9 _ from h147)
      · refine pc_ite ?_ ?_
        · refine pc_bind (P := P9) (q_f_X3_add h_qc h_qd (q_f_X3_isNestedDeeper h146)) ?_
          intro a148 h148
          exact pc_some (show P9 _ from h148)
        · refine pc_bind (P := P9) (q_f_X10_expect (q_f_X3_isNestedDeeper h146)) ?_
          intro a149 h149
          refine pc_bind (P := P9) (hr _ h149) ?_
          intro a150 h150
          refine pc_bind (P := P9) (q_f_X10_expect h150) ?_
          intro a151 h151
          refine pc_bind (P := P9) (hr _ h151) ?_
          intro a152 h152
          refine pc_bind (P := P9) (q_f_X10_expect h152) ?_
          intro a153 h153
          refine pc_bind (P := P9) (q_f_X3_add h_qc h_qd h153) ?_
          intro a154 h154
          exact pc_some (show P9 _ from h154)
    · refine pc_ite ?_ ?_
      · exact pc_some (show P9 _ from (q_f_X3_isNestedDeeper h145))
      · refine pc_bind (P := P9) (hr _ (q_f_X3_isNestedDeeper h145)) ?_
        intro a155 h155
        refine pc_bind (P := P9) (q_f_X10_expect h155) ?_
        intro a156 h156
        exact pc_some (show P9 _ from h156)
  · refine pc_bind (P := (fun r => P9 r.2)) (q_f_X10_number h144) ?_
    rintro ⟨a157_0, a157_1⟩ h157
    replace h157 : P9 a157_1 := h157
    refine pc_bind (P := P9) (q_f_X3_add h_qc h_qd h157) ?_
    intro a158 h158
    exact pc_some (show P9 _ from h158)
theorem q_rec_readSum {qc qd : Nat} (h_qc : qc ≠ 54) (h_qd : qd ≠ 54) : ∀ n, (∀ {a : Int32} (M : Mem), P9 M → pc P9 ((rec_readSum qc qd n).1 a M)) ∧ (∀ {a : Int32} (M : Mem), P9 M → pc P9 ((rec_readSum qc qd n).2.1 a M)) ∧ (∀ {a : Int32} (M : Mem), P9 M → pc P9 ((rec_readSum qc qd n).2.2 a M))
  | 0 => ⟨fun _ _ => pc_none, fun _ _ => pc_none, fun _ _ => pc_none⟩
  | n + 1 => ⟨fun {a} M h => show pc P9 (f_RX3_readSum qc qd (rec_readSum qc qd n).1 (rec_readSum qc qd n).2.1 (rec_readSum qc qd n).2.2 a M) from q_f_RX3_readSum h_qc h_qd (fun M h => (q_rec_readSum h_qc h_qd n).2.1 M h) h, fun {a} M h => show pc P9 (f_RX3_readProduct qc qd (rec_readSum qc qd n).1 (rec_readSum qc qd n).2.1 (rec_readSum qc qd n).2.2 a M) from q_f_RX3_readProduct h_qc h_qd (fun M h => (q_rec_readSum h_qc h_qd n).2.2 M h) h, fun {a} M h => show pc P9 (f_RX3_readUnit qc qd (rec_readSum qc qd n).1 (rec_readSum qc qd n).2.1 (rec_readSum qc qd n).2.2 a M) from q_f_RX3_readUnit h_qc h_qd (fun M h => (q_rec_readSum h_qc h_qd n).1 M h) h⟩
theorem q_f_X3_readSum {qc qd : Nat} {x2 : Int32} {M : Mem} (h_qc : qc ≠ 54) (h_qd : qd ≠ 54) (hM : P9 M) : pc P9 (f_X3_readSum qc qd x2 M) := (q_rec_readSum h_qc h_qd 30).1 M hM
theorem q_L_RX9_readRow_3 {r_X9_readStep : (Int32 → Int32 → Mem → Option (Mem))} {x2 x3 : Int32} (hr : ∀ {a b : Int32} (M : Mem), P9 M → pc P9 (r_X9_readStep a b M)) : ∀ s, (fun r => P9 r.2) s → pc (sQ (fun r => P9 r.2) (sQ P9 P9)) (L_RX9_readRow_3 r_X9_readStep x2 x3 s) := by
  rintro ⟨b0, b1⟩ hM
  replace hM : P9 b1 := hM
  unfold L_RX9_readRow_3
  refine pc_ite ?_ ?_
  · exact pc_some (show P9 _ from hM)
  · refine pc_ite ?_ ?_
    · refine pc_ite ?_ ?_
      · refine pc_bind (P := (fun r => P9 r.2)) (q_f_X10_isAtEnd hM) ?_
        rintro ⟨a159_0, a159_1⟩ h159
        replace h159 : P9 a159_1 := h159
        refine pc_ite ?_ ?_
        · refine pc_bind (P := P9) (hr _ h159) ?_
          intro a160 h160
          refine pc_bind (P := P9) (q_f_X10_expect h160) ?_
          intro a161 h161
          exact pc_some (show P9 _ from h161)
        · exact pc_some (show P9 _ from h159)
      · refine pc_bind (P := (fun r => P9 r.2)) (q_f_X10_next hM) ?_
        rintro ⟨a162_0, a162_1⟩ h162
        replace h162 : P9 a162_1 := h162
        refine pc_ite ?_ ?_
        · exact pc_some (show P9 _ from h162)
        · refine pc_bind (P := P9) (hr _ h162) ?_
          intro a163 h163
          refine pc_bind (P := P9) (q_f_X10_expect h163) ?_
          intro a164 h164
          exact pc_some (show P9 _ from h164)
    · exact pc_some (show P9 _ from hM)
theorem q_f_RX9_readRow {r_X9_readRow : (Int32 → Int32 → Mem → Option (Mem))} {r_X9_readStep : (Int32 → Int32 → Mem → Option (Mem))} {x2 x3 : Int32} {M : Mem} (hr : ∀ {a b : Int32} (M : Mem), P9 M → pc P9 (r_X9_readStep a b M)) (hM : P9 M) : pc P9 (f_RX9_readRow r_X9_readRow r_X9_readStep x2 x3 M) := by
  unfold f_RX9_readRow
  refine pc_bind (P := (sQ P9 P9)) (pc_wh (q_L_RX9_readRow_3 hr) (show P9 _ from hM)) ?_
  intro ee he
  rcases ee with ee | ee
  · have h165 : P9 ee := he
    dsimp only
    exact pc_some (show P9 _ from h165)
  · have h166 : P9 ee := he
    dsimp only
    exact pc_some (show P9 _ from h166)
theorem q_f_RX9_readStep {r_X9_readRow : (Int32 → Int32 → Mem → Option (Mem))} {r_X9_readStep : (Int32 → Int32 → Mem → Option (Mem))} {x2 x3 : Int32} {M : Mem} (hr : ∀ {a b : Int32} (M : Mem), P9 M → pc P9 (r_X9_readRow a b M)) (hM : P9 M) : pc P9 (f_RX9_readStep r_X9_readRow r_X9_readStep x2 x3 M) := by
  unfold f_RX9_readStep
  refine pc_bind (P := (fun r => P9 r.2)) (q_f_X10_word hM) ?_
  rintro ⟨a167_0, a167_1⟩ h167
  replace h167 : P9 a167_1 := h167
  refine pc_ite ?_ ?_
  · refine pc_ite ?_ ?_
    · refine pc_bind (P := (fun r => P9 r.2)) (q_f_X10_number (q_f_X10_blame h167)) ?_
      rintro ⟨a168_0, a168_1⟩ h168
      replace h168 : P9 a168_1 := h168
      refine pc_ite ?_ ?_
      · refine pc_ite ?_ ?_
        · refine pc_ite ?_ ?_
          · refine pc_bind (P := P9) (q_f_X10_expect (P9_c (P9_c (P9_c h168 (by decide)) (by decide)) (by decide))) ?_
            intro a169 h169
            refine pc_bind (P := P9) (hr _ h169) ?_
            intro a170 h170
            refine pc_bind (P := P9) (q_f_X10_expect h170) ?_
            intro a171 h171
            exact pc_some (show P9 _ from (P9_c h171 (by decide)))
          · exact pc_none
        · exact pc_some (show P9 _ from h168)
      · exact pc_some (show P9 _ from h168)
    · refine pc_bind (P := (fun r => P9 r.2)) (q_f_X10_number h167) ?_
      rintro ⟨a172_0, a172_1⟩ h172
      replace h172 : P9 a172_1 := h172
      refine pc_ite ?_ ?_
      · refine pc_ite ?_ ?_
        · refine pc_ite ?_ ?_
          · refine pc_bind (P := P9) (q_f_X10_expect (P9_c (P9_c (P9_c h172 (by decide)) (by decide)) (by decide))) ?_
            intro a173 h173
            refine pc_bind (P := P9) (hr _ h173) ?_
            intro a174 h174
            refine pc_bind (P := P9) (q_f_X10_expect h174) ?_
            intro a175 h175
            exact pc_some (show P9 _ from (P9_c h175 (by decide)))
          · exact pc_none
        · exact pc_some (show P9 _ from h172)
      · exact pc_some (show P9 _ from h172)
  · refine pc_ite ?_ ?_
    · refine pc_ite ?_ ?_
      · refine pc_ite ?_ ?_
        · refine pc_ite ?_ ?_
          · exact pc_some (show P9 _ from (P9_c (P9_c (P9_c (P9_c h167 (by decide)) (by decide)) (by decide)) (by decide)))
          · exact pc_none
        · exact pc_some (show P9 _ from h167)
      · exact pc_some (show P9 _ from h167)
    · refine pc_bind (P := (fun r => P9 r.2)) (q_f_X10_number h167) ?_
      rintro ⟨a176_0, a176_1⟩ h176
      replace h176 : P9 a176_1 := h176
      refine pc_ite ?_ ?_
      · refine pc_ite ?_ ?_
        · refine pc_ite ?_ ?_
          · exact pc_some (show P9 _ from (P9_c (P9_c (P9_c (P9_c h176 (by decide)) (by decide)) (by decide)) (by decide)))
          · exact pc_none
        · exact pc_some (show P9 _ from h176)
      · exact pc_some (show P9 _ from h176)
theorem q_rec_readRow : ∀ n, (∀ {a b : Int32} (M : Mem), P9 M → pc P9 ((rec_readRow n).1 a b M)) ∧ (∀ {a b : Int32} (M : Mem), P9 M → pc P9 ((rec_readRow n).2 a b M))
  | 0 => ⟨fun _ _ => pc_none, fun _ _ => pc_none⟩
  | n + 1 => ⟨fun {a b} M h => show pc P9 (f_RX9_readRow (rec_readRow n).1 (rec_readRow n).2 a b M) from q_f_RX9_readRow (fun M h => (q_rec_readRow n).2 M h) h, fun {a b} M h => show pc P9 (f_RX9_readStep (rec_readRow n).1 (rec_readRow n).2 a b M) from q_f_RX9_readStep (fun M h => (q_rec_readRow n).1 M h) h⟩
theorem q_f_X9_readRow {x2 x3 : Int32} {M : Mem} (hM : P9 M) : pc P9 (f_X9_readRow x2 x3 M) := (q_rec_readRow 30).1 M hM
theorem q_f_X10_expectEnd {M : Mem} (hM : P9 M) : pc P9 (f_X10_expectEnd M) := by
  unfold f_X10_expectEnd
  refine pc_bind (P := (fun r => P9 r.2)) (q_f_X10_isAtEnd hM) ?_
  rintro ⟨a177_0, a177_1⟩ h177
  replace h177 : P9 a177_1 := h177
  refine pc_ite ?_ ?_
  · exact pc_some (show P9 _ from (q_f_X10_blame h177))
  · exact pc_some (show P9 _ from h177)
theorem q_f_X11_ahead {qc : Nat} {qd : Nat} {x1 x2 : Int32} {M : Mem} (h_qc : qc ≠ 54) (h_qd : qd ≠ 54) (hM : P9 M) : pc (fun r => P9 r.2) (f_X11_ahead qc qd x1 x2 M) := by
  unfold f_X11_ahead
  refine pc_bind (P := (fun r => P9 r.2)) (q_f_X11_needFit hM) ?_
  rintro ⟨a178_0, a178_1⟩ h178
  replace h178 : P9 a178_1 := h178
  cases a178_0
  · dsimp only
    refine pc_bind (P := (fun r => P9 r.2)) (q_f_X11_needFit h178) ?_
    rintro ⟨a179_0, a179_1⟩ h179
    replace h179 : P9 a179_1 := h179
    cases a179_0
    · dsimp only
      refine pc_bind (P := P9) (q_f_X6_letPass h_qc h_qd h179) ?_
      intro a180 h180
      refine pc_ite ?_ ?_
      · refine pc_bind (P := fun _ => True) pc_T ?_
        intro _ _
        exact pc_some (show P9 _ from h180)
      · refine pc_ite ?_ ?_
        · refine pc_bind (P := fun _ => True) pc_T ?_
          intro _ _
          exact pc_some (show P9 _ from h180)
        · refine pc_bind (P := fun _ => True) pc_T ?_
          intro _ _
          exact pc_some (show P9 _ from h180)
    · dsimp only
      exact pc_some (show P9 _ from h179)
  · dsimp only
    exact pc_some (show P9 _ from h178)
theorem q_L_X11_busiest_26 {qc : Nat} {qd : Nat} {x1 : Int32} (h_qc : qc ≠ 54) (h_qd : qd ≠ 54) : ∀ s, (fun r => P9 r.2.2.2) s → pc (sQ (fun r => P9 r.2.2.2) (fun r => P9 r.2)) (L_X11_busiest_26 qc qd x1 s) := by
  rintro ⟨b0, b1, b2, b3⟩ hM
  replace hM : P9 b3 := hM
  unfold L_X11_busiest_26
  refine pc_ite ?_ ?_
  · exact pc_some (show P9 _ from hM)
  · refine pc_bind (P := (fun r => P9 r.2)) (q_f_X4_dueBits (by decide) h_qc h_qd hM) ?_
    rintro ⟨a181_0, a181_1⟩ h181
    replace h181 : P9 a181_1 := h181
    refine pc_ite ?_ ?_
    · exact pc_some (show P9 _ from h181)
    · exact pc_some (show P9 _ from h181)
theorem q_f_X11_busiest {qc : Nat} {qd : Nat} {M : Mem} (h_qc : qc ≠ 54) (h_qd : qd ≠ 54) (hM : P9 M) : pc (fun r => P9 r.2) (f_X11_busiest qc qd M) := by
  unfold f_X11_busiest
  refine pc_bind (P := (fun r => P9 r.2)) (pc_wh (q_L_X11_busiest_26 h_qc h_qd) (show P9 _ from hM)) ?_
  rintro ⟨a182_0, a182_1⟩ h182
  replace h182 : P9 a182_1 := h182
  exact pc_some (show P9 _ from h182)
theorem q_f_X11_flood {x1 : Int32} {M : Mem} (hM : P9 M) : pc (fun r => P9 r.2) (f_X11_flood x1 M) := by
  unfold f_X11_flood
  refine pc_bind (P := (fun r => P9 r.2)) (q_f_X11_needBits hM) ?_
  rintro ⟨a183_0, a183_1⟩ h183
  replace h183 : P9 a183_1 := h183
  cases a183_0
  · dsimp only
    refine pc_bind (P := (fun r => P9 r.2)) (q_f_X2_fewest h183) ?_
    rintro ⟨a184_0, a184_1⟩ h184
    replace h184 : P9 a184_1 := h184
    exact pc_some (show P9 _ from h184)
  · dsimp only
    exact pc_some (show P9 _ from h183)
theorem q_L_X11_hold_18 {qc : Nat} {qd : Nat} {x1 x2 : Int32} (h_qc : qc ≠ 54) (h_qd : qd ≠ 54) : ∀ s, (fun r => P9 r.2.2) s → pc (sQ (fun r => P9 r.2.2) (fun r => P9 r.2)) (L_X11_hold_18 qc qd x1 x2 s) := by
  rintro ⟨b0, b1, b2⟩ hM
  replace hM : P9 b2 := hM
  unfold L_X11_hold_18
  refine pc_ite ?_ ?_
  · exact pc_some (show P9 _ from hM)
  · refine pc_bind (P := fun _ => True) pc_T ?_
    intro _ _
    refine pc_bind (P := (fun r => P9 r.2)) (q_f_X6_openIn h_qc h_qd hM) ?_
    rintro ⟨a185_0, a185_1⟩ h185
    replace h185 : P9 a185_1 := h185
    refine pc_bind (P := fun _ => True) pc_T ?_
    intro _ _
    refine pc_ite ?_ ?_
    · exact pc_some (show P9 _ from h185)
    · exact pc_some (show P9 _ from h185)
theorem q_f_X11_hold {qc : Nat} {qd : Nat} {x1 x2 : Int32} {M : Mem} (h_qc : qc ≠ 54) (h_qd : qd ≠ 54) (hM : P9 M) : pc (fun r => P9 r.2) (f_X11_hold qc qd x1 x2 M) := by
  unfold f_X11_hold
  refine pc_bind (P := (fun r => P9 r.2)) (q_f_X11_needMast hM) ?_
  rintro ⟨a186_0, a186_1⟩ h186
  replace h186 : P9 a186_1 := h186
  cases a186_0
  · dsimp only
    refine pc_bind (P := (fun r => P9 r.2)) (q_f_X11_needFit h186) ?_
    rintro ⟨a187_0, a187_1⟩ h187
    replace h187 : P9 a187_1 := h187
    cases a187_0
    · dsimp only
      refine pc_bind (P := (fun r => P9 r.2)) (pc_wh (q_L_X11_hold_18 h_qc h_qd) (show P9 _ from h187)) ?_
      rintro ⟨a188_0, a188_1⟩ h188
      replace h188 : P9 a188_1 := h188
      exact pc_some (show P9 _ from h188)
    · dsimp only
      exact pc_some (show P9 _ from h187)
  · dsimp only
    exact pc_some (show P9 _ from h186)
theorem q_f_X11_holds {x1 : Int32} {M : Mem} (hM : P9 M) : pc (fun r => P9 r.2) (f_X11_holds x1 M) := by
  unfold f_X11_holds
  refine pc_bind (P := (fun r => P9 r.2)) (q_f_X11_needBits hM) ?_
  rintro ⟨a189_0, a189_1⟩ h189
  replace h189 : P9 a189_1 := h189
  cases a189_0
  · dsimp only
    refine pc_bind (P := fun _ => True) pc_T ?_
    intro _ _
    exact pc_some (show P9 _ from h189)
  · dsimp only
    exact pc_some (show P9 _ from h189)
theorem q_f_X11_image {M : Mem} (hM : P9 M) : pc (fun r => P9 r.2) (f_X11_image M) := by
  unfold f_X11_image
  refine pc_bind (P := (fun r => P9 r.2)) (q_f_X7_keepImage hM) ?_
  rintro ⟨a190_0, a190_1⟩ h190
  replace h190 : P9 a190_1 := h190
  refine pc_ite ?_ ?_
  · exact pc_some (show P9 _ from h190)
  · exact pc_some (show P9 _ from h190)
theorem q_f_X11_lawful {qc : Nat} {qd : Nat} {x1 x2 x3 : Int32} {M : Mem} (h_qc : qc ≠ 54) (h_qd : qd ≠ 54) (hM : P9 M) : pc (fun r => P9 r.2) (f_X11_lawful qc qd x1 x2 x3 M) := by
  unfold f_X11_lawful
  refine pc_bind (P := (fun r => P9 r.2)) (q_f_X11_needBoard hM) ?_
  rintro ⟨a191_0, a191_1⟩ h191
  replace h191 : P9 a191_1 := h191
  cases a191_0
  · dsimp only
    refine pc_bind (P := (fun r => P9 r.2)) (q_f_X11_needFit h191) ?_
    rintro ⟨a192_0, a192_1⟩ h192
    replace h192 : P9 a192_1 := h192
    cases a192_0
    · dsimp only
      refine pc_bind (P := (fun r => P9 r.2)) (q_f_X11_needFit h192) ?_
      rintro ⟨a193_0, a193_1⟩ h193
      replace h193 : P9 a193_1 := h193
      cases a193_0
      · dsimp only
        refine pc_bind (P := fun _ => True) pc_T ?_
        intro _ _
        refine pc_bind (P := (fun r => P9 r.2)) (q_f_X4_isDue h_qc h_qd h193) ?_
        rintro ⟨a194_0, a194_1⟩ h194
        replace h194 : P9 a194_1 := h194
        refine pc_ite ?_ ?_
        · exact pc_some (show P9 _ from h194)
        · exact pc_none
      · dsimp only
        exact pc_some (show P9 _ from h193)
    · dsimp only
      exact pc_some (show P9 _ from h192)
  · dsimp only
    exact pc_some (show P9 _ from h191)
theorem q_L_X11_letter_26 {qc : Nat} {qd : Nat} (h_qc : qc ≠ 54) (h_qd : qd ≠ 54) : ∀ s, (fun r => P9 r.2.2.2.2.2) s → pc (sQ (fun r => P9 r.2.2.2.2.2) (fun r => P9 r.2.2.2)) (L_X11_letter_26 qc qd s) := by
  rintro ⟨b0, b1, b2, b3, b4, b5⟩ hM
  replace hM : P9 b5 := hM
  unfold L_X11_letter_26
  refine pc_ite ?_ ?_
  · exact pc_some (show P9 _ from hM)
  · refine pc_ite ?_ ?_
    · exact pc_some (show P9 _ from hM)
    · refine pc_bind (P := (fun r => P9 r.2)) (q_f_X6_openIn h_qc h_qd hM) ?_
      rintro ⟨a195_0, a195_1⟩ h195
      replace h195 : P9 a195_1 := h195
      refine pc_ite ?_ ?_
      · exact pc_some (show P9 _ from h195)
      · refine pc_ite ?_ ?_
        · exact pc_some (show P9 _ from h195)
        · exact pc_some (show P9 _ from h195)
theorem q_f_X11_letter {qc : Nat} {qd : Nat} {x1 x2 : Int32} {M : Mem} (h_qc : qc ≠ 54) (h_qd : qd ≠ 54) (hM : P9 M) : pc (fun r => P9 r.2) (f_X11_letter qc qd x1 x2 M) := by
  unfold f_X11_letter
  refine pc_bind (P := (fun r => P9 r.2)) (q_f_X11_needBoard hM) ?_
  rintro ⟨a196_0, a196_1⟩ h196
  replace h196 : P9 a196_1 := h196
  cases a196_0
  · dsimp only
    refine pc_bind (P := (fun r => P9 r.2)) (q_f_X11_needFit h196) ?_
    rintro ⟨a197_0, a197_1⟩ h197
    replace h197 : P9 a197_1 := h197
    cases a197_0
    · dsimp only
      refine pc_bind (P := (fun r => P9 r.2.2.2)) (pc_wh (q_L_X11_letter_26 h_qc h_qd) (show P9 _ from h197)) ?_
      rintro ⟨a198_0, a198_1, a198_2, a198_3⟩ h198
      replace h198 : P9 a198_3 := h198
      refine pc_ite ?_ ?_
      · exact pc_some (show P9 _ from h198)
      · refine pc_ite ?_ ?_
        · exact pc_some (show P9 _ from h198)
        · exact pc_some (show P9 _ from h198)
    · dsimp only
      exact pc_some (show P9 _ from h197)
  · dsimp only
    exact pc_some (show P9 _ from h196)
theorem q_L_X11_often_19 {qc : Nat} {qd : Nat} {x1 x2 : Int32} (h_qc : qc ≠ 54) (h_qd : qd ≠ 54) : ∀ s, (fun r => P9 r.2.2) s → pc (sQ (fun r => P9 r.2.2) (fun r => P9 r.2)) (L_X11_often_19 qc qd x1 x2 s) := by
  rintro ⟨b0, b1, b2⟩ hM
  replace hM : P9 b2 := hM
  unfold L_X11_often_19
  refine pc_ite ?_ ?_
  · exact pc_some (show P9 _ from hM)
  · refine pc_bind (P := (fun r => P9 r.2)) (q_f_X6_openIn h_qc h_qd hM) ?_
    rintro ⟨a199_0, a199_1⟩ h199
    replace h199 : P9 a199_1 := h199
    exact pc_some (show P9 _ from h199)
theorem q_f_X11_often {qc : Nat} {qd : Nat} {x1 x2 : Int32} {M : Mem} (h_qc : qc ≠ 54) (h_qd : qd ≠ 54) (hM : P9 M) : pc (fun r => P9 r.2) (f_X11_often qc qd x1 x2 M) := by
  unfold f_X11_often
  refine pc_bind (P := (fun r => P9 r.2)) (q_f_X11_needBoard hM) ?_
  rintro ⟨a200_0, a200_1⟩ h200
  replace h200 : P9 a200_1 := h200
  cases a200_0
  · dsimp only
    refine pc_bind (P := (fun r => P9 r.2)) (q_f_X11_needFit h200) ?_
    rintro ⟨a201_0, a201_1⟩ h201
    replace h201 : P9 a201_1 := h201
    cases a201_0
    · dsimp only
      refine pc_bind (P := (fun r => P9 r.2)) (pc_wh (q_L_X11_often_19 h_qc h_qd) (show P9 _ from h201)) ?_
      rintro ⟨a202_0, a202_1⟩ h202
      replace h202 : P9 a202_1 := h202
      exact pc_some (show P9 _ from h202)
    · dsimp only
      exact pc_some (show P9 _ from h201)
  · dsimp only
    exact pc_some (show P9 _ from h200)
theorem q_f_X11_openNow {qc : Nat} {qd : Nat} {M : Mem} (h_qc : qc ≠ 54) (h_qd : qd ≠ 54) (hM : P9 M) : pc (fun r => P9 r.2) (f_X11_openNow qc qd M) := by
  unfold f_X11_openNow
  refine pc_bind (P := (fun r => P9 r.2)) (q_f_X6_openIn h_qc h_qd hM) ?_
  rintro ⟨a203_0, a203_1⟩ h203
  replace h203 : P9 a203_1 := h203
  exact pc_some (show P9 _ from h203)
theorem q_L_X11_opens_7 {qc : Nat} {qd : Nat} {x1 : Int32} (h_qc : qc ≠ 54) (h_qd : qd ≠ 54) : ∀ s, (fun r => P9 r.2) s → pc (sQ (fun r => P9 r.2) (sQ (fun r => P9 r.2) P9)) (L_X11_opens_7 qc qd x1 s) := by
  rintro ⟨b0, b1⟩ hM
  replace hM : P9 b1 := hM
  unfold L_X11_opens_7
  refine pc_ite ?_ ?_
  · exact pc_some (show P9 _ from hM)
  · refine pc_bind (P := (fun r => P9 r.2)) (q_f_X6_openIn h_qc h_qd hM) ?_
    rintro ⟨a204_0, a204_1⟩ h204
    replace h204 : P9 a204_1 := h204
    refine pc_ite ?_ ?_
    · exact pc_some (show P9 _ from h204)
    · exact pc_some (show P9 _ from h204)
theorem q_f_X11_opens {qc : Nat} {qd : Nat} {x1 : Int32} {M : Mem} (h_qc : qc ≠ 54) (h_qd : qd ≠ 54) (hM : P9 M) : pc (fun r => P9 r.2) (f_X11_opens qc qd x1 M) := by
  unfold f_X11_opens
  refine pc_bind (P := (fun r => P9 r.2)) (q_f_X11_needBoard hM) ?_
  rintro ⟨a205_0, a205_1⟩ h205
  replace h205 : P9 a205_1 := h205
  cases a205_0
  · dsimp only
    refine pc_bind (P := (sQ (fun r => P9 r.2) P9)) (pc_wh (q_L_X11_opens_7 h_qc h_qd) (show P9 _ from h205)) ?_
    intro ee he
    rcases ee with ee | ee
    · obtain ⟨a206_0, a206_1⟩ := ee
      have h206 : P9 a206_1 := he
      dsimp only
      exact pc_some (show P9 _ from h206)
    · have h207 : P9 ee := he
      dsimp only
      exact pc_some (show P9 _ from h207)
  · dsimp only
    exact pc_some (show P9 _ from h205)
theorem q_L_X11_peak_14 {qc : Nat} {qd : Nat} (h_qc : qc ≠ 54) (h_qd : qd ≠ 54) : ∀ s, (fun r => P9 r.2.2.2) s → pc (sQ (fun r => P9 r.2.2.2) (fun r => P9 r.2.2)) (L_X11_peak_14 qc qd s) := by
  rintro ⟨b0, b1, b2, b3⟩ hM
  replace hM : P9 b3 := hM
  unfold L_X11_peak_14
  refine pc_ite ?_ ?_
  · exact pc_some (show P9 _ from hM)
  · refine pc_bind (P := (fun r => P9 r.2)) (q_f_X6_openIn h_qc h_qd hM) ?_
    rintro ⟨a208_0, a208_1⟩ h208
    replace h208 : P9 a208_1 := h208
    refine pc_ite ?_ ?_
    · exact pc_some (show P9 _ from h208)
    · exact pc_some (show P9 _ from h208)
theorem q_f_X11_peak {qc : Nat} {qd : Nat} {x1 : Int32} {M : Mem} (h_qc : qc ≠ 54) (h_qd : qd ≠ 54) (hM : P9 M) : pc (fun r => P9 r.2) (f_X11_peak qc qd x1 M) := by
  unfold f_X11_peak
  refine pc_bind (P := (fun r => P9 r.2)) (q_f_X11_needFit hM) ?_
  rintro ⟨a209_0, a209_1⟩ h209
  replace h209 : P9 a209_1 := h209
  cases a209_0
  · dsimp only
    refine pc_bind (P := (fun r => P9 r.2.2)) (pc_wh (q_L_X11_peak_14 h_qc h_qd) (show P9 _ from h209)) ?_
    rintro ⟨a210_0, a210_1, a210_2⟩ h210
    replace h210 : P9 a210_2 := h210
    refine pc_ite ?_ ?_
    · exact pc_some (show P9 _ from h210)
    · exact pc_some (show P9 _ from h210)
  · dsimp only
    exact pc_some (show P9 _ from h209)
theorem q_f_X11_reach {qc : Nat} {qd : Nat} {x1 x2 : Int32} {M : Mem} (h_qc : qc ≠ 54) (h_qd : qd ≠ 54) (hM : P9 M) : pc (fun r => P9 r.2) (f_X11_reach qc qd x1 x2 M) := by
  unfold f_X11_reach
  refine pc_bind (P := (fun r => P9 r.2)) (q_f_X11_needBoard hM) ?_
  rintro ⟨a211_0, a211_1⟩ h211
  replace h211 : P9 a211_1 := h211
  cases a211_0
  · dsimp only
    refine pc_bind (P := (fun r => P9 r.2)) (q_f_X11_needFit h211) ?_
    rintro ⟨a212_0, a212_1⟩ h212
    replace h212 : P9 a212_1 := h212
    cases a212_0
    · dsimp only
      refine pc_bind (P := fun _ => True) pc_T ?_
      intro _ _
      refine pc_bind (P := (fun r => P9 r.2)) (q_f_X11_openNow h_qc h_qd h212) ?_
      rintro ⟨a213_0, a213_1⟩ h213
      replace h213 : P9 a213_1 := h213
      refine pc_bind (P := fun _ => True) pc_T ?_
      intro _ _
      exact pc_some (show P9 _ from h213)
    · dsimp only
      exact pc_some (show P9 _ from h212)
  · dsimp only
    exact pc_some (show P9 _ from h211)
theorem q_f_X11_restore {M : Mem} (hM : P9 M) : pc (fun r => P9 r.2) (f_X11_restore M) := by
  unfold f_X11_restore
  refine pc_bind (P := (fun r => P9 r.2)) (q_f_X7_bringBackImage hM) ?_
  rintro ⟨a214_0, a214_1⟩ h214
  replace h214 : P9 a214_1 := h214
  refine pc_ite ?_ ?_
  · exact pc_some (show P9 _ from h214)
  · exact pc_some (show P9 _ from (P9_c (P9_c h214 (by decide)) (by decide)))
theorem q_f_X11_smells {x1 x2 : Int32} {M : Mem} (hM : P9 M) : pc (fun r => P9 r.2) (f_X11_smells x1 x2 M) := by
  unfold f_X11_smells
  refine pc_bind (P := (fun r => P9 r.2)) (q_f_X11_needBoard hM) ?_
  rintro ⟨a215_0, a215_1⟩ h215
  replace h215 : P9 a215_1 := h215
  cases a215_0
  · dsimp only
    refine pc_bind (P := (fun r => P9 r.2)) (q_f_X11_needBits h215) ?_
    rintro ⟨a216_0, a216_1⟩ h216
    replace h216 : P9 a216_1 := h216
    cases a216_0
    · dsimp only
      refine pc_bind (P := fun _ => True) pc_T ?_
      intro _ _
      exact pc_some (show P9 _ from h216)
    · dsimp only
      exact pc_some (show P9 _ from h216)
  · dsimp only
    exact pc_some (show P9 _ from h215)
theorem q_L_X11_soonest_29 {qc : Nat} {qd : Nat} {x1 x2 : Int32} (h_qc : qc ≠ 54) (h_qd : qd ≠ 54) : ∀ s, (fun r => P9 r.2.2.2) s → pc (sQ (fun r => P9 r.2.2.2) (fun r => P9 r.2.2)) (L_X11_soonest_29 qc qd x1 x2 s) := by
  rintro ⟨b0, b1, b2, b3⟩ hM
  replace hM : P9 b3 := hM
  unfold L_X11_soonest_29
  refine pc_ite ?_ ?_
  · exact pc_some (show P9 _ from hM)
  · refine pc_bind (P := P9) (q_f_X6_sail h_qc h_qd hM) ?_
    intro a217 h217
    refine pc_ite ?_ ?_
    · exact pc_some (show P9 _ from h217)
    · refine pc_ite ?_ ?_
      · exact pc_some (show P9 _ from h217)
      · refine pc_ite ?_ ?_
        · exact pc_some (show P9 _ from h217)
        · exact pc_some (show P9 _ from h217)
theorem q_f_X11_soonest {qc : Nat} {qd : Nat} {x1 x2 x3 : Int32} {M : Mem} (h_qc : qc ≠ 54) (h_qd : qd ≠ 54) (hM : P9 M) : pc (fun r => P9 r.2) (f_X11_soonest qc qd x1 x2 x3 M) := by
  unfold f_X11_soonest
  refine pc_bind (P := (fun r => P9 r.2)) (q_f_X11_needMast hM) ?_
  rintro ⟨a218_0, a218_1⟩ h218
  replace h218 : P9 a218_1 := h218
  cases a218_0
  · dsimp only
    refine pc_bind (P := (fun r => P9 r.2)) (q_f_X11_needFit h218) ?_
    rintro ⟨a219_0, a219_1⟩ h219
    replace h219 : P9 a219_1 := h219
    cases a219_0
    · dsimp only
      refine pc_bind (P := (fun r => P9 r.2)) (q_f_X11_needFit h219) ?_
      rintro ⟨a220_0, a220_1⟩ h220
      replace h220 : P9 a220_1 := h220
      cases a220_0
      · dsimp only
        refine pc_bind (P := (fun r => P9 r.2.2)) (pc_wh (q_L_X11_soonest_29 h_qc h_qd) (show P9 _ from h220)) ?_
        rintro ⟨a221_0, a221_1, a221_2⟩ h221
        replace h221 : P9 a221_2 := h221
        refine pc_ite ?_ ?_
        · exact pc_some (show P9 _ from h221)
        · exact pc_some (show P9 _ from h221)
      · dsimp only
        exact pc_some (show P9 _ from h220)
    · dsimp only
      exact pc_some (show P9 _ from h219)
  · dsimp only
    exact pc_some (show P9 _ from h218)
theorem q_f_X11_street {qc : Nat} {qd : Nat} {x1 x2 : Int32} {M : Mem} (h_qc : qc ≠ 54) (h_qd : qd ≠ 54) (hM : P9 M) : pc (fun r => P9 r.2) (f_X11_street qc qd x1 x2 M) := by
  unfold f_X11_street
  refine pc_bind (P := (fun r => P9 r.2)) (q_f_X11_needThere hM) ?_
  rintro ⟨a222_0, a222_1⟩ h222
  replace h222 : P9 a222_1 := h222
  cases a222_0
  · dsimp only
    refine pc_bind (P := (fun r => P9 r.2)) (q_f_X11_needFit h222) ?_
    rintro ⟨a223_0, a223_1⟩ h223
    replace h223 : P9 a223_1 := h223
    cases a223_0
    · dsimp only
      refine pc_ite ?_ ?_
      · refine pc_ite ?_ ?_
        · exact pc_some (show P9 _ from h223)
        · exact pc_none
      · refine pc_ite ?_ ?_
        · refine pc_ite ?_ ?_
          · exact pc_some (show P9 _ from h223)
          · exact pc_none
        · refine pc_ite ?_ ?_
          · refine pc_ite ?_ ?_
            · exact pc_some (show P9 _ from h223)
            · exact pc_none
          · refine pc_bind (P := (fun r => P9 r.2)) (q_f_X11_openNow h_qc h_qd h223) ?_
            rintro ⟨a224_0, a224_1⟩ h224
            replace h224 : P9 a224_1 := h224
            refine pc_bind (P := fun _ => True) pc_T ?_
            intro _ _
            refine pc_ite ?_ ?_
            · exact pc_some (show P9 _ from h224)
            · exact pc_some (show P9 _ from h224)
    · dsimp only
      exact pc_some (show P9 _ from h223)
  · dsimp only
    exact pc_some (show P9 _ from h222)
theorem q_L_X11_tallest_11 {qc : Nat} {qd : Nat} {x1 : Int32} (h_qc : qc ≠ 54) (h_qd : qd ≠ 54) : ∀ s, (fun r => P9 r.2) s → pc (sQ (fun r => P9 r.2) (sQ (fun r => P9 r.2) P9)) (L_X11_tallest_11 qc qd x1 s) := by
  rintro ⟨b0, b1⟩ hM
  replace hM : P9 b1 := hM
  unfold L_X11_tallest_11
  refine pc_ite ?_ ?_
  · exact pc_some (show P9 _ from hM)
  · refine pc_bind (P := P9) (q_f_X6_sail h_qc h_qd hM) ?_
    intro a225 h225
    refine pc_ite ?_ ?_
    · exact pc_some (show P9 _ from h225)
    · exact pc_some (show P9 _ from h225)
theorem q_f_X11_tallest {qc : Nat} {qd : Nat} {x1 : Int32} {M : Mem} (h_qc : qc ≠ 54) (h_qd : qd ≠ 54) (hM : P9 M) : pc (fun r => P9 r.2) (f_X11_tallest qc qd x1 M) := by
  unfold f_X11_tallest
  refine pc_bind (P := (fun r => P9 r.2)) (q_f_X11_needFit hM) ?_
  rintro ⟨a226_0, a226_1⟩ h226
  replace h226 : P9 a226_1 := h226
  cases a226_0
  · dsimp only
    refine pc_bind (P := (sQ (fun r => P9 r.2) P9)) (pc_wh (q_L_X11_tallest_11 h_qc h_qd) (show P9 _ from h226)) ?_
    intro ee he
    rcases ee with ee | ee
    · obtain ⟨a227_0, a227_1⟩ := ee
      have h227 : P9 a227_1 := he
      dsimp only
      exact pc_some (show P9 _ from h227)
    · have h228 : P9 ee := he
      dsimp only
      exact pc_some (show P9 _ from h228)
  · dsimp only
    exact pc_some (show P9 _ from h226)
theorem q_f_X11_told {qc : Nat} {qd : Nat} {x1 : Int32} {M : Mem} (h_qc : qc ≠ 54) (h_qd : qd ≠ 54) (hM : P9 M) : pc (fun r => P9 r.2) (f_X11_told qc qd x1 M) := by
  unfold f_X11_told
  refine pc_bind (P := (fun r => P9 r.2)) (q_f_X11_needFit hM) ?_
  rintro ⟨a229_0, a229_1⟩ h229
  replace h229 : P9 a229_1 := h229
  cases a229_0
  · dsimp only
    refine pc_ite ?_ ?_
    · exact pc_some (show P9 _ from h229)
    · refine pc_ite ?_ ?_
      · exact pc_some (show P9 _ from h229)
      · refine pc_ite ?_ ?_
        · exact pc_some (show P9 _ from h229)
        · refine pc_ite ?_ ?_
          · exact pc_some (show P9 _ from h229)
          · refine pc_ite ?_ ?_
            · refine pc_bind (P := (fun r => P9 r.2)) (q_f_X11_openNow h_qc h_qd h229) ?_
              rintro ⟨a230_0, a230_1⟩ h230
              replace h230 : P9 a230_1 := h230
              exact pc_some (show P9 _ from h230)
            · refine pc_ite ?_ ?_
              · refine pc_bind (P := fun _ => True) pc_T ?_
                intro _ _
                exact pc_some (show P9 _ from h229)
              · refine pc_ite ?_ ?_
                · refine pc_bind (P := fun _ => True) pc_T ?_
                  intro _ _
                  exact pc_some (show P9 _ from h229)
                · refine pc_ite ?_ ?_
                  · refine pc_bind (P := fun _ => True) pc_T ?_
                    intro _ _
                    exact pc_some (show P9 _ from h229)
                  · refine pc_ite ?_ ?_
                    · exact pc_some (show P9 _ from h229)
                    · exact pc_some (show P9 _ from h229)
  · dsimp only
    exact pc_some (show P9 _ from h229)
theorem q_f_X11_trip {qc : Nat} {qd : Nat} {x1 x2 x3 : Int32} {M : Mem} (h_qc : qc ≠ 54) (h_qd : qd ≠ 54) (hM : P9 M) : pc (fun r => P9 r.2) (f_X11_trip qc qd x1 x2 x3 M) := by
  unfold f_X11_trip
  refine pc_bind (P := (fun r => P9 r.2)) (q_f_X11_needMast hM) ?_
  rintro ⟨a231_0, a231_1⟩ h231
  replace h231 : P9 a231_1 := h231
  cases a231_0
  · dsimp only
    refine pc_bind (P := (fun r => P9 r.2)) (q_f_X11_needFit h231) ?_
    rintro ⟨a232_0, a232_1⟩ h232
    replace h232 : P9 a232_1 := h232
    cases a232_0
    · dsimp only
      refine pc_bind (P := (fun r => P9 r.2)) (q_f_X11_needFit h232) ?_
      rintro ⟨a233_0, a233_1⟩ h233
      replace h233 : P9 a233_1 := h233
      cases a233_0
      · dsimp only
        refine pc_bind (P := P9) (q_f_X6_sail h_qc h_qd h233) ?_
        intro a234 h234
        refine pc_ite ?_ ?_
        · exact pc_some (show P9 _ from h234)
        · refine pc_ite ?_ ?_
          · exact pc_some (show P9 _ from h234)
          · refine pc_bind (P := fun _ => True) pc_T ?_
            intro _ _
            exact pc_some (show P9 _ from h234)
      · dsimp only
        exact pc_some (show P9 _ from h233)
    · dsimp only
      exact pc_some (show P9 _ from h232)
  · dsimp only
    exact pc_some (show P9 _ from h231)
theorem q_f_X11_undo {M : Mem} (hM : P9 M) : pc (fun r => P9 r.2) (f_X11_undo M) := by
  unfold f_X11_undo
  refine pc_ite ?_ ?_
  · exact pc_some (show P9 _ from hM)
  · refine pc_bind (P := P9) (q_f_X7_bringBack hM) ?_
    intro a235 h235
    exact pc_some (show P9 _ from (P9_c (P9_c h235 (by decide)) (by decide)))
theorem q_f_X11_walk {qc : Nat} {qd : Nat} {x1 x2 x3 : Int32} {M : Mem} (h_qc : qc ≠ 54) (h_qd : qd ≠ 54) (hM : P9 M) : pc (fun r => P9 r.2) (f_X11_walk qc qd x1 x2 x3 M) := by
  unfold f_X11_walk
  refine pc_bind (P := (fun r => P9 r.2)) (q_f_X11_needBoard hM) ?_
  rintro ⟨a236_0, a236_1⟩ h236
  replace h236 : P9 a236_1 := h236
  cases a236_0
  · dsimp only
    refine pc_bind (P := (fun r => P9 r.2)) (q_f_X11_needBoard h236) ?_
    rintro ⟨a237_0, a237_1⟩ h237
    replace h237 : P9 a237_1 := h237
    cases a237_0
    · dsimp only
      refine pc_bind (P := (fun r => P9 r.2)) (q_f_X11_needFit h237) ?_
      rintro ⟨a238_0, a238_1⟩ h238
      replace h238 : P9 a238_1 := h238
      cases a238_0
      · dsimp only
        refine pc_bind (P := fun _ => True) pc_T ?_
        intro _ _
        refine pc_bind (P := (fun r => P9 r.2)) (q_f_X11_openNow h_qc h_qd h238) ?_
        rintro ⟨a239_0, a239_1⟩ h239
        replace h239 : P9 a239_1 := h239
        refine pc_ite ?_ ?_
        · refine pc_ite ?_ ?_
          · refine pc_bind (P := fun _ => True) pc_T ?_
            intro _ _
            exact pc_some (show P9 _ from h239)
          · refine pc_bind (P := fun _ => True) pc_T ?_
            intro _ _
            exact pc_some (show P9 _ from h239)
        · refine pc_ite ?_ ?_
          · refine pc_bind (P := fun _ => True) pc_T ?_
            intro _ _
            exact pc_some (show P9 _ from h239)
          · refine pc_bind (P := fun _ => True) pc_T ?_
            intro _ _
            exact pc_some (show P9 _ from h239)
      · dsimp only
        exact pc_some (show P9 _ from h238)
    · dsimp only
      exact pc_some (show P9 _ from h237)
  · dsimp only
    exact pc_some (show P9 _ from h236)
theorem q_L_X1_read_35  : ∀ s, (fun r => P9 r.2) s → pc (sQ (fun r => P9 r.2) P9) (L_X1_read_35 s) := by
  rintro ⟨b0, b1⟩ hM
  replace hM : P9 b1 := hM
  unfold L_X1_read_35
  refine pc_ite ?_ ?_
  · exact pc_some (show P9 _ from hM)
  · refine pc_ite ?_ ?_
    · refine pc_bind (P := (fun r => P9 r.2)) (q_f_X10_isAtEnd hM) ?_
      rintro ⟨a240_0, a240_1⟩ h240
      replace h240 : P9 a240_1 := h240
      refine pc_ite ?_ ?_
      · refine pc_bind (P := (fun r => P9 r.2)) (q_f_X10_word h240) ?_
        rintro ⟨a241_0, a241_1⟩ h241
        replace h241 : P9 a241_1 := h241
        refine pc_ite ?_ ?_
        · refine pc_bind (P := P9) (q_f_X1_readClause (q_f_X10_blame h241)) ?_
          intro a242 h242
          refine pc_bind (P := P9) (q_f_X10_expect h242) ?_
          intro a243 h243
          exact pc_some (show P9 _ from h243)
        · refine pc_bind (P := P9) (q_f_X1_readClause h241) ?_
          intro a244 h244
          refine pc_bind (P := P9) (q_f_X10_expect h244) ?_
          intro a245 h245
          exact pc_some (show P9 _ from h245)
      · exact pc_some (show P9 _ from h240)
    · exact pc_some (show P9 _ from hM)
theorem q_f_X1_read {M : Mem} (hM : P9 M) : pc P9 (f_X1_read M) := by
  unfold f_X1_read
  refine pc_bind (P := P9) (pc_wh (q_L_X1_read_35) (show P9 _ from (P9_fill (P9_c (P9_c (P9_c (P9_c (P9_c hM (by decide)) (by decide)) (by decide)) (by decide)) (by decide)) (by decide)))) ?_
  intro a246 h246
  exact pc_some (show P9 _ from h246)
theorem q_L_X5_weigh_31 {qs : Nat} {qn : Nat} {x1 : Int32} (h_qs : qs ≠ 54) (h_qn : qn ≠ 54) : ∀ s, (fun r => P9 r.2) s → pc (sQ (fun r => P9 r.2) P9) (L_X5_weigh_31 qs qn x1 s) := by
  rintro ⟨b0, b1⟩ hM
  replace hM : P9 b1 := hM
  unfold L_X5_weigh_31
  refine pc_ite ?_ ?_
  · exact pc_some (show P9 _ from hM)
  · refine pc_bind (P := P9) (q_f_X5_weighTo h_qs h_qn hM) ?_
    intro a247 h247
    exact pc_some (show P9 _ from h247)
theorem q_L_X5_weigh_18 {qs : Nat} {qn : Nat} (h_qs : qs ≠ 54) (h_qn : qn ≠ 54) : ∀ s, (fun r => P9 r.2) s → pc (sQ (fun r => P9 r.2) P9) (L_X5_weigh_18 qs qn s) := by
  rintro ⟨b0, b1⟩ hM
  replace hM : P9 b1 := hM
  unfold L_X5_weigh_18
  refine pc_ite ?_ ?_
  · exact pc_some (show P9 _ from hM)
  · refine pc_bind (P := P9) (pc_wh (q_L_X5_weigh_31 h_qs h_qn) (show P9 _ from hM)) ?_
    intro a248 h248
    exact pc_some (show P9 _ from h248)
theorem q_L_X5_weigh_73 {qs : Nat} {qn : Nat} {x1 : Int32} (h_qs : qs ≠ 54) (h_qn : qn ≠ 54) : ∀ s, (fun r => P9 r.2) s → pc (sQ (fun r => P9 r.2) P9) (L_X5_weigh_73 qs qn x1 s) := by
  rintro ⟨b0, b1⟩ hM
  replace hM : P9 b1 := hM
  unfold L_X5_weigh_73
  refine pc_ite ?_ ?_
  · exact pc_some (show P9 _ from hM)
  · refine pc_bind (P := P9) (q_f_X5_weighOn h_qs h_qn hM) ?_
    intro a249 h249
    exact pc_some (show P9 _ from h249)
theorem q_L_X5_weigh_67 {qs : Nat} {qn : Nat} (h_qs : qs ≠ 54) (h_qn : qn ≠ 54) : ∀ s, (fun r => P9 r.2) s → pc (sQ (fun r => P9 r.2) P9) (L_X5_weigh_67 qs qn s) := by
  rintro ⟨b0, b1⟩ hM
  replace hM : P9 b1 := hM
  unfold L_X5_weigh_67
  refine pc_ite ?_ ?_
  · exact pc_some (show P9 _ from hM)
  · refine pc_bind (P := P9) (pc_wh (q_L_X5_weigh_73 h_qs h_qn) (show P9 _ from hM)) ?_
    intro a250 h250
    exact pc_some (show P9 _ from h250)
theorem q_L_X5_weigh_120 {qs : Nat} {qn : Nat} (h_qs : qs ≠ 54) (h_qn : qn ≠ 54) : ∀ s, (fun r => P9 r.2) s → pc (sQ (fun r => P9 r.2) P9) (L_X5_weigh_120 qs qn s) := by
  rintro ⟨b0, b1⟩ hM
  replace hM : P9 b1 := hM
  unfold L_X5_weigh_120
  refine pc_ite ?_ ?_
  · exact pc_some (show P9 _ from hM)
  · refine pc_ite ?_ ?_
    · exact pc_some (show P9 _ from hM)
    · refine pc_bind (P := fun _ => True) pc_T ?_
      intro _ _
      exact pc_some (show P9 _ from (P9_c hM (by decide)))
theorem q_f_X5_weigh {qs : Nat} {qn : Nat} {M : Mem} (h_qs : qs ≠ 54) (h_qn : qn ≠ 54) (hM : P9 M) : pc P9 (f_X5_weigh qs qn M) := by
  unfold f_X5_weigh
  refine pc_bind (P := P9) (pc_wh (q_L_X5_weigh_18 h_qs h_qn) (show P9 _ from (P9_fill (P9_fill hM (by decide)) (by decide)))) ?_
  intro a251 h251
  refine pc_bind (P := P9) (pc_wh (q_L_X5_weigh_67 h_qs h_qn) (show P9 _ from h251)) ?_
  intro a252 h252
  refine pc_ite ?_ ?_
  · refine pc_bind (P := P9) (pc_wh (q_L_X5_weigh_120 h_qs h_qn) (show P9 _ from (P9_c h252 (by decide)))) ?_
    intro a253 h253
    exact pc_some (show P9 _ from h253)
  · refine pc_bind (P := P9) (pc_wh (q_L_X5_weigh_120 h_qs h_qn) (show P9 _ from (P9_c h252 (by decide)))) ?_
    intro a254 h254
    exact pc_some (show P9 _ from h254)
theorem q_f_X9_read {x2 : Int32} {M : Mem} (hM : P9 M) : pc P9 (f_X9_read x2 M) := by
  unfold f_X9_read
  refine pc_bind (P := P9) (q_f_X9_readRow (P9_c hM (by decide))) ?_
  intro a255 h255
  refine pc_bind (P := P9) (q_f_X10_expectEnd h255) ?_
  intro a256 h256
  exact pc_some (show P9 _ from h256)
theorem q_f_X9_run {qc : Nat} {qd : Nat} {M : Mem} (h_qc : qc ≠ 54) (h_qd : qd ≠ 54) (hM : P9 M) : pc (fun r => P9 r.2) (f_X9_run qc qd M) := by
  unfold f_X9_run
  refine pc_bind (P := P9) (q_f_X9_runRow h_qc h_qd (P9_c (P9_c (P9_c hM (by decide)) (by decide)) (by decide))) ?_
  intro a257 h257
  exact pc_some (show P9 _ from h257)
theorem q_f_X11_board {qc : Nat} {qd : Nat} {x1 x2 : Int32} {M : Mem} (h_qc : qc ≠ 54) (h_qd : qd ≠ 54) (hM : P9 M) : pc (fun r => P9 r.2) (f_X11_board qc qd x1 x2 M) := by
  unfold f_X11_board
  refine pc_bind (P := (fun r => P9 r.2)) (q_f_X11_needBoard hM) ?_
  rintro ⟨a258_0, a258_1⟩ h258
  replace h258 : P9 a258_1 := h258
  cases a258_0
  · dsimp only
    refine pc_bind (P := (fun r => P9 r.2)) (q_f_X11_needFit h258) ?_
    rintro ⟨a259_0, a259_1⟩ h259
    replace h259 : P9 a259_1 := h259
    cases a259_0
    · dsimp only
      refine pc_ite ?_ ?_
      · refine pc_ite ?_ ?_
        · exact pc_some (show P9 _ from h259)
        · exact pc_none
      · refine pc_ite ?_ ?_
        · refine pc_ite ?_ ?_
          · exact pc_some (show P9 _ from h259)
          · exact pc_none
        · refine pc_ite ?_ ?_
          · refine pc_ite ?_ ?_
            · exact pc_some (show P9 _ from h259)
            · exact pc_none
          · refine pc_ite ?_ ?_
            · refine pc_ite ?_ ?_
              · exact pc_some (show P9 _ from h259)
              · exact pc_none
            · refine pc_ite ?_ ?_
              · exact pc_some (show P9 _ from h259)
              · refine pc_ite ?_ ?_
                · refine pc_bind (P := (fun r => P9 r.2)) (q_f_X11_openNow h_qc h_qd h259) ?_
                  rintro ⟨a260_0, a260_1⟩ h260
                  replace h260 : P9 a260_1 := h260
                  exact pc_some (show P9 _ from h260)
                · refine pc_ite ?_ ?_
                  · refine pc_bind (P := fun _ => True) pc_T ?_
                    intro _ _
                    exact pc_some (show P9 _ from h259)
                  · refine pc_bind (P := fun _ => True) pc_T ?_
                    intro _ _
                    exact pc_some (show P9 _ from h259)
    · dsimp only
      exact pc_some (show P9 _ from h259)
  · dsimp only
    exact pc_some (show P9 _ from h258)
theorem q_L_X11_nose_21 {qs : Nat} {qn : Nat} (h_qs : qs ≠ 54) (h_qn : qn ≠ 54) : ∀ s, (fun r => P9 r.2.2.2) s → pc (sQ (fun r => P9 r.2.2.2) (fun r => P9 r.2.2)) (L_X11_nose_21 qs qn s) := by
  rintro ⟨b0, b1, b2, b3⟩ hM
  replace hM : P9 b3 := hM
  unfold L_X11_nose_21
  refine pc_ite ?_ ?_
  · exact pc_some (show P9 _ from hM)
  · refine pc_bind (P := fun _ => True) pc_T ?_
    intro _ _
    refine pc_ite ?_ ?_
    · refine pc_bind (P := (fun r => P9 r.2)) (q_f_X5_mostLeftBy hM) ?_
      rintro ⟨a261_0, a261_1⟩ h261
      replace h261 : P9 a261_1 := h261
      refine pc_ite ?_ ?_
      · exact pc_some (show P9 _ from h261)
      · refine pc_ite ?_ ?_
        · exact pc_some (show P9 _ from h261)
        · refine pc_ite ?_ ?_
          · exact pc_some (show P9 _ from h261)
          · exact pc_some (show P9 _ from h261)
    · exact pc_some (show P9 _ from hM)
theorem q_f_X11_nose {qs : Nat} {qn : Nat} {x1 : Int32} {M : Mem} (h_qs : qs ≠ 54) (h_qn : qn ≠ 54) (hM : P9 M) : pc (fun r => P9 r.2) (f_X11_nose qs qn x1 M) := by
  unfold f_X11_nose
  refine pc_bind (P := (fun r => P9 r.2)) (q_f_X11_needFit hM) ?_
  rintro ⟨a262_0, a262_1⟩ h262
  replace h262 : P9 a262_1 := h262
  cases a262_0
  · dsimp only
    refine pc_bind (P := P9) (q_f_X5_weigh h_qs h_qn h262) ?_
    intro a263 h263
    refine pc_bind (P := (fun r => P9 r.2.2)) (pc_wh (q_L_X11_nose_21 h_qs h_qn) (show P9 _ from h263)) ?_
    rintro ⟨a264_0, a264_1, a264_2⟩ h264
    replace h264 : P9 a264_2 := h264
    refine pc_ite ?_ ?_
    · exact pc_some (show P9 _ from h264)
    · exact pc_some (show P9 _ from h264)
  · dsimp only
    exact pc_some (show P9 _ from h262)
theorem q_f_X11_openers {qs : Nat} {qn : Nat} {x1 : Int32} {M : Mem} (h_qs : qs ≠ 54) (h_qn : qn ≠ 54) (hM : P9 M) : pc (fun r => P9 r.2) (f_X11_openers qs qn x1 M) := by
  unfold f_X11_openers
  refine pc_bind (P := (fun r => P9 r.2)) (q_f_X11_needFit hM) ?_
  rintro ⟨a265_0, a265_1⟩ h265
  replace h265 : P9 a265_1 := h265
  cases a265_0
  · dsimp only
    refine pc_bind (P := P9) (q_f_X5_weigh h_qs h_qn h265) ?_
    intro a266 h266
    refine pc_ite ?_ ?_
    · exact pc_some (show P9 _ from h266)
    · refine pc_ite ?_ ?_
      · refine pc_bind (P := fun _ => True) pc_T ?_
        intro _ _
        exact pc_some (show P9 _ from h266)
      · refine pc_ite ?_ ?_
        · refine pc_bind (P := fun _ => True) pc_T ?_
          intro _ _
          exact pc_some (show P9 _ from h266)
        · refine pc_bind (P := fun _ => True) pc_T ?_
          intro _ _
          exact pc_some (show P9 _ from h266)
  · dsimp only
    exact pc_some (show P9 _ from h265)
theorem q_L_X11_span_35 {qc : Nat} {qd : Nat} {x1 x2 x3 x4 : Int32} (h_qc : qc ≠ 54) (h_qd : qd ≠ 54) : ∀ s, (fun r => P9 r.2.2.2.2) s → pc (sQ (fun r => P9 r.2.2.2.2) (fun r => P9 r.2.2.2)) (L_X11_span_35 qc qd x1 x2 x3 x4 s) := by
  rintro ⟨b0, b1, b2, b3, b4⟩ hM
  replace hM : P9 b4 := hM
  unfold L_X11_span_35
  refine pc_ite ?_ ?_
  · exact pc_some (show P9 _ from hM)
  · refine pc_bind (P := P9) (q_f_X6_freeze h_qc h_qd hM) ?_
    intro a267 h267
    refine pc_bind (P := fun _ => True) pc_T ?_
    intro _ _
    refine pc_ite ?_ ?_
    · refine pc_bind (P := fun _ => True) pc_T ?_
      intro _ _
      refine pc_ite ?_ ?_
      · exact pc_some (show P9 _ from h267)
      · exact pc_some (show P9 _ from h267)
    · refine pc_bind (P := fun _ => True) pc_T ?_
      intro _ _
      refine pc_ite ?_ ?_
      · exact pc_some (show P9 _ from h267)
      · exact pc_some (show P9 _ from h267)
theorem q_f_X11_span {qc : Nat} {qd : Nat} {x1 x2 x3 x4 x5 : Int32} {M : Mem} (h_qc : qc ≠ 54) (h_qd : qd ≠ 54) (hM : P9 M) : pc (fun r => P9 r.2) (f_X11_span qc qd x1 x2 x3 x4 x5 M) := by
  unfold f_X11_span
  refine pc_bind (P := (fun r => P9 r.2)) (q_f_X11_needFit hM) ?_
  rintro ⟨a268_0, a268_1⟩ h268
  replace h268 : P9 a268_1 := h268
  cases a268_0
  · dsimp only
    refine pc_bind (P := (fun r => P9 r.2)) (q_f_X11_needWinter h268) ?_
    rintro ⟨a269_0, a269_1⟩ h269
    replace h269 : P9 a269_1 := h269
    cases a269_0
    · dsimp only
      refine pc_bind (P := (fun r => P9 r.2)) (q_f_X11_needFit h269) ?_
      rintro ⟨a270_0, a270_1⟩ h270
      replace h270 : P9 a270_1 := h270
      cases a270_0
      · dsimp only
        refine pc_bind (P := (fun r => P9 r.2.2.2)) (pc_wh (q_L_X11_span_35 h_qc h_qd) (show P9 _ from h270)) ?_
        rintro ⟨a271_0, a271_1, a271_2, a271_3⟩ h271
        replace h271 : P9 a271_3 := h271
        refine pc_ite ?_ ?_
        · exact pc_some (show P9 _ from h271)
        · refine pc_ite ?_ ?_
          · exact pc_some (show P9 _ from h271)
          · exact pc_some (show P9 _ from h271)
      · dsimp only
        exact pc_some (show P9 _ from h270)
    · dsimp only
      exact pc_some (show P9 _ from h269)
  · dsimp only
    exact pc_some (show P9 _ from h268)
theorem q_f_X11_winters {qc : Nat} {qd : Nat} {x1 x2 x3 x4 : Int32} {M : Mem} (h_qc : qc ≠ 54) (h_qd : qd ≠ 54) (hM : P9 M) : pc (fun r => P9 r.2) (f_X11_winters qc qd x1 x2 x3 x4 M) := by
  unfold f_X11_winters
  refine pc_bind (P := (fun r => P9 r.2)) (q_f_X11_needWinter hM) ?_
  rintro ⟨a272_0, a272_1⟩ h272
  replace h272 : P9 a272_1 := h272
  cases a272_0
  · dsimp only
    refine pc_bind (P := (fun r => P9 r.2)) (q_f_X11_needFit h272) ?_
    rintro ⟨a273_0, a273_1⟩ h273
    replace h273 : P9 a273_1 := h273
    cases a273_0
    · dsimp only
      refine pc_bind (P := P9) (q_f_X6_freeze h_qc h_qd h273) ?_
      intro a274 h274
      refine pc_ite ?_ ?_
      · refine pc_bind (P := fun _ => True) pc_T ?_
        intro _ _
        exact pc_some (show P9 _ from h274)
      · refine pc_ite ?_ ?_
        · refine pc_bind (P := fun _ => True) pc_T ?_
          intro _ _
          exact pc_some (show P9 _ from h274)
        · refine pc_ite ?_ ?_
          · exact pc_some (show P9 _ from h274)
          · refine pc_bind (P := fun _ => True) pc_T ?_
            intro _ _
            exact pc_some (show P9 _ from h274)
    · dsimp only
      exact pc_some (show P9 _ from h273)
  · dsimp only
    exact pc_some (show P9 _ from h272)
theorem q_f_X11_work {qc : Nat} {qd : Nat} {x1 : Int32} {M : Mem} (h_qc : qc ≠ 54) (h_qd : qd ≠ 54) (hM : P9 M) : pc (fun r => P9 r.2) (f_X11_work qc qd x1 M) := by
  unfold f_X11_work
  refine pc_bind (P := (fun r => P9 r.2)) (q_f_X11_takeText hM) ?_
  rintro ⟨a275_0, a275_1⟩ h275
  replace h275 : P9 a275_1 := h275
  cases a275_0
  · dsimp only
    refine pc_ite ?_ ?_
    · refine pc_bind (P := P9) (q_f_X9_read h275) ?_
      intro a276 h276
      refine pc_ite ?_ ?_
      · refine pc_bind (P := P9) (q_f_X7_keep h276) ?_
        intro a277 h277
        refine pc_bind (P := (fun r => P9 r.2)) (q_f_X9_run h_qc h_qd h277) ?_
        rintro ⟨a278_0, a278_1⟩ h278
        replace h278 : P9 a278_1 := h278
        exact pc_some (show P9 _ from (P9_c (P9_c h278 (by decide)) (by decide)))
      · exact pc_some (show P9 _ from h276)
    · exact pc_some (show P9 _ from h275)
  · dsimp only
    exact pc_some (show P9 _ from h275)
theorem q_L_X3_adoptDraft_33 {qc : Nat} {qd : Nat} (h_qc : qc ≠ 54) (h_qd : qd ≠ 54) : ∀ s, (fun r => P9 r.2) s → pc (sQ (fun r => P9 r.2) P9) (L_X3_adoptDraft_33 qc qd s) := by
  rintro ⟨b0, b1⟩ hM
  replace hM : P9 b1 := hM
  unfold L_X3_adoptDraft_33
  refine pc_ite ?_ ?_
  · exact pc_some (show P9 _ from hM)
  · refine pc_ite ?_ ?_
    · refine pc_ite ?_ ?_
      · refine pc_ite ?_ ?_
        · exact pc_some (show P9 _ from (P9_c hM (by decide)))
        · exact pc_some (show P9 _ from (P9_c hM (by decide)))
      · exact pc_none
    · exact pc_some (show P9 _ from (P9_c hM (by decide)))
theorem q_f_X3_adoptDraft {qc : Nat} {qd : Nat} {M : Mem} (h_qc : qc ≠ 54) (h_qd : qd ≠ 54) (hM : P9 M) : pc P9 (f_X3_adoptDraft qc qd M) := by
  unfold f_X3_adoptDraft
  refine pc_bind (P := P9) (pc_wh (q_L_X3_adoptDraft_33 h_qd h_qc) (show P9 _ from (P9_c (P9_c hM (by decide)) (by decide)))) ?_
  intro a279 h279
  exact pc_some (show P9 _ from h279)
theorem q_f_X3_beUntold {qc : Nat} {qd : Nat} {M : Mem} (h_qc : qc ≠ 54) (h_qd : qd ≠ 54) (hM : P9 M) : pc P9 (f_X3_beUntold qc qd M) := by
  unfold f_X3_beUntold
  refine pc_bind (P := P9) (q_f_X3_add h_qc h_qd (P9_c hM (by decide))) ?_
  intro a280 h280
  refine pc_bind (P := P9) (q_f_X3_add h_qc h_qd h280) ?_
  intro a281 h281
  refine pc_bind (P := P9) (q_f_X3_add h_qc h_qd h281) ?_
  intro a282 h282
  refine pc_bind (P := P9) (q_f_X3_add h_qc h_qd h282) ?_
  intro a283 h283
  refine pc_bind (P := P9) (q_f_X3_add h_qc h_qd h283) ?_
  intro a284 h284
  refine pc_bind (P := P9) (q_f_X3_add h_qc h_qd h284) ?_
  intro a285 h285
  refine pc_bind (P := P9) (q_f_X3_add h_qc h_qd h285) ?_
  intro a286 h286
  refine pc_bind (P := P9) (q_f_X3_add h_qc h_qd h286) ?_
  intro a287 h287
  refine pc_bind (P := P9) (q_f_X3_add h_qc h_qd h287) ?_
  intro a288 h288
  refine pc_bind (P := P9) (q_f_X3_adoptDraft h_qc h_qd h288) ?_
  intro a289 h289
  exact pc_some (show P9 _ from h289)
theorem q_f_X3_read {qc : Nat} {qd : Nat} {M : Mem} (h_qc : qc ≠ 54) (h_qd : qd ≠ 54) (hM : P9 M) : pc (fun r => P9 r.2) (f_X3_read qc qd M) := by
  unfold f_X3_read
  refine pc_bind (P := P9) (q_f_X3_readSum h_qc h_qd (P9_c hM (by decide))) ?_
  intro a290 h290
  refine pc_bind (P := P9) (q_f_X10_expectEnd h290) ?_
  intro a291 h291
  refine pc_ite ?_ ?_
  · refine pc_bind (P := P9) (q_f_X3_adoptDraft h_qc h_qd h291) ?_
    intro a292 h292
    exact pc_some (show P9 _ from h292)
  · exact pc_some (show P9 _ from h291)
theorem q_L_X5_readBook_10 {qs : Nat} {qn : Nat} (h_qs : qs ≠ 54) (h_qn : qn ≠ 54) : ∀ s, (fun r => P9 r.2) s → pc (sQ (fun r => P9 r.2) (fun r => P9 r.2)) (L_X5_readBook_10 qs qn s) := by
  rintro ⟨b0, b1⟩ hM
  replace hM : P9 b1 := hM
  unfold L_X5_readBook_10
  refine pc_ite ?_ ?_
  · exact pc_some (show P9 _ from hM)
  · refine pc_ite ?_ ?_
    · refine pc_bind (P := (fun r => P9 r.2)) (q_f_X10_isAtEnd hM) ?_
      rintro ⟨a293_0, a293_1⟩ h293
      replace h293 : P9 a293_1 := h293
      refine pc_ite ?_ ?_
      · refine pc_bind (P := P9) (q_f_X5_readLine h_qs h_qn h293) ?_
        intro a294 h294
        exact pc_some (show P9 _ from h294)
      · exact pc_some (show P9 _ from h293)
    · exact pc_some (show P9 _ from hM)
theorem q_f_X5_readBook {qs : Nat} {qn : Nat} {M : Mem} (h_qs : qs ≠ 54) (h_qn : qn ≠ 54) (hM : P9 M) : pc (fun r => P9 r.2) (f_X5_readBook qs qn M) := by
  unfold f_X5_readBook
  refine pc_bind (P := (fun r => P9 r.2)) (pc_wh (q_L_X5_readBook_10 h_qs h_qn) (show P9 _ from (P9_fill hM h_qn))) ?_
  rintro ⟨a295_0, a295_1⟩ h295
  replace h295 : P9 a295_1 := h295
  refine pc_ite ?_ ?_
  · exact pc_some (show P9 _ from (P9_c h295 (by decide)))
  · exact pc_some (show P9 _ from h295)
theorem q_f_X11_river {qc : Nat} {qd : Nat} {qs : Nat} {qn : Nat} {x1 : Int32} {M : Mem} (h_qc : qc ≠ 54) (h_qd : qd ≠ 54) (h_qs : qs ≠ 54) (h_qn : qn ≠ 54) (hM : P9 M) : pc (fun r => P9 r.2.2) (f_X11_river qc qd qs qn x1 M) := by
  unfold f_X11_river
  refine pc_bind (P := (fun r => P9 r.2)) (q_f_X11_takeText hM) ?_
  rintro ⟨a296_0, a296_1⟩ h296
  replace h296 : P9 a296_1 := h296
  cases a296_0
  · dsimp only
    refine pc_bind (P := P9) (q_f_X1_read h296) ?_
    intro a297 h297
    refine pc_ite ?_ ?_
    · refine pc_bind (P := P9) (q_f_X3_beUntold h_qc h_qd (P9_cp (P9_cp (P9_cp (P9_cp (P9_cp (P9_cp (P9_cp (P9_cp (P9_cp (P9_c (P9_c (P9_c (P9_c (P9_c h297 (by decide)) (by decide)) (by decide)) (by decide)) (by decide)) (by decide)) (by decide)) (by decide)) (by decide)) (by decide)) (by decide)) (by decide)) (by decide)) (by decide))) ?_
      intro a298 h298
      exact pc_some (show P9 _ from (P9_c (P9_c (P9_c (P9_c (P9_fill (P9_c (P9_fill h298 h_qs) (by decide)) (by decide)) (by decide)) (by decide)) (by decide)) (by decide)))
    · exact pc_some (show P9 _ from h297)
  · dsimp only
    exact pc_some (show P9 _ from h296)
theorem q_f_X11_law {qc : Nat} {qd : Nat} {x1 : Int32} {M : Mem} (h_qc : qc ≠ 54) (h_qd : qd ≠ 54) (hM : P9 M) : pc (fun r => P9 r.2.2) (f_X11_law qc qd x1 M) := by
  unfold f_X11_law
  refine pc_bind (P := (fun r => P9 r.2)) (q_f_X11_takeText hM) ?_
  rintro ⟨a299_0, a299_1⟩ h299
  replace h299 : P9 a299_1 := h299
  cases a299_0
  · dsimp only
    refine pc_bind (P := (fun r => P9 r.2)) (q_f_X3_read h_qc h_qd h299) ?_
    rintro ⟨a300_0, a300_1⟩ h300
    replace h300 : P9 a300_1 := h300
    cases a300_0
    · dsimp only
      refine pc_ite ?_ ?_
      · exact pc_some (show P9 _ from (P9_c h300 (by decide)))
      · exact pc_some (show P9 _ from h300)
    · dsimp only
      refine pc_ite ?_ ?_
      · exact pc_some (show P9 _ from (P9_c h300 (by decide)))
      · exact pc_some (show P9 _ from h300)
  · dsimp only
    exact pc_some (show P9 _ from h299)
theorem q_f_X11_book {qs : Nat} {qn : Nat} {x1 : Int32} {M : Mem} (h_qs : qs ≠ 54) (h_qn : qn ≠ 54) (hM : P9 M) : pc (fun r => P9 r.2.2) (f_X11_book qs qn x1 M) := by
  unfold f_X11_book
  refine pc_bind (P := (fun r => P9 r.2)) (q_f_X11_takeText hM) ?_
  rintro ⟨a301_0, a301_1⟩ h301
  replace h301 : P9 a301_1 := h301
  cases a301_0
  · dsimp only
    refine pc_bind (P := (fun r => P9 r.2)) (q_f_X5_readBook h_qs h_qn h301) ?_
    rintro ⟨a302_0, a302_1⟩ h302
    replace h302 : P9 a302_1 := h302
    cases a302_0
    · dsimp only
      refine pc_ite ?_ ?_
      · exact pc_some (show P9 _ from h302)
      · exact pc_some (show P9 _ from h302)
    · dsimp only
      refine pc_ite ?_ ?_
      · exact pc_some (show P9 _ from h302)
      · exact pc_some (show P9 _ from h302)
  · dsimp only
    exact pc_some (show P9 _ from h301)
