theorem q_f_X12_bad {x1 x2 x3 : Int32} {M : Mem} (hM : P9 M) : pc (fun r => P9 r.2) (f_X12_bad x1 x2 x3 M) := by
  unfold f_X12_bad
  refine pc_ite ?_ ?_
  · refine pc_ite ?_ ?_
    · exact pc_some (show P9 _ from hM)
    · exact pc_some (show P9 _ from hM)
  · refine pc_ite ?_ ?_
    · refine pc_ite ?_ ?_
      · refine pc_ite ?_ ?_
        · exact pc_some (show P9 _ from (P9_c (P9_j hM (by decide)) (by decide)))
        · exact pc_some (show P9 _ from (P9_c (P9_j hM (by decide)) (by decide)))
      · exact pc_none
    · exact pc_some (show P9 _ from hM)
theorem q_L_X12_feed_23 {x1 x2 x3 x4 x5 : Int32} : ∀ s, (fun r => P9 r.2) s → pc (sQ (fun r => P9 r.2) P9) (L_X12_feed_23 x1 x2 x3 x4 x5 s) := by
  rintro ⟨b0, b1⟩ hM
  replace hM : P9 b1 := hM
  unfold L_X12_feed_23
  refine pc_ite ?_ ?_
  · exact pc_some (show P9 _ from hM)
  · refine pc_ite ?_ ?_
    · refine pc_ite ?_ ?_
      · refine pc_ite ?_ ?_
        · refine pc_ite ?_ ?_
          · refine pc_ite ?_ ?_
            · exact pc_some (show P9 _ from (P9_j (P9_c hM (by decide)) (by decide)))
            · exact pc_none
          · refine pc_ite ?_ ?_
            · exact pc_some (show P9 _ from (P9_j (P9_c hM (by decide)) (by decide)))
            · exact pc_none
        · refine pc_ite ?_ ?_
          · exact pc_some (show P9 _ from (P9_j (P9_c hM (by decide)) (by decide)))
          · exact pc_none
      · refine pc_ite ?_ ?_
        · exact pc_some (show P9 _ from (P9_j (P9_c hM (by decide)) (by decide)))
        · exact pc_none
    · refine pc_ite ?_ ?_
      · exact pc_some (show P9 _ from (P9_j (P9_c hM (by decide)) (by decide)))
      · exact pc_none
theorem q_f_X12_feed {x1 x2 x3 x4 x5 : Int32} {M : Mem} (hM : P9 M) : pc (fun r => P9 r.2) (f_X12_feed x1 x2 x3 x4 x5 M) := by
  unfold f_X12_feed
  refine pc_ite ?_ ?_
  · refine pc_bind (P := P9) (pc_wh (q_L_X12_feed_23) (show P9 _ from (P9_j hM (by decide)))) ?_
    intro a1 h1
    exact pc_some (show P9 _ from h1)
  · exact pc_some (show P9 _ from (P9_j hM (by decide)))
theorem q_f_X12_narrow {x1 x2 : Int32} {M : Mem} (hM : P9 M) : pc (fun r => P9 r.2) (f_X12_narrow x1 x2 M) := by
  unfold f_X12_narrow
  refine pc_ite ?_ ?_
  · refine pc_bind (P := (fun r => P9 r.2)) (q_f_X12_bad (P9_j hM (by decide))) ?_
    rintro ⟨a2_0, a2_1⟩ h2
    replace h2 : P9 a2_1 := h2
    refine pc_ite ?_ ?_
    · refine pc_bind (P := fun _ => True) pc_T ?_
      rintro ⟨_, _, _⟩ -
      refine pc_ite ?_ ?_
      · exact pc_some (show P9 _ from h2)
      · refine pc_ite ?_ ?_
        · exact pc_some (show P9 _ from h2)
        · exact pc_some (show P9 _ from h2)
    · exact pc_some (show P9 _ from h2)
  · refine pc_ite ?_ ?_
    · refine pc_bind (P := (fun r => P9 r.2)) (q_f_X12_bad (P9_j hM (by decide))) ?_
      rintro ⟨a3_0, a3_1⟩ h3
      replace h3 : P9 a3_1 := h3
      refine pc_ite ?_ ?_
      · refine pc_bind (P := fun _ => True) pc_T ?_
        rintro ⟨_, _, _⟩ -
        refine pc_ite ?_ ?_
        · exact pc_some (show P9 _ from h3)
        · refine pc_ite ?_ ?_
          · exact pc_some (show P9 _ from h3)
          · exact pc_some (show P9 _ from h3)
      · exact pc_some (show P9 _ from h3)
    · refine pc_bind (P := (fun r => P9 r.2)) (q_f_X12_bad (P9_j hM (by decide))) ?_
      rintro ⟨a4_0, a4_1⟩ h4
      replace h4 : P9 a4_1 := h4
      refine pc_ite ?_ ?_
      · refine pc_bind (P := fun _ => True) pc_T ?_
        rintro ⟨_, _, _⟩ -
        refine pc_ite ?_ ?_
        · exact pc_some (show P9 _ from h4)
        · refine pc_ite ?_ ?_
          · exact pc_some (show P9 _ from h4)
          · exact pc_some (show P9 _ from h4)
      · exact pc_some (show P9 _ from h4)
theorem q_f_X12_notes {x1 x2 : Int32} {M : Mem} (hM : P9 M) : pc P9 (f_X12_notes x1 x2 M) := by
  unfold f_X12_notes
  refine pc_ite ?_ ?_
  · refine pc_ite ?_ ?_
    · exact pc_some (show P9 _ from (P9_j (P9_c (P9_c hM (by decide)) (by decide)) (by decide)))
    · exact pc_none
  · exact pc_some (show P9 _ from hM)
theorem q_L_X12_skipWord_0  : ∀ s, P9 s → pc (sQ P9 P9) (L_X12_skipWord_0 s) := by
  intro M0 hM
  unfold L_X12_skipWord_0
  refine pc_bind (P := fun _ => True) pc_T ?_
  intro _ _
  refine pc_ite ?_ ?_
  · exact pc_some (show P9 _ from hM)
  · exact pc_some (show P9 _ from (P9_j hM (by decide)))
theorem q_f_X12_skipWord {M : Mem} (hM : P9 M) : pc P9 (f_X12_skipWord M) := by
  unfold f_X12_skipWord
  refine pc_bind (P := P9) (pc_wh (q_L_X12_skipWord_0) (show P9 _ from hM)) ?_
  intro a5 h5
  exact pc_some (show P9 _ from h5)
theorem q_f_X12_status {x1 : Int32} {M : Mem} (hM : P9 M) : pc (fun r => P9 r.2) (f_X12_status x1 M) := by
  unfold f_X12_status
  refine pc_ite ?_ ?_
  · exact pc_some (show P9 _ from (P9_j hM (by decide)))
  · refine pc_ite ?_ ?_
    · exact pc_some (show P9 _ from (P9_j hM (by decide)))
    · exact pc_none
theorem q_L_X12_tellsNothing_2  : ∀ s, (fun r => P9 r.2) s → pc (sQ (fun r => P9 r.2) P9) (L_X12_tellsNothing_2 s) := by
  rintro ⟨b0, b1⟩ hM
  replace hM : P9 b1 := hM
  unfold L_X12_tellsNothing_2
  refine pc_ite ?_ ?_
  · exact pc_some (show P9 _ from hM)
  · refine pc_ite ?_ ?_
    · exact pc_some (show P9 _ from (P9_c hM (by decide)))
    · exact pc_none
theorem q_f_X12_tellsNothing {M : Mem} (hM : P9 M) : pc P9 (f_X12_tellsNothing M) := by
  unfold f_X12_tellsNothing
  refine pc_bind (P := P9) (pc_wh (q_L_X12_tellsNothing_2) (show P9 _ from hM)) ?_
  intro a6 h6
  exact pc_some (show P9 _ from (P9_c (P9_c h6 (by decide)) (by decide)))
theorem q_f_X12_worst {x1 : Int32} {M : Mem} (hM : P9 M) : pc (fun r => P9 r.2) (f_X12_worst x1 M) := by
  unfold f_X12_worst
  refine pc_ite ?_ ?_
  · refine pc_bind (P := (fun r => P9 r.2)) (q_f_X12_bad (P9_j hM (by decide))) ?_
    rintro ⟨a7_0, a7_1⟩ h7
    replace h7 : P9 a7_1 := h7
    refine pc_ite ?_ ?_
    · refine pc_ite ?_ ?_
      · refine pc_bind (P := fun _ => True) pc_T ?_
        intro _ _
        exact pc_some (show P9 _ from h7)
      · refine pc_bind (P := fun _ => True) pc_T ?_
        intro _ _
        exact pc_some (show P9 _ from h7)
    · exact pc_some (show P9 _ from h7)
  · refine pc_bind (P := (fun r => P9 r.2)) (q_f_X12_bad (P9_j hM (by decide))) ?_
    rintro ⟨a8_0, a8_1⟩ h8
    replace h8 : P9 a8_1 := h8
    refine pc_ite ?_ ?_
    · refine pc_ite ?_ ?_
      · refine pc_bind (P := fun _ => True) pc_T ?_
        intro _ _
        exact pc_some (show P9 _ from h8)
      · refine pc_bind (P := fun _ => True) pc_T ?_
        intro _ _
        exact pc_some (show P9 _ from h8)
    · exact pc_some (show P9 _ from h8)
theorem q_L_X12_copies_t_2  : ∀ s, (fun r => P9 r.2) s → pc (sQ (fun r => P9 r.2) P9) (L_X12_copies_t_2 s) := by
  rintro ⟨b0, b1⟩ hM
  replace hM : P9 b1 := hM
  unfold L_X12_copies_t_2
  refine pc_ite ?_ ?_
  · exact pc_some (show P9 _ from hM)
  · refine pc_ite ?_ ?_
    · exact pc_some (show P9 _ from (P9_c hM (by decide)))
    · exact pc_none
theorem q_f_X12_copies_t {M : Mem} (hM : P9 M) : pc P9 (f_X12_copies_t M) := by
  unfold f_X12_copies_t
  refine pc_bind (P := P9) (pc_wh (q_L_X12_copies_t_2) (show P9 _ from hM)) ?_
  intro a9 h9
  exact pc_some (show P9 _ from h9)
theorem q_L_X12_copies_b_2 {r1 : Nat} : ∀ s, (fun r => P9 r.2) s → pc (sQ (fun r => P9 r.2) P9) (L_X12_copies_b_2 r1 s) := by
  rintro ⟨b0, b1⟩ hM
  replace hM : P9 b1 := hM
  unfold L_X12_copies_b_2
  refine pc_ite ?_ ?_
  · exact pc_some (show P9 _ from hM)
  · refine pc_ite ?_ ?_
    · exact pc_some (show P9 _ from (P9_c hM (by decide)))
    · exact pc_none
theorem q_f_X12_copies_b {r1 : Nat} {M : Mem} (hM : P9 M) : pc P9 (f_X12_copies_b r1 M) := by
  unfold f_X12_copies_b
  refine pc_bind (P := P9) (pc_wh (q_L_X12_copies_b_2) (show P9 _ from hM)) ?_
  intro a10 h10
  exact pc_some (show P9 _ from h10)
theorem q_L_X12_copies_r_2 {r0 : Nat} : ∀ s, (fun r => P9 r.2) s → pc (sQ (fun r => P9 r.2) P9) (L_X12_copies_r_2 r0 s) := by
  rintro ⟨b0, b1⟩ hM
  replace hM : P9 b1 := hM
  unfold L_X12_copies_r_2
  refine pc_ite ?_ ?_
  · exact pc_some (show P9 _ from hM)
  · refine pc_ite ?_ ?_
    · exact pc_some (show P9 _ from (P9_c hM (by decide)))
    · exact pc_none
theorem q_f_X12_copies_r {r0 : Nat} {M : Mem} (hM : P9 M) : pc P9 (f_X12_copies_r r0 M) := by
  unfold f_X12_copies_r
  refine pc_bind (P := P9) (pc_wh (q_L_X12_copies_r_2) (show P9 _ from hM)) ?_
  intro a11 h11
  exact pc_some (show P9 _ from h11)
theorem q_L_X12_lays_b_10 {x3 : Int32} : ∀ s, (fun r => P9 r.2) s → pc (sQ (fun r => P9 r.2) P9) (L_X12_lays_b_10 x3 s) := by
  rintro ⟨b0, b1⟩ hM
  replace hM : P9 b1 := hM
  unfold L_X12_lays_b_10
  refine pc_ite ?_ ?_
  · refine pc_ite ?_ ?_
    · exact pc_some (show P9 _ from hM)
    · refine pc_ite ?_ ?_
      · exact pc_some (show P9 _ from (P9_c hM (by decide)))
      · exact pc_none
  · exact pc_none
theorem q_L_X12_lays_b_2 {x2 : Int32} : ∀ s, (fun r => P9 r.2) s → pc (sQ (fun r => P9 r.2) P9) (L_X12_lays_b_2 x2 s) := by
  rintro ⟨b0, b1⟩ hM
  replace hM : P9 b1 := hM
  unfold L_X12_lays_b_2
  refine pc_ite ?_ ?_
  · exact pc_some (show P9 _ from hM)
  · refine pc_bind (P := P9) (pc_wh (q_L_X12_lays_b_10) (show P9 _ from hM)) ?_
    intro a12 h12
    exact pc_some (show P9 _ from h12)
theorem q_f_X12_lays_b {x2 : Int32} {M : Mem} (hM : P9 M) : pc P9 (f_X12_lays_b x2 M) := by
  unfold f_X12_lays_b
  refine pc_bind (P := P9) (pc_wh (q_L_X12_lays_b_2) (show P9 _ from hM)) ?_
  intro a13 h13
  exact pc_some (show P9 _ from h13)
theorem q_L_X12_lays_g_10 {x3 : Int32} : ∀ s, (fun r => P9 r.2) s → pc (sQ (fun r => P9 r.2) P9) (L_X12_lays_g_10 x3 s) := by
  rintro ⟨b0, b1⟩ hM
  replace hM : P9 b1 := hM
  unfold L_X12_lays_g_10
  refine pc_ite ?_ ?_
  · refine pc_ite ?_ ?_
    · exact pc_some (show P9 _ from hM)
    · refine pc_ite ?_ ?_
      · exact pc_some (show P9 _ from (P9_c hM (by decide)))
      · exact pc_none
  · exact pc_none
theorem q_L_X12_lays_g_2 {x2 : Int32} : ∀ s, (fun r => P9 r.2) s → pc (sQ (fun r => P9 r.2) P9) (L_X12_lays_g_2 x2 s) := by
  rintro ⟨b0, b1⟩ hM
  replace hM : P9 b1 := hM
  unfold L_X12_lays_g_2
  refine pc_ite ?_ ?_
  · exact pc_some (show P9 _ from hM)
  · refine pc_bind (P := P9) (pc_wh (q_L_X12_lays_g_10) (show P9 _ from hM)) ?_
    intro a14 h14
    exact pc_some (show P9 _ from h14)
theorem q_f_X12_lays_g {x2 : Int32} {M : Mem} (hM : P9 M) : pc P9 (f_X12_lays_g x2 M) := by
  unfold f_X12_lays_g
  refine pc_bind (P := P9) (pc_wh (q_L_X12_lays_g_2) (show P9 _ from hM)) ?_
  intro a15 h15
  exact pc_some (show P9 _ from h15)
theorem q_L_X12_lays_s_10 {x3 : Int32} : ∀ s, (fun r => P9 r.2) s → pc (sQ (fun r => P9 r.2) P9) (L_X12_lays_s_10 x3 s) := by
  rintro ⟨b0, b1⟩ hM
  replace hM : P9 b1 := hM
  unfold L_X12_lays_s_10
  refine pc_ite ?_ ?_
  · refine pc_ite ?_ ?_
    · exact pc_some (show P9 _ from hM)
    · refine pc_ite ?_ ?_
      · exact pc_some (show P9 _ from (P9_c hM (by decide)))
      · exact pc_none
  · exact pc_none
theorem q_L_X12_lays_s_2 {x2 : Int32} : ∀ s, (fun r => P9 r.2) s → pc (sQ (fun r => P9 r.2) P9) (L_X12_lays_s_2 x2 s) := by
  rintro ⟨b0, b1⟩ hM
  replace hM : P9 b1 := hM
  unfold L_X12_lays_s_2
  refine pc_ite ?_ ?_
  · exact pc_some (show P9 _ from hM)
  · refine pc_bind (P := P9) (pc_wh (q_L_X12_lays_s_10) (show P9 _ from hM)) ?_
    intro a16 h16
    exact pc_some (show P9 _ from h16)
theorem q_f_X12_lays_s {x2 : Int32} {M : Mem} (hM : P9 M) : pc P9 (f_X12_lays_s x2 M) := by
  unfold f_X12_lays_s
  refine pc_bind (P := P9) (pc_wh (q_L_X12_lays_s_2) (show P9 _ from hM)) ?_
  intro a17 h17
  exact pc_some (show P9 _ from h17)
theorem q_L_X12_lays_l_10 {x3 : Int32} : ∀ s, (fun r => P9 r.2) s → pc (sQ (fun r => P9 r.2) P9) (L_X12_lays_l_10 x3 s) := by
  rintro ⟨b0, b1⟩ hM
  replace hM : P9 b1 := hM
  unfold L_X12_lays_l_10
  refine pc_ite ?_ ?_
  · refine pc_ite ?_ ?_
    · exact pc_some (show P9 _ from hM)
    · refine pc_ite ?_ ?_
      · exact pc_some (show P9 _ from (P9_c hM (by decide)))
      · exact pc_none
  · exact pc_none
theorem q_L_X12_lays_l_2 {x2 : Int32} : ∀ s, (fun r => P9 r.2) s → pc (sQ (fun r => P9 r.2) P9) (L_X12_lays_l_2 x2 s) := by
  rintro ⟨b0, b1⟩ hM
  replace hM : P9 b1 := hM
  unfold L_X12_lays_l_2
  refine pc_ite ?_ ?_
  · exact pc_some (show P9 _ from hM)
  · refine pc_bind (P := P9) (pc_wh (q_L_X12_lays_l_10) (show P9 _ from hM)) ?_
    intro a18 h18
    exact pc_some (show P9 _ from h18)
theorem q_f_X12_lays_l {x2 : Int32} {M : Mem} (hM : P9 M) : pc P9 (f_X12_lays_l x2 M) := by
  unfold f_X12_lays_l
  refine pc_bind (P := P9) (pc_wh (q_L_X12_lays_l_2) (show P9 _ from hM)) ?_
  intro a19 h19
  exact pc_some (show P9 _ from h19)
theorem q_L_X12_lays_k_10 {x3 : Int32} : ∀ s, (fun r => P9 r.2) s → pc (sQ (fun r => P9 r.2) P9) (L_X12_lays_k_10 x3 s) := by
  rintro ⟨b0, b1⟩ hM
  replace hM : P9 b1 := hM
  unfold L_X12_lays_k_10
  refine pc_ite ?_ ?_
  · refine pc_ite ?_ ?_
    · exact pc_some (show P9 _ from hM)
    · refine pc_ite ?_ ?_
      · exact pc_some (show P9 _ from (P9_c hM (by decide)))
      · exact pc_none
  · exact pc_none
theorem q_L_X12_lays_k_2 {x2 : Int32} : ∀ s, (fun r => P9 r.2) s → pc (sQ (fun r => P9 r.2) P9) (L_X12_lays_k_2 x2 s) := by
  rintro ⟨b0, b1⟩ hM
  replace hM : P9 b1 := hM
  unfold L_X12_lays_k_2
  refine pc_ite ?_ ?_
  · exact pc_some (show P9 _ from hM)
  · refine pc_bind (P := P9) (pc_wh (q_L_X12_lays_k_10) (show P9 _ from hM)) ?_
    intro a20 h20
    exact pc_some (show P9 _ from h20)
theorem q_f_X12_lays_k {x2 : Int32} {M : Mem} (hM : P9 M) : pc P9 (f_X12_lays_k x2 M) := by
  unfold f_X12_lays_k
  refine pc_bind (P := P9) (pc_wh (q_L_X12_lays_k_2) (show P9 _ from hM)) ?_
  intro a21 h21
  exact pc_some (show P9 _ from h21)
theorem q_f_X12_puts {r1 : Nat} {x2 x3 : Int32} {M : Mem} (hM : P9 M) : pc (fun r => P9 r.2) (f_X12_puts r1 x2 x3 M) := by
  unfold f_X12_puts
  refine pc_ite ?_ ?_
  · refine pc_ite ?_ ?_
    · refine pc_ite ?_ ?_
      · exact pc_some (show P9 _ from (P9_j (P9_c hM (by decide)) (by decide)))
      · exact pc_none
    · exact pc_none
  · refine pc_ite ?_ ?_
    · exact pc_some (show P9 _ from (P9_j hM (by decide)))
    · exact pc_none
theorem q_L_X12_putsAll_21 {r1 : Nat} {x2 : Int32} : ∀ s, (fun r => P9 r.2) s → pc (sQ (fun r => P9 r.2) P9) (L_X12_putsAll_21 r1 x2 s) := by
  rintro ⟨b0, b1⟩ hM
  replace hM : P9 b1 := hM
  unfold L_X12_putsAll_21
  refine pc_ite ?_ ?_
  · exact pc_some (show P9 _ from hM)
  · refine pc_ite ?_ ?_
    · refine pc_bind (P := (fun r => P9 r.2)) (q_f_X12_puts hM) ?_
      rintro ⟨a22_0, a22_1⟩ h22
      replace h22 : P9 a22_1 := h22
      exact pc_some (show P9 _ from (P9_c h22 (by decide)))
    · exact pc_none
theorem q_L_X12_putsAll_62 {r1 : Nat} {x2 x3 : Int32} : ∀ s, (fun r => P9 r.2) s → pc (sQ (fun r => P9 r.2) P9) (L_X12_putsAll_62 r1 x2 x3 s) := by
  rintro ⟨b0, b1⟩ hM
  replace hM : P9 b1 := hM
  unfold L_X12_putsAll_62
  refine pc_ite ?_ ?_
  · exact pc_some (show P9 _ from hM)
  · refine pc_ite ?_ ?_
    · refine pc_ite ?_ ?_
      · refine pc_bind (P := (fun r => P9 r.2)) (q_f_X12_puts hM) ?_
        rintro ⟨a23_0, a23_1⟩ h23
        replace h23 : P9 a23_1 := h23
        exact pc_some (show P9 _ from (P9_c h23 (by decide)))
      · exact pc_none
    · exact pc_none
theorem q_L_X12_putsAll_53 {r1 : Nat} {x2 : Int32} : ∀ s, (fun r => P9 r.2) s → pc (sQ (fun r => P9 r.2) P9) (L_X12_putsAll_53 r1 x2 s) := by
  rintro ⟨b0, b1⟩ hM
  replace hM : P9 b1 := hM
  unfold L_X12_putsAll_53
  refine pc_ite ?_ ?_
  · exact pc_some (show P9 _ from hM)
  · refine pc_bind (P := P9) (pc_wh (q_L_X12_putsAll_62) (show P9 _ from hM)) ?_
    intro a24 h24
    exact pc_some (show P9 _ from h24)
theorem q_f_X12_putsAll {r1 : Nat} {x2 : Int32} {M : Mem} (hM : P9 M) : pc P9 (f_X12_putsAll r1 x2 M) := by
  unfold f_X12_putsAll
  refine pc_bind (P := (fun r => P9 r.2)) (q_f_X12_puts (P9_j hM (by decide))) ?_
  rintro ⟨a25_0, a25_1⟩ h25
  replace h25 : P9 a25_1 := h25
  refine pc_bind (P := P9) (pc_wh (q_L_X12_putsAll_21) (show P9 _ from (P9_j h25 (by decide)))) ?_
  intro a26 h26
  refine pc_bind (P := P9) (pc_wh (q_L_X12_putsAll_53) (show P9 _ from h26)) ?_
  intro a27 h27
  exact pc_some (show P9 _ from h27)
theorem q_L_X12_goesOn_47 {q1 : Nat} {x2 : Int32} (hq : q1 ≠ 54) : ∀ s, (fun r => P9 r.2) s → pc (sQ (fun r => P9 r.2) P9) (L_X12_goesOn_47 q1 x2 s) := by
  rintro ⟨b0, b1⟩ hM
  replace hM : P9 b1 := hM
  unfold L_X12_goesOn_47
  refine pc_ite ?_ ?_
  · exact pc_some (show P9 _ from hM)
  · refine pc_ite ?_ ?_
    · refine pc_ite ?_ ?_
      · exact pc_some (show P9 _ from hM)
      · refine pc_ite ?_ ?_
        · refine pc_ite ?_ ?_
          · refine pc_bind (P := fun _ => True) pc_T ?_
            intro _ _
            refine pc_ite ?_ ?_
            · exact pc_some (show P9 _ from (P9_c hM hq))
            · refine pc_ite ?_ ?_
              · exact pc_some (show P9 _ from (P9_c hM hq))
              · exact pc_none
          · exact pc_some (show P9 _ from (P9_c hM hq))
        · exact pc_none
    · exact pc_none
theorem q_f_X12_goesOn {q1 : Nat} {x2 : Int32} {M : Mem} (hq : q1 ≠ 54) (hM : P9 M) : pc P9 (f_X12_goesOn q1 x2 M) := by
  unfold f_X12_goesOn
  refine pc_ite ?_ ?_
  · refine pc_ite ?_ ?_
    · refine pc_bind (P := fun _ => True) pc_T ?_
      intro _ _
      refine pc_ite ?_ ?_
      · refine pc_ite ?_ ?_
        · refine pc_bind (P := P9) (pc_wh (q_L_X12_goesOn_47 hq) (show P9 _ from (P9_c hM hq))) ?_
          intro a28 h28
          refine pc_ite ?_ ?_
          · refine pc_ite ?_ ?_
            · refine pc_ite ?_ ?_
              · exact pc_some (show P9 _ from (P9_c (P9_c h28 hq) hq))
              · exact pc_none
            · exact pc_some (show P9 _ from h28)
          · exact pc_none
        · exact pc_some (show P9 _ from (P9_c hM hq))
      · refine pc_ite ?_ ?_
        · refine pc_bind (P := P9) (pc_wh (q_L_X12_goesOn_47 hq) (show P9 _ from hM)) ?_
          intro a29 h29
          refine pc_ite ?_ ?_
          · refine pc_ite ?_ ?_
            · refine pc_ite ?_ ?_
              · exact pc_some (show P9 _ from (P9_c (P9_c h29 hq) hq))
              · exact pc_none
            · exact pc_some (show P9 _ from h29)
          · exact pc_none
        · exact pc_some (show P9 _ from hM)
    · refine pc_ite ?_ ?_
      · refine pc_bind (P := P9) (pc_wh (q_L_X12_goesOn_47 hq) (show P9 _ from hM)) ?_
        intro a30 h30
        refine pc_ite ?_ ?_
        · refine pc_ite ?_ ?_
          · refine pc_ite ?_ ?_
            · exact pc_some (show P9 _ from (P9_c (P9_c h30 hq) hq))
            · exact pc_none
          · exact pc_some (show P9 _ from h30)
        · exact pc_none
      · exact pc_some (show P9 _ from hM)
  · exact pc_none
theorem q_L_RX12_angles_68 {r_X12_angles : (Int32 → Int32 → Mem → Option (Mem))} {x1 x2 : Int32} (hr : ∀ {a b : Int32} (M : Mem), P9 M → pc P9 (r_X12_angles a b M)) : ∀ s, (fun r => P9 r.2) s → pc (sQ (fun r => P9 r.2) P9) (L_RX12_angles_68 r_X12_angles x1 x2 s) := by
  rintro ⟨b0, b1⟩ hM
  replace hM : P9 b1 := hM
  unfold L_RX12_angles_68
  refine pc_ite ?_ ?_
  · exact pc_some (show P9 _ from hM)
  · refine pc_ite ?_ ?_
    · refine pc_bind (P := P9) (hr _ (P9_c hM (by decide))) ?_
      intro a31 h31
      exact pc_some (show P9 _ from h31)
    · exact pc_none
theorem q_L_RX12_angles_24  : ∀ s, (fun r => P9 r.2) s → pc (sQ (fun r => P9 r.2) P9) (L_RX12_angles_24 s) := by
  rintro ⟨b0, b1⟩ hM
  replace hM : P9 b1 := hM
  unfold L_RX12_angles_24
  refine pc_ite ?_ ?_
  · exact pc_some (show P9 _ from hM)
  · refine pc_ite ?_ ?_
    · refine pc_ite ?_ ?_
      · exact pc_some (show P9 _ from (P9_c hM (by decide)))
      · exact pc_none
    · exact pc_some (show P9 _ from hM)
theorem q_f_RX12_angles {r_X12_angles : (Int32 → Int32 → Mem → Option (Mem))} {x1 x2 : Int32} {M : Mem} (hr : ∀ {a b : Int32} (M : Mem), P9 M → pc P9 (r_X12_angles a b M)) (hM : P9 M) : pc P9 (f_RX12_angles r_X12_angles x1 x2 M) := by
  unfold f_RX12_angles
  refine pc_ite ?_ ?_
  · refine pc_ite ?_ ?_
    · exact pc_some (show P9 _ from hM)
    · refine pc_bind (P := fun _ => True) pc_T ?_
      intro _ _
      refine pc_ite ?_ ?_
      · exact pc_some (show P9 _ from hM)
      · refine pc_bind (P := P9) (pc_wh (q_L_RX12_angles_24) (show P9 _ from hM)) ?_
        intro a32 h32
        exact pc_some (show P9 _ from (P9_j h32 (by decide)))
  · refine pc_bind (P := P9) (pc_wh (q_L_RX12_angles_68 hr) (show P9 _ from hM)) ?_
    intro a33 h33
    refine pc_ite ?_ ?_
    · exact pc_some (show P9 _ from (P9_c h33 (by decide)))
    · exact pc_none
theorem q_rec_angles : ∀ n, ∀ {a b : Int32} (M : Mem), P9 M → pc P9 (rec_angles n a b M)
  | 0, _, _, _, _ => pc_none
  | n + 1, a, b, M, h => show pc P9 (f_RX12_angles (rec_angles n) a b M) from q_f_RX12_angles (fun M h => q_rec_angles n M h) h
theorem q_f_X12_angles {x1 x2 : Int32} {M : Mem} (hM : P9 M) : pc P9 (f_X12_angles x1 x2 M) := q_rec_angles 30 M hM
theorem q_f_X12_barge {x1 x2 : Int32} {M : Mem} (hM : P9 M) : pc (fun r => P9 r.2) (f_X12_barge x1 x2 M) := by
  unfold f_X12_barge
  refine pc_ite ?_ ?_
  · refine pc_bind (P := (fun r => P9 r.2)) (q_f_X12_bad (P9_j hM (by decide))) ?_
    rintro ⟨a34_0, a34_1⟩ h34
    replace h34 : P9 a34_1 := h34
    refine pc_ite ?_ ?_
    · refine pc_ite ?_ ?_
      · refine pc_bind (P := (fun r => P9 r.2)) (q_f_X12_bad h34) ?_
        rintro ⟨a35_0, a35_1⟩ h35
        replace h35 : P9 a35_1 := h35
        refine pc_ite ?_ ?_
        · refine pc_ite ?_ ?_
          · refine pc_ite ?_ ?_
            · refine pc_ite ?_ ?_
              · exact pc_some (show P9 _ from h35)
              · exact pc_none
            · exact pc_none
          · refine pc_ite ?_ ?_
            · refine pc_ite ?_ ?_
              · refine pc_ite ?_ ?_
                · exact pc_some (show P9 _ from h35)
                · exact pc_none
              · exact pc_none
            · refine pc_ite ?_ ?_
              · refine pc_ite ?_ ?_
                · exact pc_some (show P9 _ from h35)
                · exact pc_none
              · refine pc_ite ?_ ?_
                · refine pc_ite ?_ ?_
                  · exact pc_some (show P9 _ from h35)
                  · exact pc_none
                · refine pc_ite ?_ ?_
                  · exact pc_some (show P9 _ from h35)
                  · exact pc_none
        · exact pc_some (show P9 _ from h35)
      · refine pc_bind (P := (fun r => P9 r.2)) (q_f_X12_bad h34) ?_
        rintro ⟨a36_0, a36_1⟩ h36
        replace h36 : P9 a36_1 := h36
        refine pc_ite ?_ ?_
        · refine pc_ite ?_ ?_
          · refine pc_ite ?_ ?_
            · refine pc_ite ?_ ?_
              · exact pc_some (show P9 _ from h36)
              · exact pc_none
            · exact pc_none
          · refine pc_ite ?_ ?_
            · refine pc_ite ?_ ?_
              · refine pc_ite ?_ ?_
                · exact pc_some (show P9 _ from h36)
                · exact pc_none
              · exact pc_none
            · refine pc_ite ?_ ?_
              · refine pc_ite ?_ ?_
                · exact pc_some (show P9 _ from h36)
                · exact pc_none
              · refine pc_ite ?_ ?_
                · refine pc_ite ?_ ?_
                  · exact pc_some (show P9 _ from h36)
                  · exact pc_none
                · refine pc_ite ?_ ?_
                  · exact pc_some (show P9 _ from h36)
                  · exact pc_none
        · exact pc_some (show P9 _ from h36)
    · exact pc_some (show P9 _ from h34)
  · refine pc_bind (P := (fun r => P9 r.2)) (q_f_X12_bad (P9_j hM (by decide))) ?_
    rintro ⟨a37_0, a37_1⟩ h37
    replace h37 : P9 a37_1 := h37
    refine pc_ite ?_ ?_
    · refine pc_ite ?_ ?_
      · refine pc_bind (P := (fun r => P9 r.2)) (q_f_X12_bad h37) ?_
        rintro ⟨a38_0, a38_1⟩ h38
        replace h38 : P9 a38_1 := h38
        refine pc_ite ?_ ?_
        · refine pc_ite ?_ ?_
          · refine pc_ite ?_ ?_
            · refine pc_ite ?_ ?_
              · exact pc_some (show P9 _ from h38)
              · exact pc_none
            · exact pc_none
          · refine pc_ite ?_ ?_
            · refine pc_ite ?_ ?_
              · refine pc_ite ?_ ?_
                · exact pc_some (show P9 _ from h38)
                · exact pc_none
              · exact pc_none
            · refine pc_ite ?_ ?_
              · refine pc_ite ?_ ?_
                · exact pc_some (show P9 _ from h38)
                · exact pc_none
              · refine pc_ite ?_ ?_
                · refine pc_ite ?_ ?_
                  · exact pc_some (show P9 _ from h38)
                  · exact pc_none
                · refine pc_ite ?_ ?_
                  · exact pc_some (show P9 _ from h38)
                  · exact pc_none
        · exact pc_some (show P9 _ from h38)
      · refine pc_bind (P := (fun r => P9 r.2)) (q_f_X12_bad h37) ?_
        rintro ⟨a39_0, a39_1⟩ h39
        replace h39 : P9 a39_1 := h39
        refine pc_ite ?_ ?_
        · refine pc_ite ?_ ?_
          · refine pc_ite ?_ ?_
            · refine pc_ite ?_ ?_
              · exact pc_some (show P9 _ from h39)
              · exact pc_none
            · exact pc_none
          · refine pc_ite ?_ ?_
            · refine pc_ite ?_ ?_
              · refine pc_ite ?_ ?_
                · exact pc_some (show P9 _ from h39)
                · exact pc_none
              · exact pc_none
            · refine pc_ite ?_ ?_
              · refine pc_ite ?_ ?_
                · exact pc_some (show P9 _ from h39)
                · exact pc_none
              · refine pc_ite ?_ ?_
                · refine pc_ite ?_ ?_
                  · exact pc_some (show P9 _ from h39)
                  · exact pc_none
                · refine pc_ite ?_ ?_
                  · exact pc_some (show P9 _ from h39)
                  · exact pc_none
        · exact pc_some (show P9 _ from h39)
    · exact pc_some (show P9 _ from h37)
theorem q_L_X12_beginsAnew_2  : ∀ s, (fun r => P9 r.2) s → pc (sQ (fun r => P9 r.2) P9) (L_X12_beginsAnew_2 s) := by
  rintro ⟨b0, b1⟩ hM
  replace hM : P9 b1 := hM
  unfold L_X12_beginsAnew_2
  refine pc_ite ?_ ?_
  · exact pc_some (show P9 _ from hM)
  · refine pc_ite ?_ ?_
    · exact pc_some (show P9 _ from (P9_c hM (by decide)))
    · exact pc_none
theorem q_L_X12_beginsAnew_78  : ∀ s, (fun r => P9 r.2) s → pc (sQ (fun r => P9 r.2) P9) (L_X12_beginsAnew_78 s) := by
  rintro ⟨b0, b1⟩ hM
  replace hM : P9 b1 := hM
  unfold L_X12_beginsAnew_78
  refine pc_ite ?_ ?_
  · exact pc_some (show P9 _ from hM)
  · refine pc_ite ?_ ?_
    · refine pc_ite ?_ ?_
      · refine pc_ite ?_ ?_
        · exact pc_some (show P9 _ from (P9_c hM (by decide)))
        · exact pc_none
      · refine pc_ite ?_ ?_
        · exact pc_some (show P9 _ from (P9_c hM (by decide)))
        · exact pc_none
    · refine pc_ite ?_ ?_
      · exact pc_some (show P9 _ from (P9_c hM (by decide)))
      · exact pc_none
theorem q_f_X12_beginsAnew {M : Mem} (hM : P9 M) : pc P9 (f_X12_beginsAnew M) := by
  unfold f_X12_beginsAnew
  refine pc_bind (P := P9) (pc_wh (q_L_X12_beginsAnew_2) (show P9 _ from hM)) ?_
  intro a40 h40
  refine pc_bind (P := P9) (q_f_X12_lays_b h40) ?_
  intro a41 h41
  refine pc_bind (P := P9) (q_f_X12_lays_g h41) ?_
  intro a42 h42
  refine pc_bind (P := P9) (q_f_X12_lays_s h42) ?_
  intro a43 h43
  refine pc_bind (P := P9) (pc_wh (q_L_X12_beginsAnew_78) (show P9 _ from h43)) ?_
  intro a44 h44
  exact pc_some (show P9 _ from (P9_j (P9_j (P9_j (P9_j (P9_j h44 (by decide)) (by decide)) (by decide)) (by decide)) (by decide)))
theorem q_L_X12_blanks_0  : ∀ s, P9 s → pc (sQ P9 P9) (L_X12_blanks_0 s) := by
  intro M0 hM
  unfold L_X12_blanks_0
  refine pc_bind (P := fun _ => True) pc_T ?_
  intro _ _
  refine pc_ite ?_ ?_
  · exact pc_some (show P9 _ from (P9_j hM (by decide)))
  · exact pc_some (show P9 _ from hM)
theorem q_f_X12_blanks {M : Mem} (hM : P9 M) : pc P9 (f_X12_blanks M) := by
  unfold f_X12_blanks
  refine pc_bind (P := P9) (pc_wh (q_L_X12_blanks_0) (show P9 _ from hM)) ?_
  intro a45 h45
  exact pc_some (show P9 _ from h45)
theorem q_L_X12_byLaw_35  : ∀ s, (fun r => P9 r.2.2) s → pc (sQ (fun r => P9 r.2.2) P9) (L_X12_byLaw_35 s) := by
  rintro ⟨b0, b1, b2⟩ hM
  replace hM : P9 b2 := hM
  unfold L_X12_byLaw_35
  refine pc_ite ?_ ?_
  · exact pc_some (show P9 _ from hM)
  · refine pc_ite ?_ ?_
    · refine pc_ite ?_ ?_
      · refine pc_ite ?_ ?_
        · refine pc_ite ?_ ?_
          · refine pc_bind (P := fun _ => True) pc_T ?_
            intro _ _
            exact pc_some (show P9 _ from (P9_c hM (by decide)))
          · exact pc_none
        · exact pc_none
      · refine pc_ite ?_ ?_
        · refine pc_ite ?_ ?_
          · exact pc_some (show P9 _ from (P9_c hM (by decide)))
          · exact pc_none
        · refine pc_ite ?_ ?_
          · refine pc_ite ?_ ?_
            · exact pc_some (show P9 _ from (P9_c hM (by decide)))
            · exact pc_none
          · exact pc_none
    · exact pc_none
theorem q_f_X12_byLaw {M : Mem} (hM : P9 M) : pc (fun r => P9 r.2) (f_X12_byLaw M) := by
  unfold f_X12_byLaw
  refine pc_ite ?_ ?_
  · exact pc_some (show P9 _ from hM)
  · refine pc_bind (P := P9) (pc_wh (q_L_X12_byLaw_35) (show P9 _ from hM)) ?_
    intro a46 h46
    exact pc_some (show P9 _ from h46)
theorem q_f_X12_flood {x1 : Int32} {M : Mem} (hM : P9 M) : pc (fun r => P9 r.2) (f_X12_flood x1 M) := by
  unfold f_X12_flood
  refine pc_ite ?_ ?_
  · refine pc_bind (P := (fun r => P9 r.2)) (q_f_X12_bad (P9_j hM (by decide))) ?_
    rintro ⟨a47_0, a47_1⟩ h47
    replace h47 : P9 a47_1 := h47
    refine pc_ite ?_ ?_
    · refine pc_bind (P := fun _ => True) pc_T ?_
      intro _ _
      exact pc_some (show P9 _ from h47)
    · exact pc_some (show P9 _ from h47)
  · refine pc_bind (P := (fun r => P9 r.2)) (q_f_X12_bad (P9_j hM (by decide))) ?_
    rintro ⟨a48_0, a48_1⟩ h48
    replace h48 : P9 a48_1 := h48
    refine pc_ite ?_ ?_
    · refine pc_bind (P := fun _ => True) pc_T ?_
      intro _ _
      exact pc_some (show P9 _ from h48)
    · exact pc_some (show P9 _ from h48)
theorem q_f_X12_holds {x1 : Int32} {M : Mem} (hM : P9 M) : pc (fun r => P9 r.2) (f_X12_holds x1 M) := by
  unfold f_X12_holds
  refine pc_ite ?_ ?_
  · refine pc_bind (P := (fun r => P9 r.2)) (q_f_X12_bad (P9_j hM (by decide))) ?_
    rintro ⟨a49_0, a49_1⟩ h49
    replace h49 : P9 a49_1 := h49
    refine pc_ite ?_ ?_
    · refine pc_bind (P := fun _ => True) pc_T ?_
      intro _ _
      exact pc_some (show P9 _ from h49)
    · exact pc_some (show P9 _ from h49)
  · refine pc_bind (P := (fun r => P9 r.2)) (q_f_X12_bad (P9_j hM (by decide))) ?_
    rintro ⟨a50_0, a50_1⟩ h50
    replace h50 : P9 a50_1 := h50
    refine pc_ite ?_ ?_
    · refine pc_bind (P := fun _ => True) pc_T ?_
      intro _ _
      exact pc_some (show P9 _ from h50)
    · exact pc_some (show P9 _ from h50)
theorem q_f_X12_image {M : Mem} (hM : P9 M) : pc (fun r => P9 r.2) (f_X12_image M) := by
  unfold f_X12_image
  refine pc_ite ?_ ?_
  · exact pc_some (show P9 _ from (P9_j hM (by decide)))
  · refine pc_ite ?_ ?_
    · refine pc_bind (P := P9) (q_f_X12_putsAll (P9_j hM (by decide))) ?_
      intro a51 h51
      exact pc_some (show P9 _ from (P9_j h51 (by decide)))
    · exact pc_none
theorem q_L_X12_isLawful_24 {x1 : Int32} : ∀ s, (fun r => P9 r.2) s → pc (sQ (fun r => P9 r.2) P9) (L_X12_isLawful_24 x1 s) := by
  rintro ⟨b0, b1⟩ hM
  replace hM : P9 b1 := hM
  unfold L_X12_isLawful_24
  refine pc_ite ?_ ?_
  · exact pc_some (show P9 _ from hM)
  · refine pc_ite ?_ ?_
    · refine pc_ite ?_ ?_
      · refine pc_ite ?_ ?_
        · exact pc_some (show P9 _ from (P9_c hM (by decide)))
        · exact pc_none
      · exact pc_none
    · exact pc_none
theorem q_f_X12_isLawful {x1 x2 x3 x4 : Int32} {M : Mem} (hM : P9 M) : pc (fun r => P9 r.2) (f_X12_isLawful x1 x2 x3 x4 M) := by
  unfold f_X12_isLawful
  refine pc_bind (P := P9) (pc_wh (q_L_X12_isLawful_24) (show P9 _ from (P9_c (P9_c (P9_c hM (by decide)) (by decide)) (by decide)))) ?_
  intro a52 h52
  refine pc_bind (P := (fun r => P9 r.2)) (q_f_X12_byLaw (P9_c h52 (by decide))) ?_
  rintro ⟨a53_0, a53_1⟩ h53
  replace h53 : P9 a53_1 := h53
  refine pc_ite ?_ ?_
  · exact pc_some (show P9 _ from h53)
  · exact pc_some (show P9 _ from h53)
theorem q_f_X12_lawful {x1 x2 x3 : Int32} {M : Mem} (hM : P9 M) : pc (fun r => P9 r.2) (f_X12_lawful x1 x2 x3 M) := by
  unfold f_X12_lawful
  refine pc_ite ?_ ?_
  · refine pc_bind (P := (fun r => P9 r.2)) (q_f_X12_bad (P9_j hM (by decide))) ?_
    rintro ⟨a54_0, a54_1⟩ h54
    replace h54 : P9 a54_1 := h54
    refine pc_ite ?_ ?_
    · refine pc_ite ?_ ?_
      · refine pc_bind (P := (fun r => P9 r.2)) (q_f_X12_bad h54) ?_
        rintro ⟨a55_0, a55_1⟩ h55
        replace h55 : P9 a55_1 := h55
        refine pc_ite ?_ ?_
        · refine pc_ite ?_ ?_
          · refine pc_bind (P := (fun r => P9 r.2)) (q_f_X12_isLawful h55) ?_
            rintro ⟨a56_0, a56_1⟩ h56
            replace h56 : P9 a56_1 := h56
            refine pc_ite ?_ ?_
            · exact pc_some (show P9 _ from h56)
            · exact pc_none
          · exact pc_none
        · exact pc_some (show P9 _ from h55)
      · refine pc_ite ?_ ?_
        · refine pc_bind (P := (fun r => P9 r.2)) (q_f_X12_bad h54) ?_
          rintro ⟨a57_0, a57_1⟩ h57
          replace h57 : P9 a57_1 := h57
          refine pc_ite ?_ ?_
          · refine pc_ite ?_ ?_
            · refine pc_bind (P := (fun r => P9 r.2)) (q_f_X12_isLawful h57) ?_
              rintro ⟨a58_0, a58_1⟩ h58
              replace h58 : P9 a58_1 := h58
              refine pc_ite ?_ ?_
              · exact pc_some (show P9 _ from h58)
              · exact pc_none
            · exact pc_none
          · exact pc_some (show P9 _ from h57)
        · refine pc_bind (P := (fun r => P9 r.2)) (q_f_X12_bad h54) ?_
          rintro ⟨a59_0, a59_1⟩ h59
          replace h59 : P9 a59_1 := h59
          refine pc_ite ?_ ?_
          · refine pc_ite ?_ ?_
            · refine pc_bind (P := (fun r => P9 r.2)) (q_f_X12_isLawful h59) ?_
              rintro ⟨a60_0, a60_1⟩ h60
              replace h60 : P9 a60_1 := h60
              refine pc_ite ?_ ?_
              · exact pc_some (show P9 _ from h60)
              · exact pc_none
            · exact pc_none
          · exact pc_some (show P9 _ from h59)
    · exact pc_some (show P9 _ from h54)
  · refine pc_bind (P := (fun r => P9 r.2)) (q_f_X12_bad (P9_j hM (by decide))) ?_
    rintro ⟨a61_0, a61_1⟩ h61
    replace h61 : P9 a61_1 := h61
    refine pc_ite ?_ ?_
    · refine pc_ite ?_ ?_
      · refine pc_bind (P := (fun r => P9 r.2)) (q_f_X12_bad h61) ?_
        rintro ⟨a62_0, a62_1⟩ h62
        replace h62 : P9 a62_1 := h62
        refine pc_ite ?_ ?_
        · refine pc_ite ?_ ?_
          · refine pc_bind (P := (fun r => P9 r.2)) (q_f_X12_isLawful h62) ?_
            rintro ⟨a63_0, a63_1⟩ h63
            replace h63 : P9 a63_1 := h63
            refine pc_ite ?_ ?_
            · exact pc_some (show P9 _ from h63)
            · exact pc_none
          · exact pc_none
        · exact pc_some (show P9 _ from h62)
      · refine pc_ite ?_ ?_
        · refine pc_bind (P := (fun r => P9 r.2)) (q_f_X12_bad h61) ?_
          rintro ⟨a64_0, a64_1⟩ h64
          replace h64 : P9 a64_1 := h64
          refine pc_ite ?_ ?_
          · refine pc_ite ?_ ?_
            · refine pc_bind (P := (fun r => P9 r.2)) (q_f_X12_isLawful h64) ?_
              rintro ⟨a65_0, a65_1⟩ h65
              replace h65 : P9 a65_1 := h65
              refine pc_ite ?_ ?_
              · exact pc_some (show P9 _ from h65)
              · exact pc_none
            · exact pc_none
          · exact pc_some (show P9 _ from h64)
        · refine pc_bind (P := (fun r => P9 r.2)) (q_f_X12_bad h61) ?_
          rintro ⟨a66_0, a66_1⟩ h66
          replace h66 : P9 a66_1 := h66
          refine pc_ite ?_ ?_
          · refine pc_ite ?_ ?_
            · refine pc_bind (P := (fun r => P9 r.2)) (q_f_X12_isLawful h66) ?_
              rintro ⟨a67_0, a67_1⟩ h67
              replace h67 : P9 a67_1 := h67
              refine pc_ite ?_ ?_
              · exact pc_some (show P9 _ from h67)
              · exact pc_none
            · exact pc_none
          · exact pc_some (show P9 _ from h66)
    · exact pc_some (show P9 _ from h61)
theorem q_L_X12_laysAnglers_7  : ∀ s, (fun r => P9 r.2) s → pc (sQ (fun r => P9 r.2) P9) (L_X12_laysAnglers_7 s) := by
  rintro ⟨b0, b1⟩ hM
  replace hM : P9 b1 := hM
  unfold L_X12_laysAnglers_7
  refine pc_ite ?_ ?_
  · exact pc_some (show P9 _ from hM)
  · refine pc_ite ?_ ?_
    · exact pc_some (show P9 _ from (P9_c (P9_c hM (by decide)) (by decide)))
    · exact pc_none
theorem q_f_X12_laysAnglers {x1 : Int32} {M : Mem} (hM : P9 M) : pc P9 (f_X12_laysAnglers x1 M) := by
  unfold f_X12_laysAnglers
  refine pc_bind (P := P9) (pc_wh (q_L_X12_laysAnglers_7) (show P9 _ from (P9_j hM (by decide)))) ?_
  intro a68 h68
  refine pc_bind (P := P9) (q_f_X12_angles h68) ?_
  intro a69 h69
  exact pc_some (show P9 _ from h69)
theorem q_L_X12_nose_40 {x2 : Int32} : ∀ s, (fun r => P9 r.2) s → pc (sQ (fun r => P9 r.2) P9) (L_X12_nose_40 x2 s) := by
  rintro ⟨b0, b1⟩ hM
  replace hM : P9 b1 := hM
  unfold L_X12_nose_40
  refine pc_ite ?_ ?_
  · exact pc_some (show P9 _ from hM)
  · refine pc_ite ?_ ?_
    · refine pc_ite ?_ ?_
      · exact pc_some (show P9 _ from (P9_c hM (by decide)))
      · exact pc_none
    · exact pc_none
theorem q_L_X12_nose_32  : ∀ s, (fun r => P9 r.2) s → pc (sQ (fun r => P9 r.2) P9) (L_X12_nose_32 s) := by
  rintro ⟨b0, b1⟩ hM
  replace hM : P9 b1 := hM
  unfold L_X12_nose_32
  refine pc_ite ?_ ?_
  · exact pc_some (show P9 _ from hM)
  · refine pc_bind (P := P9) (pc_wh (q_L_X12_nose_40) (show P9 _ from hM)) ?_
    intro a70 h70
    exact pc_some (show P9 _ from h70)
theorem q_L_X12_nose_94 {x2 : Int32} : ∀ s, (fun r => P9 r.2) s → pc (sQ (fun r => P9 r.2) P9) (L_X12_nose_94 x2 s) := by
  rintro ⟨b0, b1⟩ hM
  replace hM : P9 b1 := hM
  unfold L_X12_nose_94
  refine pc_ite ?_ ?_
  · exact pc_some (show P9 _ from hM)
  · refine pc_ite ?_ ?_
    · refine pc_bind (P := fun _ => True) pc_T ?_
      intro _ _
      refine pc_ite ?_ ?_
      · exact pc_some (show P9 _ from (P9_c hM (by decide)))
      · exact pc_none
    · exact pc_none
theorem q_L_X12_nose_69  : ∀ s, (fun r => P9 r.2) s → pc (sQ (fun r => P9 r.2) P9) (L_X12_nose_69 s) := by
  rintro ⟨b0, b1⟩ hM
  replace hM : P9 b1 := hM
  unfold L_X12_nose_69
  refine pc_ite ?_ ?_
  · exact pc_some (show P9 _ from hM)
  · refine pc_bind (P := fun _ => True) pc_T ?_
    intro _ _
    refine pc_ite ?_ ?_
    · exact pc_some (show P9 _ from hM)
    · refine pc_bind (P := P9) (pc_wh (q_L_X12_nose_94) (show P9 _ from hM)) ?_
      intro a71 h71
      exact pc_some (show P9 _ from h71)
theorem q_f_X12_nose {x1 : Int32} {M : Mem} (hM : P9 M) : pc (fun r => P9 r.2) (f_X12_nose x1 M) := by
  unfold f_X12_nose
  refine pc_ite ?_ ?_
  · refine pc_bind (P := (fun r => P9 r.2)) (q_f_X12_bad (P9_j hM (by decide))) ?_
    rintro ⟨a72_0, a72_1⟩ h72
    replace h72 : P9 a72_1 := h72
    refine pc_ite ?_ ?_
    · refine pc_bind (P := P9) (pc_wh (q_L_X12_nose_32) (show P9 _ from h72)) ?_
      intro a73 h73
      refine pc_bind (P := P9) (pc_wh (q_L_X12_nose_69) (show P9 _ from h73)) ?_
      intro a74 h74
      refine pc_bind (P := fun _ => True) pc_T ?_
      rintro ⟨_, _⟩ -
      refine pc_ite ?_ ?_
      · exact pc_some (show P9 _ from h74)
      · exact pc_some (show P9 _ from h74)
    · exact pc_some (show P9 _ from h72)
  · refine pc_bind (P := (fun r => P9 r.2)) (q_f_X12_bad (P9_j hM (by decide))) ?_
    rintro ⟨a75_0, a75_1⟩ h75
    replace h75 : P9 a75_1 := h75
    refine pc_ite ?_ ?_
    · refine pc_bind (P := P9) (pc_wh (q_L_X12_nose_32) (show P9 _ from h75)) ?_
      intro a76 h76
      refine pc_bind (P := P9) (pc_wh (q_L_X12_nose_69) (show P9 _ from h76)) ?_
      intro a77 h77
      refine pc_bind (P := fun _ => True) pc_T ?_
      rintro ⟨_, _⟩ -
      refine pc_ite ?_ ?_
      · exact pc_some (show P9 _ from h77)
      · exact pc_some (show P9 _ from h77)
    · exact pc_some (show P9 _ from h75)
theorem q_L_X12_number_44  : ∀ s, (fun r => P9 r.2) s → pc (sQ (fun r => P9 r.2) (fun r => P9 r.2)) (L_X12_number_44 s) := by
  rintro ⟨b0, b1⟩ hM
  replace hM : P9 b1 := hM
  unfold L_X12_number_44
  refine pc_bind (P := fun _ => True) pc_T ?_
  intro _ _
  refine pc_ite ?_ ?_
  · exact pc_some (show P9 _ from hM)
  · refine pc_bind (P := fun _ => True) pc_T ?_
    intro _ _
    refine pc_ite ?_ ?_
    · exact pc_some (show P9 _ from (P9_j hM (by decide)))
    · exact pc_some (show P9 _ from (P9_j hM (by decide)))
theorem q_f_X12_number {x1 x2 : Int32} {M : Mem} (hM : P9 M) : pc (fun r => P9 r.2) (f_X12_number x1 x2 M) := by
  unfold f_X12_number
  refine pc_ite ?_ ?_
  · refine pc_bind (P := P9) (q_f_X12_blanks hM) ?_
    intro a78 h78
    refine pc_bind (P := fun _ => True) pc_T ?_
    intro _ _
    refine pc_ite ?_ ?_
    · refine pc_bind (P := (fun r => P9 r.2)) (pc_wh (q_L_X12_number_44) (show P9 _ from (P9_wrong h78))) ?_
      rintro ⟨a79_0, a79_1⟩ h79
      replace h79 : P9 a79_1 := h79
      refine pc_ite ?_ ?_
      · refine pc_ite ?_ ?_
        · exact pc_some (show P9 _ from (P9_wrong h79))
        · exact pc_some (show P9 _ from (P9_wrong h79))
      · refine pc_ite ?_ ?_
        · exact pc_some (show P9 _ from h79)
        · exact pc_some (show P9 _ from h79)
    · refine pc_bind (P := (fun r => P9 r.2)) (pc_wh (q_L_X12_number_44) (show P9 _ from h78)) ?_
      rintro ⟨a80_0, a80_1⟩ h80
      replace h80 : P9 a80_1 := h80
      refine pc_ite ?_ ?_
      · refine pc_ite ?_ ?_
        · exact pc_some (show P9 _ from (P9_wrong h80))
        · exact pc_some (show P9 _ from (P9_wrong h80))
      · refine pc_ite ?_ ?_
        · exact pc_some (show P9 _ from h80)
        · exact pc_some (show P9 _ from h80)
  · exact pc_some (show P9 _ from hM)
theorem q_f_X12_openers {x1 : Int32} {M : Mem} (hM : P9 M) : pc (fun r => P9 r.2) (f_X12_openers x1 M) := by
  unfold f_X12_openers
  refine pc_ite ?_ ?_
  · refine pc_bind (P := (fun r => P9 r.2)) (q_f_X12_bad (P9_j hM (by decide))) ?_
    rintro ⟨a81_0, a81_1⟩ h81
    replace h81 : P9 a81_1 := h81
    refine pc_ite ?_ ?_
    · refine pc_bind (P := fun _ => True) pc_T ?_
      rintro ⟨_, _, _, _⟩ -
      refine pc_ite ?_ ?_
      · exact pc_some (show P9 _ from h81)
      · refine pc_ite ?_ ?_
        · exact pc_some (show P9 _ from h81)
        · refine pc_ite ?_ ?_
          · exact pc_some (show P9 _ from h81)
          · refine pc_ite ?_ ?_
            · exact pc_some (show P9 _ from h81)
            · exact pc_some (show P9 _ from h81)
    · exact pc_some (show P9 _ from h81)
  · refine pc_bind (P := (fun r => P9 r.2)) (q_f_X12_bad (P9_j hM (by decide))) ?_
    rintro ⟨a82_0, a82_1⟩ h82
    replace h82 : P9 a82_1 := h82
    refine pc_ite ?_ ?_
    · refine pc_bind (P := fun _ => True) pc_T ?_
      rintro ⟨_, _, _, _⟩ -
      refine pc_ite ?_ ?_
      · exact pc_some (show P9 _ from h82)
      · refine pc_ite ?_ ?_
        · exact pc_some (show P9 _ from h82)
        · refine pc_ite ?_ ?_
          · exact pc_some (show P9 _ from h82)
          · refine pc_ite ?_ ?_
            · exact pc_some (show P9 _ from h82)
            · exact pc_some (show P9 _ from h82)
    · exact pc_some (show P9 _ from h82)
theorem q_f_X12_restore {M : Mem} (hM : P9 M) : pc (fun r => P9 r.2) (f_X12_restore M) := by
  unfold f_X12_restore
  refine pc_ite ?_ ?_
  · exact pc_some (show P9 _ from (P9_j hM (by decide)))
  · refine pc_ite ?_ ?_
    · refine pc_bind (P := P9) (q_f_X12_putsAll (P9_j (P9_j hM (by decide)) (by decide))) ?_
      intro a83 h83
      exact pc_some (show P9 _ from (P9_j h83 (by decide)))
    · exact pc_none
theorem q_f_X12_sign {x1 : Int32} {M : Mem} (hM : P9 M) : pc P9 (f_X12_sign x1 M) := by
  unfold f_X12_sign
  refine pc_ite ?_ ?_
  · refine pc_bind (P := P9) (q_f_X12_blanks hM) ?_
    intro a84 h84
    refine pc_bind (P := fun _ => True) pc_T ?_
    intro _ _
    refine pc_ite ?_ ?_
    · exact pc_some (show P9 _ from (P9_j h84 (by decide)))
    · exact pc_some (show P9 _ from (P9_wrong h84))
  · exact pc_some (show P9 _ from hM)
theorem q_f_X12_smells {x1 x2 : Int32} {M : Mem} (hM : P9 M) : pc (fun r => P9 r.2) (f_X12_smells x1 x2 M) := by
  unfold f_X12_smells
  refine pc_ite ?_ ?_
  · refine pc_bind (P := (fun r => P9 r.2)) (q_f_X12_bad (P9_j hM (by decide))) ?_
    rintro ⟨a85_0, a85_1⟩ h85
    replace h85 : P9 a85_1 := h85
    refine pc_ite ?_ ?_
    · refine pc_ite ?_ ?_
      · refine pc_bind (P := (fun r => P9 r.2)) (q_f_X12_bad h85) ?_
        rintro ⟨a86_0, a86_1⟩ h86
        replace h86 : P9 a86_1 := h86
        refine pc_ite ?_ ?_
        · refine pc_bind (P := fun _ => True) pc_T ?_
          intro _ _
          exact pc_some (show P9 _ from h86)
        · exact pc_some (show P9 _ from h86)
      · refine pc_bind (P := (fun r => P9 r.2)) (q_f_X12_bad h85) ?_
        rintro ⟨a87_0, a87_1⟩ h87
        replace h87 : P9 a87_1 := h87
        refine pc_ite ?_ ?_
        · refine pc_bind (P := fun _ => True) pc_T ?_
          intro _ _
          exact pc_some (show P9 _ from h87)
        · exact pc_some (show P9 _ from h87)
    · exact pc_some (show P9 _ from h85)
  · refine pc_bind (P := (fun r => P9 r.2)) (q_f_X12_bad (P9_j hM (by decide))) ?_
    rintro ⟨a88_0, a88_1⟩ h88
    replace h88 : P9 a88_1 := h88
    refine pc_ite ?_ ?_
    · refine pc_ite ?_ ?_
      · refine pc_bind (P := (fun r => P9 r.2)) (q_f_X12_bad h88) ?_
        rintro ⟨a89_0, a89_1⟩ h89
        replace h89 : P9 a89_1 := h89
        refine pc_ite ?_ ?_
        · refine pc_bind (P := fun _ => True) pc_T ?_
          intro _ _
          exact pc_some (show P9 _ from h89)
        · exact pc_some (show P9 _ from h89)
      · refine pc_bind (P := (fun r => P9 r.2)) (q_f_X12_bad h88) ?_
        rintro ⟨a90_0, a90_1⟩ h90
        replace h90 : P9 a90_1 := h90
        refine pc_ite ?_ ?_
        · refine pc_bind (P := fun _ => True) pc_T ?_
          intro _ _
          exact pc_some (show P9 _ from h90)
        · exact pc_some (show P9 _ from h90)
    · exact pc_some (show P9 _ from h88)
theorem q_f_X12_stand {x1 x2 : Int32} {M : Mem} (hM : P9 M) : pc (fun r => P9 r.2) (f_X12_stand x1 x2 M) := by
  unfold f_X12_stand
  refine pc_ite ?_ ?_
  · refine pc_bind (P := (fun r => P9 r.2)) (q_f_X12_bad (P9_j hM (by decide))) ?_
    rintro ⟨a91_0, a91_1⟩ h91
    replace h91 : P9 a91_1 := h91
    refine pc_ite ?_ ?_
    · refine pc_ite ?_ ?_
      · refine pc_bind (P := (fun r => P9 r.2)) (q_f_X12_bad h91) ?_
        rintro ⟨a92_0, a92_1⟩ h92
        replace h92 : P9 a92_1 := h92
        refine pc_ite ?_ ?_
        · refine pc_bind (P := P9) (q_f_X12_laysAnglers h92) ?_
          intro a93 h93
          refine pc_ite ?_ ?_
          · exact pc_some (show P9 _ from h93)
          · exact pc_none
        · exact pc_some (show P9 _ from h92)
      · refine pc_bind (P := (fun r => P9 r.2)) (q_f_X12_bad h91) ?_
        rintro ⟨a94_0, a94_1⟩ h94
        replace h94 : P9 a94_1 := h94
        refine pc_ite ?_ ?_
        · refine pc_bind (P := P9) (q_f_X12_laysAnglers h94) ?_
          intro a95 h95
          refine pc_ite ?_ ?_
          · exact pc_some (show P9 _ from h95)
          · exact pc_none
        · exact pc_some (show P9 _ from h94)
    · exact pc_some (show P9 _ from h91)
  · refine pc_bind (P := (fun r => P9 r.2)) (q_f_X12_bad (P9_j hM (by decide))) ?_
    rintro ⟨a96_0, a96_1⟩ h96
    replace h96 : P9 a96_1 := h96
    refine pc_ite ?_ ?_
    · refine pc_ite ?_ ?_
      · refine pc_bind (P := (fun r => P9 r.2)) (q_f_X12_bad h96) ?_
        rintro ⟨a97_0, a97_1⟩ h97
        replace h97 : P9 a97_1 := h97
        refine pc_ite ?_ ?_
        · refine pc_bind (P := P9) (q_f_X12_laysAnglers h97) ?_
          intro a98 h98
          refine pc_ite ?_ ?_
          · exact pc_some (show P9 _ from h98)
          · exact pc_none
        · exact pc_some (show P9 _ from h97)
      · refine pc_bind (P := (fun r => P9 r.2)) (q_f_X12_bad h96) ?_
        rintro ⟨a99_0, a99_1⟩ h99
        replace h99 : P9 a99_1 := h99
        refine pc_ite ?_ ?_
        · refine pc_bind (P := P9) (q_f_X12_laysAnglers h99) ?_
          intro a100 h100
          refine pc_ite ?_ ?_
          · exact pc_some (show P9 _ from h100)
          · exact pc_none
        · exact pc_some (show P9 _ from h99)
    · exact pc_some (show P9 _ from h96)
theorem q_f_X12_starts {x1 : Int32} {M : Mem} (hM : P9 M) : pc P9 (f_X12_starts x1 M) := by
  unfold f_X12_starts
  refine pc_bind (P := P9) (q_f_X12_blanks (P9_j (P9_j (P9_j (P9_j (P9_j (P9_j (P9_j hM (by decide)) (by decide)) (by decide)) (by decide)) (by decide)) (by decide)) (by decide))) ?_
  intro a101 h101
  exact pc_some (show P9 _ from h101)
theorem q_f_X12_takesSign {x1 : Int32} {M : Mem} (hM : P9 M) : pc (fun r => P9 r.2) (f_X12_takesSign x1 M) := by
  unfold f_X12_takesSign
  refine pc_ite ?_ ?_
  · refine pc_bind (P := P9) (q_f_X12_blanks hM) ?_
    intro a102 h102
    refine pc_bind (P := fun _ => True) pc_T ?_
    intro _ _
    refine pc_ite ?_ ?_
    · exact pc_some (show P9 _ from (P9_j h102 (by decide)))
    · exact pc_some (show P9 _ from h102)
  · exact pc_some (show P9 _ from hM)
theorem q_f_X12_tries {M : Mem} (hM : P9 M) : pc P9 (f_X12_tries M) := by
  unfold f_X12_tries
  refine pc_bind (P := P9) (q_f_X12_copies_t hM) ?_
  intro a103 h103
  exact pc_some (show P9 _ from P9_0)
theorem q_f_X12_undo {M : Mem} (hM : P9 M) : pc (fun r => P9 r.2) (f_X12_undo M) := by
  unfold f_X12_undo
  refine pc_ite ?_ ?_
  · exact pc_some (show P9 _ from (P9_j hM (by decide)))
  · refine pc_ite ?_ ?_
    · refine pc_bind (P := P9) (q_f_X12_copies_r (P9_j (P9_j hM (by decide)) (by decide))) ?_
      intro a104 h104
      exact pc_some (show P9 _ from (P9_j h104 (by decide)))
    · exact pc_none
theorem q_f_X12_wordHere {M : Mem} (hM : P9 M) : pc (fun r => P9 r.2) (f_X12_wordHere M) := by
  unfold f_X12_wordHere
  refine pc_bind (P := P9) (q_f_X12_blanks hM) ?_
  intro a105 h105
  refine pc_bind (P := fun _ => True) pc_T ?_
  rintro ⟨_, _⟩ -
  refine pc_ite ?_ ?_
  · exact pc_some (show P9 _ from h105)
  · exact pc_some (show P9 _ from h105)
theorem q_f_X12_isLawfulNow {q1 : Nat} {x2 : Int32} {M : Mem} (hq : q1 ≠ 54) (hM : P9 M) : pc (fun r => P9 r.2) (f_X12_isLawfulNow q1 x2 M) := by
  unfold f_X12_isLawfulNow
  refine pc_ite ?_ ?_
  · refine pc_bind (P := (fun r => P9 r.2)) (q_f_X12_isLawful hM) ?_
    rintro ⟨a106_0, a106_1⟩ h106
    replace h106 : P9 a106_1 := h106
    refine pc_ite ?_ ?_
    · exact pc_some (show P9 _ from h106)
    · exact pc_none
  · exact pc_none
theorem q_f_X12_anglers {x1 x2 : Int32} {M : Mem} (hM : P9 M) : pc (fun r => P9 r.2) (f_X12_anglers x1 x2 M) := by
  unfold f_X12_anglers
  refine pc_ite ?_ ?_
  · refine pc_bind (P := (fun r => P9 r.2)) (q_f_X12_bad (P9_j hM (by decide))) ?_
    rintro ⟨a107_0, a107_1⟩ h107
    replace h107 : P9 a107_1 := h107
    refine pc_ite ?_ ?_
    · refine pc_bind (P := P9) (q_f_X12_laysAnglers h107) ?_
      intro a108 h108
      refine pc_ite ?_ ?_
      · exact pc_some (show P9 _ from h108)
      · refine pc_bind (P := fun _ => True) pc_T ?_
        intro _ _
        refine pc_ite ?_ ?_
        · exact pc_some (show P9 _ from h108)
        · exact pc_some (show P9 _ from h108)
    · exact pc_some (show P9 _ from h107)
  · refine pc_ite ?_ ?_
    · refine pc_bind (P := (fun r => P9 r.2)) (q_f_X12_bad (P9_j hM (by decide))) ?_
      rintro ⟨a109_0, a109_1⟩ h109
      replace h109 : P9 a109_1 := h109
      refine pc_ite ?_ ?_
      · refine pc_bind (P := P9) (q_f_X12_laysAnglers h109) ?_
        intro a110 h110
        refine pc_ite ?_ ?_
        · exact pc_some (show P9 _ from h110)
        · refine pc_bind (P := fun _ => True) pc_T ?_
          intro _ _
          refine pc_ite ?_ ?_
          · exact pc_some (show P9 _ from h110)
          · exact pc_some (show P9 _ from h110)
      · exact pc_some (show P9 _ from h109)
    · refine pc_bind (P := (fun r => P9 r.2)) (q_f_X12_bad (P9_j hM (by decide))) ?_
      rintro ⟨a111_0, a111_1⟩ h111
      replace h111 : P9 a111_1 := h111
      refine pc_ite ?_ ?_
      · refine pc_bind (P := P9) (q_f_X12_laysAnglers h111) ?_
        intro a112 h112
        refine pc_ite ?_ ?_
        · exact pc_some (show P9 _ from h112)
        · refine pc_bind (P := fun _ => True) pc_T ?_
          intro _ _
          refine pc_ite ?_ ?_
          · exact pc_some (show P9 _ from h112)
          · exact pc_some (show P9 _ from h112)
      · exact pc_some (show P9 _ from h111)
theorem q_L_X12_book_48  : ∀ s, (fun r => P9 r.2.2) s → pc (sQ (fun r => P9 r.2.2) (fun r => P9 r.2)) (L_X12_book_48 s) := by
  rintro ⟨b0, b1, b2⟩ hM
  replace hM : P9 b2 := hM
  unfold L_X12_book_48
  refine pc_ite ?_ ?_
  · refine pc_ite ?_ ?_
    · exact pc_some (show P9 _ from hM)
    · refine pc_bind (P := (fun r => P9 r.2)) (q_f_X12_number hM) ?_
      rintro ⟨a113_0, a113_1⟩ h113
      replace h113 : P9 a113_1 := h113
      refine pc_ite ?_ ?_
      · refine pc_ite ?_ ?_
        · refine pc_ite ?_ ?_
          · refine pc_bind (P := (fun r => P9 r.2)) (q_f_X12_number (P9_wrong h113)) ?_
            rintro ⟨a114_0, a114_1⟩ h114
            replace h114 : P9 a114_1 := h114
            refine pc_bind (P := P9) (q_f_X12_sign h114) ?_
            intro a115 h115
            refine pc_ite ?_ ?_
            · refine pc_ite ?_ ?_
              · refine pc_bind (P := P9) (q_f_X12_blanks (P9_c (P9_c h115 (by decide)) (by decide))) ?_
                intro a116 h116
                exact pc_some (show P9 _ from h116)
              · exact pc_none
            · refine pc_bind (P := P9) (q_f_X12_blanks h115) ?_
              intro a117 h117
              exact pc_some (show P9 _ from h117)
          · refine pc_bind (P := (fun r => P9 r.2)) (q_f_X12_number h113) ?_
            rintro ⟨a118_0, a118_1⟩ h118
            replace h118 : P9 a118_1 := h118
            refine pc_bind (P := P9) (q_f_X12_sign h118) ?_
            intro a119 h119
            refine pc_ite ?_ ?_
            · refine pc_ite ?_ ?_
              · refine pc_bind (P := P9) (q_f_X12_blanks (P9_c (P9_c h119 (by decide)) (by decide))) ?_
                intro a120 h120
                exact pc_some (show P9 _ from h120)
              · exact pc_none
            · refine pc_bind (P := P9) (q_f_X12_blanks h119) ?_
              intro a121 h121
              exact pc_some (show P9 _ from h121)
        · refine pc_ite ?_ ?_
          · refine pc_ite ?_ ?_
            · refine pc_bind (P := (fun r => P9 r.2)) (q_f_X12_number (P9_wrong (P9_wrong h113))) ?_
              rintro ⟨a122_0, a122_1⟩ h122
              replace h122 : P9 a122_1 := h122
              refine pc_bind (P := P9) (q_f_X12_sign h122) ?_
              intro a123 h123
              refine pc_ite ?_ ?_
              · refine pc_ite ?_ ?_
                · refine pc_bind (P := P9) (q_f_X12_blanks (P9_c (P9_c h123 (by decide)) (by decide))) ?_
                  intro a124 h124
                  exact pc_some (show P9 _ from h124)
                · exact pc_none
              · refine pc_bind (P := P9) (q_f_X12_blanks h123) ?_
                intro a125 h125
                exact pc_some (show P9 _ from h125)
            · refine pc_bind (P := (fun r => P9 r.2)) (q_f_X12_number (P9_wrong h113)) ?_
              rintro ⟨a126_0, a126_1⟩ h126
              replace h126 : P9 a126_1 := h126
              refine pc_bind (P := P9) (q_f_X12_sign h126) ?_
              intro a127 h127
              refine pc_ite ?_ ?_
              · refine pc_ite ?_ ?_
                · refine pc_bind (P := P9) (q_f_X12_blanks (P9_c (P9_c h127 (by decide)) (by decide))) ?_
                  intro a128 h128
                  exact pc_some (show P9 _ from h128)
                · exact pc_none
              · refine pc_bind (P := P9) (q_f_X12_blanks h127) ?_
                intro a129 h129
                exact pc_some (show P9 _ from h129)
          · refine pc_bind (P := (fun r => P9 r.2)) (q_f_X12_number (P9_wrong h113)) ?_
            rintro ⟨a130_0, a130_1⟩ h130
            replace h130 : P9 a130_1 := h130
            refine pc_bind (P := P9) (q_f_X12_sign h130) ?_
            intro a131 h131
            refine pc_ite ?_ ?_
            · refine pc_ite ?_ ?_
              · refine pc_bind (P := P9) (q_f_X12_blanks (P9_c (P9_c h131 (by decide)) (by decide))) ?_
                intro a132 h132
                exact pc_some (show P9 _ from h132)
              · exact pc_none
            · refine pc_bind (P := P9) (q_f_X12_blanks h131) ?_
              intro a133 h133
              exact pc_some (show P9 _ from h133)
      · refine pc_bind (P := (fun r => P9 r.2)) (q_f_X12_number h113) ?_
        rintro ⟨a134_0, a134_1⟩ h134
        replace h134 : P9 a134_1 := h134
        refine pc_bind (P := P9) (q_f_X12_sign h134) ?_
        intro a135 h135
        refine pc_ite ?_ ?_
        · refine pc_ite ?_ ?_
          · refine pc_bind (P := P9) (q_f_X12_blanks (P9_c (P9_c h135 (by decide)) (by decide))) ?_
            intro a136 h136
            exact pc_some (show P9 _ from h136)
          · exact pc_none
        · refine pc_bind (P := P9) (q_f_X12_blanks h135) ?_
          intro a137 h137
          exact pc_some (show P9 _ from h137)
  · exact pc_some (show P9 _ from hM)
theorem q_f_X12_book {x1 : Int32} {M : Mem} (hM : P9 M) : pc (fun r => P9 r.2) (f_X12_book x1 M) := by
  unfold f_X12_book
  refine pc_ite ?_ ?_
  · refine pc_bind (P := (fun r => P9 r.2)) (q_f_X12_bad (P9_j hM (by decide))) ?_
    rintro ⟨a138_0, a138_1⟩ h138
    replace h138 : P9 a138_1 := h138
    refine pc_ite ?_ ?_
    · refine pc_bind (P := P9) (q_f_X12_starts h138) ?_
      intro a139 h139
      refine pc_bind (P := (fun r => P9 r.2)) (pc_wh (q_L_X12_book_48) (show P9 _ from h139)) ?_
      rintro ⟨a140_0, a140_1⟩ h140
      replace h140 : P9 a140_1 := h140
      refine pc_ite ?_ ?_
      · refine pc_bind (P := P9) (q_f_X12_lays_k (P9_j (P9_j h140 (by decide)) (by decide))) ?_
        intro a141 h141
        exact pc_some (show P9 _ from h141)
      · exact pc_some (show P9 _ from (P9_j h140 (by decide)))
    · exact pc_some (show P9 _ from h138)
  · refine pc_ite ?_ ?_
    · refine pc_bind (P := (fun r => P9 r.2)) (q_f_X12_bad (P9_j hM (by decide))) ?_
      rintro ⟨a142_0, a142_1⟩ h142
      replace h142 : P9 a142_1 := h142
      refine pc_ite ?_ ?_
      · refine pc_bind (P := P9) (q_f_X12_starts h142) ?_
        intro a143 h143
        refine pc_bind (P := (fun r => P9 r.2)) (pc_wh (q_L_X12_book_48) (show P9 _ from h143)) ?_
        rintro ⟨a144_0, a144_1⟩ h144
        replace h144 : P9 a144_1 := h144
        refine pc_ite ?_ ?_
        · refine pc_bind (P := P9) (q_f_X12_lays_k (P9_j (P9_j h144 (by decide)) (by decide))) ?_
          intro a145 h145
          exact pc_some (show P9 _ from h145)
        · exact pc_some (show P9 _ from (P9_j h144 (by decide)))
      · exact pc_some (show P9 _ from h142)
    · refine pc_bind (P := (fun r => P9 r.2)) (q_f_X12_bad (P9_j hM (by decide))) ?_
      rintro ⟨a146_0, a146_1⟩ h146
      replace h146 : P9 a146_1 := h146
      refine pc_ite ?_ ?_
      · refine pc_bind (P := P9) (q_f_X12_starts h146) ?_
        intro a147 h147
        refine pc_bind (P := (fun r => P9 r.2)) (pc_wh (q_L_X12_book_48) (show P9 _ from h147)) ?_
        rintro ⟨a148_0, a148_1⟩ h148
        replace h148 : P9 a148_1 := h148
        refine pc_ite ?_ ?_
        · refine pc_bind (P := P9) (q_f_X12_lays_k (P9_j (P9_j h148 (by decide)) (by decide))) ?_
          intro a149 h149
          exact pc_some (show P9 _ from h149)
        · exact pc_some (show P9 _ from (P9_j h148 (by decide)))
      · exact pc_some (show P9 _ from h146)
theorem q_L_X12_busiest_23 {x3 : Int32} : ∀ s, (fun r => P9 r.2.2) s → pc (sQ (fun r => P9 r.2.2) (fun r => P9 r.2)) (L_X12_busiest_23 x3 s) := by
  rintro ⟨b0, b1, b2⟩ hM
  replace hM : P9 b2 := hM
  unfold L_X12_busiest_23
  refine pc_ite ?_ ?_
  · exact pc_some (show P9 _ from hM)
  · refine pc_ite ?_ ?_
    · refine pc_bind (P := (fun r => P9 r.2)) (q_f_X12_isLawful hM) ?_
      rintro ⟨a150_0, a150_1⟩ h150
      replace h150 : P9 a150_1 := h150
      refine pc_ite ?_ ?_
      · exact pc_some (show P9 _ from h150)
      · exact pc_some (show P9 _ from h150)
    · exact pc_none
theorem q_L_X12_busiest_11  : ∀ s, (fun r => P9 r.2.2.2) s → pc (sQ (fun r => P9 r.2.2.2) (fun r => P9 r.2)) (L_X12_busiest_11 s) := by
  rintro ⟨b0, b1, b2, b3⟩ hM
  replace hM : P9 b3 := hM
  unfold L_X12_busiest_11
  refine pc_ite ?_ ?_
  · exact pc_some (show P9 _ from hM)
  · refine pc_bind (P := (fun r => P9 r.2)) (pc_wh (q_L_X12_busiest_23) (show P9 _ from hM)) ?_
    rintro ⟨a151_0, a151_1⟩ h151
    replace h151 : P9 a151_1 := h151
    refine pc_ite ?_ ?_
    · exact pc_some (show P9 _ from h151)
    · exact pc_some (show P9 _ from h151)
theorem q_f_X12_busiest {M : Mem} (hM : P9 M) : pc (fun r => P9 r.2) (f_X12_busiest M) := by
  unfold f_X12_busiest
  refine pc_bind (P := (fun r => P9 r.2)) (pc_wh (q_L_X12_busiest_11) (show P9 _ from (P9_j hM (by decide)))) ?_
  rintro ⟨a152_0, a152_1⟩ h152
  replace h152 : P9 a152_1 := h152
  exact pc_some (show P9 _ from h152)
theorem q_f_X12_isWord {x1 x2 x3 x4 x5 x6 : Int32} {M : Mem} (hM : P9 M) : pc (fun r => P9 r.2) (f_X12_isWord x1 x2 x3 x4 x5 x6 M) := by
  unfold f_X12_isWord
  refine pc_ite ?_ ?_
  · refine pc_bind (P := (fun r => P9 r.2)) (q_f_X12_wordHere hM) ?_
    rintro ⟨a153_0, a153_1⟩ h153
    replace h153 : P9 a153_1 := h153
    refine pc_ite ?_ ?_
    · exact pc_some (show P9 _ from h153)
    · exact pc_some (show P9 _ from h153)
  · exact pc_some (show P9 _ from hM)
theorem q_f_X12_kindHere {M : Mem} (hM : P9 M) : pc (fun r => P9 r.2) (f_X12_kindHere M) := by
  unfold f_X12_kindHere
  refine pc_bind (P := (fun r => P9 r.2)) (q_f_X12_isWord hM) ?_
  rintro ⟨a154_0, a154_1⟩ h154
  replace h154 : P9 a154_1 := h154
  refine pc_ite ?_ ?_
  · refine pc_bind (P := (fun r => P9 r.2)) (q_f_X12_isWord h154) ?_
    rintro ⟨a155_0, a155_1⟩ h155
    replace h155 : P9 a155_1 := h155
    refine pc_ite ?_ ?_
    · refine pc_bind (P := (fun r => P9 r.2)) (q_f_X12_isWord h155) ?_
      rintro ⟨a156_0, a156_1⟩ h156
      replace h156 : P9 a156_1 := h156
      refine pc_ite ?_ ?_
      · refine pc_bind (P := (fun r => P9 r.2)) (q_f_X12_isWord h156) ?_
        rintro ⟨a157_0, a157_1⟩ h157
        replace h157 : P9 a157_1 := h157
        refine pc_ite ?_ ?_
        · refine pc_bind (P := (fun r => P9 r.2)) (q_f_X12_isWord h157) ?_
          rintro ⟨a158_0, a158_1⟩ h158
          replace h158 : P9 a158_1 := h158
          refine pc_ite ?_ ?_
          · refine pc_bind (P := (fun r => P9 r.2)) (q_f_X12_isWord h158) ?_
            rintro ⟨a159_0, a159_1⟩ h159
            replace h159 : P9 a159_1 := h159
            refine pc_ite ?_ ?_
            · exact pc_some (show P9 _ from h159)
            · exact pc_some (show P9 _ from h159)
          · exact pc_some (show P9 _ from h158)
        · exact pc_some (show P9 _ from h157)
      · exact pc_some (show P9 _ from h156)
    · exact pc_some (show P9 _ from h155)
  · exact pc_some (show P9 _ from h154)
theorem q_f_X12_stepHere {M : Mem} (hM : P9 M) : pc (fun r => P9 r.2) (f_X12_stepHere M) := by
  unfold f_X12_stepHere
  refine pc_bind (P := (fun r => P9 r.2)) (q_f_X12_isWord hM) ?_
  rintro ⟨a160_0, a160_1⟩ h160
  replace h160 : P9 a160_1 := h160
  refine pc_ite ?_ ?_
  · refine pc_bind (P := (fun r => P9 r.2)) (q_f_X12_isWord h160) ?_
    rintro ⟨a161_0, a161_1⟩ h161
    replace h161 : P9 a161_1 := h161
    refine pc_ite ?_ ?_
    · refine pc_bind (P := (fun r => P9 r.2)) (q_f_X12_isWord h161) ?_
      rintro ⟨a162_0, a162_1⟩ h162
      replace h162 : P9 a162_1 := h162
      refine pc_ite ?_ ?_
      · refine pc_bind (P := (fun r => P9 r.2)) (q_f_X12_isWord h162) ?_
        rintro ⟨a163_0, a163_1⟩ h163
        replace h163 : P9 a163_1 := h163
        refine pc_ite ?_ ?_
        · refine pc_bind (P := (fun r => P9 r.2)) (q_f_X12_isWord h163) ?_
          rintro ⟨a164_0, a164_1⟩ h164
          replace h164 : P9 a164_1 := h164
          refine pc_ite ?_ ?_
          · exact pc_some (show P9 _ from h164)
          · exact pc_some (show P9 _ from h164)
        · exact pc_some (show P9 _ from h163)
      · exact pc_some (show P9 _ from h162)
    · exact pc_some (show P9 _ from h161)
  · exact pc_some (show P9 _ from h160)
theorem q_f_X12_takes {x1 x2 x3 x4 x5 x6 : Int32} {M : Mem} (hM : P9 M) : pc (fun r => P9 r.2) (f_X12_takes x1 x2 x3 x4 x5 x6 M) := by
  unfold f_X12_takes
  refine pc_bind (P := (fun r => P9 r.2)) (q_f_X12_isWord hM) ?_
  rintro ⟨a165_0, a165_1⟩ h165
  replace h165 : P9 a165_1 := h165
  refine pc_ite ?_ ?_
  · refine pc_ite ?_ ?_
    · exact pc_some (show P9 _ from h165)
    · exact pc_none
  · refine pc_bind (P := P9) (q_f_X12_skipWord h165) ?_
    intro a166 h166
    refine pc_ite ?_ ?_
    · exact pc_some (show P9 _ from h166)
    · exact pc_none
theorem q_f_X12_opensIn {q1 : Nat} {x2 : Int32} {M : Mem} (hq : q1 ≠ 54) (hM : P9 M) : pc (fun r => P9 r.2) (f_X12_opensIn q1 x2 M) := by
  unfold f_X12_opensIn
  refine pc_ite ?_ ?_
  · refine pc_ite ?_ ?_
    · exact pc_some (show P9 _ from hM)
    · refine pc_ite ?_ ?_
      · refine pc_bind (P := (fun r => P9 r.2)) (q_f_X12_isLawfulNow hq hM) ?_
        rintro ⟨a167_0, a167_1⟩ h167
        replace h167 : P9 a167_1 := h167
        refine pc_ite ?_ ?_
        · exact pc_some (show P9 _ from h167)
        · exact pc_some (show P9 _ from h167)
      · exact pc_some (show P9 _ from hM)
  · exact pc_none
theorem q_L_X12_openBits_4 {q1 : Nat} (hq : q1 ≠ 54) : ∀ s, (fun r => P9 r.2.2) s → pc (sQ (fun r => P9 r.2.2) (fun r => P9 r.2)) (L_X12_openBits_4 q1 s) := by
  rintro ⟨b0, b1, b2⟩ hM
  replace hM : P9 b2 := hM
  unfold L_X12_openBits_4
  refine pc_ite ?_ ?_
  · exact pc_some (show P9 _ from hM)
  · refine pc_bind (P := (fun r => P9 r.2)) (q_f_X12_opensIn hq hM) ?_
    rintro ⟨a168_0, a168_1⟩ h168
    replace h168 : P9 a168_1 := h168
    refine pc_ite ?_ ?_
    · exact pc_some (show P9 _ from h168)
    · exact pc_some (show P9 _ from h168)
theorem q_f_X12_openBits {q1 : Nat} {M : Mem} (hq : q1 ≠ 54) (hM : P9 M) : pc (fun r => P9 r.2) (f_X12_openBits q1 M) := by
  unfold f_X12_openBits
  refine pc_bind (P := (fun r => P9 r.2)) (pc_wh (q_L_X12_openBits_4 hq) (show P9 _ from hM)) ?_
  rintro ⟨a169_0, a169_1⟩ h169
  replace h169 : P9 a169_1 := h169
  exact pc_some (show P9 _ from h169)
theorem q_L_X12_hourEnds_15 {q1 : Nat} {x2 : Int32} (hq : q1 ≠ 54) : ∀ s, (fun r => P9 r.2) s → pc (sQ (fun r => P9 r.2) P9) (L_X12_hourEnds_15 q1 x2 s) := by
  rintro ⟨b0, b1⟩ hM
  replace hM : P9 b1 := hM
  unfold L_X12_hourEnds_15
  refine pc_ite ?_ ?_
  · exact pc_some (show P9 _ from hM)
  · refine pc_ite ?_ ?_
    · exact pc_some (show P9 _ from (P9_c hM (by decide)))
    · exact pc_none
theorem q_L_X12_hourEnds_44 {q1 : Nat} (hq : q1 ≠ 54) : ∀ s, (fun r => P9 r.2) s → pc (sQ (fun r => P9 r.2) P9) (L_X12_hourEnds_44 q1 s) := by
  rintro ⟨b0, b1⟩ hM
  replace hM : P9 b1 := hM
  unfold L_X12_hourEnds_44
  refine pc_ite ?_ ?_
  · exact pc_some (show P9 _ from hM)
  · refine pc_ite ?_ ?_
    · refine pc_ite ?_ ?_
      · refine pc_ite ?_ ?_
        · exact pc_some (show P9 _ from hM)
        · refine pc_ite ?_ ?_
          · refine pc_bind (P := (fun r => P9 r.2)) (q_f_X12_isLawfulNow hq hM) ?_
            rintro ⟨a170_0, a170_1⟩ h170
            replace h170 : P9 a170_1 := h170
            refine pc_ite ?_ ?_
            · refine pc_ite ?_ ?_
              · exact pc_some (show P9 _ from (P9_c h170 hq))
              · exact pc_some (show P9 _ from (P9_c h170 hq))
            · refine pc_ite ?_ ?_
              · exact pc_some (show P9 _ from (P9_c h170 hq))
              · exact pc_some (show P9 _ from (P9_c h170 hq))
          · exact pc_none
      · exact pc_none
    · exact pc_some (show P9 _ from hM)
theorem q_L_X12_hourEnds_121 {q1 : Nat} (hq : q1 ≠ 54) : ∀ s, (fun r => P9 r.2) s → pc (sQ (fun r => P9 r.2) P9) (L_X12_hourEnds_121 q1 s) := by
  rintro ⟨b0, b1⟩ hM
  replace hM : P9 b1 := hM
  unfold L_X12_hourEnds_121
  refine pc_ite ?_ ?_
  · exact pc_some (show P9 _ from hM)
  · refine pc_ite ?_ ?_
    · exact pc_some (show P9 _ from hM)
    · refine pc_bind (P := P9) (q_f_X12_goesOn hq hM) ?_
      intro a171 h171
      exact pc_some (show P9 _ from h171)
theorem q_f_X12_hourEnds {q1 : Nat} {M : Mem} (hq : q1 ≠ 54) (hM : P9 M) : pc P9 (f_X12_hourEnds q1 M) := by
  unfold f_X12_hourEnds
  refine pc_bind (P := (fun r => P9 r.2)) (q_f_X12_openBits hq hM) ?_
  rintro ⟨a172_0, a172_1⟩ h172
  replace h172 : P9 a172_1 := h172
  refine pc_bind (P := P9) (pc_wh (q_L_X12_hourEnds_15 hq) (show P9 _ from h172)) ?_
  intro a173 h173
  refine pc_bind (P := P9) (pc_wh (q_L_X12_hourEnds_44 hq) (show P9 _ from h173)) ?_
  intro a174 h174
  refine pc_bind (P := P9) (pc_wh (q_L_X12_hourEnds_121 hq) (show P9 _ from h174)) ?_
  intro a175 h175
  exact pc_some (show P9 _ from (P9_c h175 hq))
theorem q_L_X12_ahead_47 {x1 : Int32} : ∀ s, (fun r => P9 r.2) s → pc (sQ (fun r => P9 r.2) P9) (L_X12_ahead_47 x1 s) := by
  rintro ⟨b0, b1⟩ hM
  replace hM : P9 b1 := hM
  unfold L_X12_ahead_47
  refine pc_ite ?_ ?_
  · exact pc_some (show P9 _ from hM)
  · refine pc_bind (P := P9) (q_f_X12_hourEnds (by decide) hM) ?_
    intro a176 h176
    exact pc_some (show P9 _ from h176)
theorem q_f_X12_ahead {x1 x2 : Int32} {M : Mem} (hM : P9 M) : pc (fun r => P9 r.2) (f_X12_ahead x1 x2 M) := by
  unfold f_X12_ahead
  refine pc_ite ?_ ?_
  · refine pc_bind (P := (fun r => P9 r.2)) (q_f_X12_bad (P9_j hM (by decide))) ?_
    rintro ⟨a177_0, a177_1⟩ h177
    replace h177 : P9 a177_1 := h177
    refine pc_ite ?_ ?_
    · refine pc_bind (P := P9) (q_f_X12_tries h177) ?_
      intro a178 h178
      refine pc_bind (P := P9) (pc_wh (q_L_X12_ahead_47) (show P9 _ from h178)) ?_
      intro a179 h179
      refine pc_ite ?_ ?_
      · refine pc_bind (P := fun _ => True) pc_T ?_
        intro _ _
        exact pc_some (show P9 _ from h179)
      · refine pc_ite ?_ ?_
        · refine pc_bind (P := fun _ => True) pc_T ?_
          intro _ _
          exact pc_some (show P9 _ from h179)
        · refine pc_bind (P := fun _ => True) pc_T ?_
          intro _ _
          exact pc_some (show P9 _ from h179)
    · exact pc_some (show P9 _ from h177)
  · refine pc_ite ?_ ?_
    · refine pc_bind (P := (fun r => P9 r.2)) (q_f_X12_bad (P9_j hM (by decide))) ?_
      rintro ⟨a180_0, a180_1⟩ h180
      replace h180 : P9 a180_1 := h180
      refine pc_ite ?_ ?_
      · refine pc_bind (P := P9) (q_f_X12_tries h180) ?_
        intro a181 h181
        refine pc_bind (P := P9) (pc_wh (q_L_X12_ahead_47) (show P9 _ from h181)) ?_
        intro a182 h182
        refine pc_ite ?_ ?_
        · refine pc_bind (P := fun _ => True) pc_T ?_
          intro _ _
          exact pc_some (show P9 _ from h182)
        · refine pc_ite ?_ ?_
          · refine pc_bind (P := fun _ => True) pc_T ?_
            intro _ _
            exact pc_some (show P9 _ from h182)
          · refine pc_bind (P := fun _ => True) pc_T ?_
            intro _ _
            exact pc_some (show P9 _ from h182)
      · exact pc_some (show P9 _ from h180)
    · refine pc_bind (P := (fun r => P9 r.2)) (q_f_X12_bad (P9_j hM (by decide))) ?_
      rintro ⟨a183_0, a183_1⟩ h183
      replace h183 : P9 a183_1 := h183
      refine pc_ite ?_ ?_
      · refine pc_bind (P := P9) (q_f_X12_tries h183) ?_
        intro a184 h184
        refine pc_bind (P := P9) (pc_wh (q_L_X12_ahead_47) (show P9 _ from h184)) ?_
        intro a185 h185
        refine pc_ite ?_ ?_
        · refine pc_bind (P := fun _ => True) pc_T ?_
          intro _ _
          exact pc_some (show P9 _ from h185)
        · refine pc_ite ?_ ?_
          · refine pc_bind (P := fun _ => True) pc_T ?_
            intro _ _
            exact pc_some (show P9 _ from h185)
          · refine pc_bind (P := fun _ => True) pc_T ?_
            intro _ _
            exact pc_some (show P9 _ from h185)
      · exact pc_some (show P9 _ from h183)
theorem q_f_X12_board {x1 x2 : Int32} {M : Mem} (hM : P9 M) : pc (fun r => P9 r.2) (f_X12_board x1 x2 M) := by
  unfold f_X12_board
  refine pc_ite ?_ ?_
  · refine pc_bind (P := (fun r => P9 r.2)) (q_f_X12_bad (P9_j hM (by decide))) ?_
    rintro ⟨a186_0, a186_1⟩ h186
    replace h186 : P9 a186_1 := h186
    refine pc_ite ?_ ?_
    · refine pc_ite ?_ ?_
      · refine pc_bind (P := (fun r => P9 r.2)) (q_f_X12_bad h186) ?_
        rintro ⟨a187_0, a187_1⟩ h187
        replace h187 : P9 a187_1 := h187
        refine pc_ite ?_ ?_
        · refine pc_ite ?_ ?_
          · refine pc_ite ?_ ?_
            · refine pc_ite ?_ ?_
              · exact pc_some (show P9 _ from h187)
              · exact pc_none
            · exact pc_none
          · refine pc_ite ?_ ?_
            · refine pc_ite ?_ ?_
              · refine pc_ite ?_ ?_
                · exact pc_some (show P9 _ from h187)
                · exact pc_none
              · exact pc_none
            · refine pc_ite ?_ ?_
              · refine pc_ite ?_ ?_
                · refine pc_ite ?_ ?_
                  · exact pc_some (show P9 _ from h187)
                  · exact pc_none
                · exact pc_none
              · refine pc_ite ?_ ?_
                · refine pc_ite ?_ ?_
                  · refine pc_ite ?_ ?_
                    · exact pc_some (show P9 _ from h187)
                    · exact pc_none
                  · exact pc_none
                · refine pc_ite ?_ ?_
                  · refine pc_ite ?_ ?_
                    · exact pc_some (show P9 _ from h187)
                    · exact pc_none
                  · refine pc_ite ?_ ?_
                    · refine pc_bind (P := (fun r => P9 r.2)) (q_f_X12_opensIn (by decide) h187) ?_
                      rintro ⟨a188_0, a188_1⟩ h188
                      replace h188 : P9 a188_1 := h188
                      refine pc_ite ?_ ?_
                      · exact pc_some (show P9 _ from h188)
                      · exact pc_some (show P9 _ from h188)
                    · refine pc_ite ?_ ?_
                      · refine pc_ite ?_ ?_
                        · exact pc_some (show P9 _ from h187)
                        · exact pc_none
                      · refine pc_ite ?_ ?_
                        · exact pc_some (show P9 _ from h187)
                        · exact pc_none
        · exact pc_some (show P9 _ from h187)
      · refine pc_bind (P := (fun r => P9 r.2)) (q_f_X12_bad h186) ?_
        rintro ⟨a189_0, a189_1⟩ h189
        replace h189 : P9 a189_1 := h189
        refine pc_ite ?_ ?_
        · refine pc_ite ?_ ?_
          · refine pc_ite ?_ ?_
            · refine pc_ite ?_ ?_
              · exact pc_some (show P9 _ from h189)
              · exact pc_none
            · exact pc_none
          · refine pc_ite ?_ ?_
            · refine pc_ite ?_ ?_
              · refine pc_ite ?_ ?_
                · exact pc_some (show P9 _ from h189)
                · exact pc_none
              · exact pc_none
            · refine pc_ite ?_ ?_
              · refine pc_ite ?_ ?_
                · refine pc_ite ?_ ?_
                  · exact pc_some (show P9 _ from h189)
                  · exact pc_none
                · exact pc_none
              · refine pc_ite ?_ ?_
                · refine pc_ite ?_ ?_
                  · refine pc_ite ?_ ?_
                    · exact pc_some (show P9 _ from h189)
                    · exact pc_none
                  · exact pc_none
                · refine pc_ite ?_ ?_
                  · refine pc_ite ?_ ?_
                    · exact pc_some (show P9 _ from h189)
                    · exact pc_none
                  · refine pc_ite ?_ ?_
                    · refine pc_bind (P := (fun r => P9 r.2)) (q_f_X12_opensIn (by decide) h189) ?_
                      rintro ⟨a190_0, a190_1⟩ h190
                      replace h190 : P9 a190_1 := h190
                      refine pc_ite ?_ ?_
                      · exact pc_some (show P9 _ from h190)
                      · exact pc_some (show P9 _ from h190)
                    · refine pc_ite ?_ ?_
                      · refine pc_ite ?_ ?_
                        · exact pc_some (show P9 _ from h189)
                        · exact pc_none
                      · refine pc_ite ?_ ?_
                        · exact pc_some (show P9 _ from h189)
                        · exact pc_none
        · exact pc_some (show P9 _ from h189)
    · exact pc_some (show P9 _ from h186)
  · refine pc_bind (P := (fun r => P9 r.2)) (q_f_X12_bad (P9_j hM (by decide))) ?_
    rintro ⟨a191_0, a191_1⟩ h191
    replace h191 : P9 a191_1 := h191
    refine pc_ite ?_ ?_
    · refine pc_ite ?_ ?_
      · refine pc_bind (P := (fun r => P9 r.2)) (q_f_X12_bad h191) ?_
        rintro ⟨a192_0, a192_1⟩ h192
        replace h192 : P9 a192_1 := h192
        refine pc_ite ?_ ?_
        · refine pc_ite ?_ ?_
          · refine pc_ite ?_ ?_
            · refine pc_ite ?_ ?_
              · exact pc_some (show P9 _ from h192)
              · exact pc_none
            · exact pc_none
          · refine pc_ite ?_ ?_
            · refine pc_ite ?_ ?_
              · refine pc_ite ?_ ?_
                · exact pc_some (show P9 _ from h192)
                · exact pc_none
              · exact pc_none
            · refine pc_ite ?_ ?_
              · refine pc_ite ?_ ?_
                · refine pc_ite ?_ ?_
                  · exact pc_some (show P9 _ from h192)
                  · exact pc_none
                · exact pc_none
              · refine pc_ite ?_ ?_
                · refine pc_ite ?_ ?_
                  · refine pc_ite ?_ ?_
                    · exact pc_some (show P9 _ from h192)
                    · exact pc_none
                  · exact pc_none
                · refine pc_ite ?_ ?_
                  · refine pc_ite ?_ ?_
                    · exact pc_some (show P9 _ from h192)
                    · exact pc_none
                  · refine pc_ite ?_ ?_
                    · refine pc_bind (P := (fun r => P9 r.2)) (q_f_X12_opensIn (by decide) h192) ?_
                      rintro ⟨a193_0, a193_1⟩ h193
                      replace h193 : P9 a193_1 := h193
                      refine pc_ite ?_ ?_
                      · exact pc_some (show P9 _ from h193)
                      · exact pc_some (show P9 _ from h193)
                    · refine pc_ite ?_ ?_
                      · refine pc_ite ?_ ?_
                        · exact pc_some (show P9 _ from h192)
                        · exact pc_none
                      · refine pc_ite ?_ ?_
                        · exact pc_some (show P9 _ from h192)
                        · exact pc_none
        · exact pc_some (show P9 _ from h192)
      · refine pc_bind (P := (fun r => P9 r.2)) (q_f_X12_bad h191) ?_
        rintro ⟨a194_0, a194_1⟩ h194
        replace h194 : P9 a194_1 := h194
        refine pc_ite ?_ ?_
        · refine pc_ite ?_ ?_
          · refine pc_ite ?_ ?_
            · refine pc_ite ?_ ?_
              · exact pc_some (show P9 _ from h194)
              · exact pc_none
            · exact pc_none
          · refine pc_ite ?_ ?_
            · refine pc_ite ?_ ?_
              · refine pc_ite ?_ ?_
                · exact pc_some (show P9 _ from h194)
                · exact pc_none
              · exact pc_none
            · refine pc_ite ?_ ?_
              · refine pc_ite ?_ ?_
                · refine pc_ite ?_ ?_
                  · exact pc_some (show P9 _ from h194)
                  · exact pc_none
                · exact pc_none
              · refine pc_ite ?_ ?_
                · refine pc_ite ?_ ?_
                  · refine pc_ite ?_ ?_
                    · exact pc_some (show P9 _ from h194)
                    · exact pc_none
                  · exact pc_none
                · refine pc_ite ?_ ?_
                  · refine pc_ite ?_ ?_
                    · exact pc_some (show P9 _ from h194)
                    · exact pc_none
                  · refine pc_ite ?_ ?_
                    · refine pc_bind (P := (fun r => P9 r.2)) (q_f_X12_opensIn (by decide) h194) ?_
                      rintro ⟨a195_0, a195_1⟩ h195
                      replace h195 : P9 a195_1 := h195
                      refine pc_ite ?_ ?_
                      · exact pc_some (show P9 _ from h195)
                      · exact pc_some (show P9 _ from h195)
                    · refine pc_ite ?_ ?_
                      · refine pc_ite ?_ ?_
                        · exact pc_some (show P9 _ from h194)
                        · exact pc_none
                      · refine pc_ite ?_ ?_
                        · exact pc_some (show P9 _ from h194)
                        · exact pc_none
        · exact pc_some (show P9 _ from h194)
    · exact pc_some (show P9 _ from h191)
theorem q_f_X12_clause {M : Mem} (hM : P9 M) : pc P9 (f_X12_clause M) := by
  unfold f_X12_clause
  refine pc_bind (P := (fun r => P9 r.2)) (q_f_X12_kindHere hM) ?_
  rintro ⟨a196_0, a196_1⟩ h196
  replace h196 : P9 a196_1 := h196
  refine pc_ite ?_ ?_
  · refine pc_ite ?_ ?_
    · refine pc_bind (P := P9) (q_f_X12_skipWord (P9_wrong h196)) ?_
      intro a197 h197
      refine pc_ite ?_ ?_
      · refine pc_ite ?_ ?_
        · refine pc_bind (P := (fun r => P9 r.2)) (q_f_X12_number (P9_j h197 (by decide))) ?_
          rintro ⟨a198_0, a198_1⟩ h198
          replace h198 : P9 a198_1 := h198
          refine pc_bind (P := (fun r => P9 r.2)) (q_f_X12_number (P9_c h198 (by decide))) ?_
          rintro ⟨a199_0, a199_1⟩ h199
          replace h199 : P9 a199_1 := h199
          refine pc_bind (P := (fun r => P9 r.2)) (q_f_X12_number (P9_c h199 (by decide))) ?_
          rintro ⟨a200_0, a200_1⟩ h200
          replace h200 : P9 a200_1 := h200
          refine pc_ite ?_ ?_
          · refine pc_bind (P := P9) (q_f_X12_sign (P9_c (P9_c h200 (by decide)) (by decide))) ?_
            intro a201 h201
            exact pc_some (show P9 _ from h201)
          · refine pc_ite ?_ ?_
            · refine pc_ite ?_ ?_
              · refine pc_bind (P := P9) (q_f_X12_sign (P9_c (P9_c (P9_c h200 (by decide)) (by decide)) (by decide))) ?_
                intro a202 h202
                exact pc_some (show P9 _ from h202)
              · refine pc_bind (P := P9) (q_f_X12_sign (P9_c (P9_c (P9_c h200 (by decide)) (by decide)) (by decide))) ?_
                intro a203 h203
                exact pc_some (show P9 _ from h203)
            · exact pc_none
        · exact pc_none
      · refine pc_ite ?_ ?_
        · refine pc_ite ?_ ?_
          · refine pc_bind (P := (fun r => P9 r.2)) (q_f_X12_number (P9_j h197 (by decide))) ?_
            rintro ⟨a204_0, a204_1⟩ h204
            replace h204 : P9 a204_1 := h204
            refine pc_bind (P := (fun r => P9 r.2)) (q_f_X12_number (P9_c h204 (by decide))) ?_
            rintro ⟨a205_0, a205_1⟩ h205
            replace h205 : P9 a205_1 := h205
            refine pc_ite ?_ ?_
            · refine pc_bind (P := P9) (q_f_X12_sign (P9_c h205 (by decide))) ?_
              intro a206 h206
              exact pc_some (show P9 _ from h206)
            · refine pc_ite ?_ ?_
              · refine pc_ite ?_ ?_
                · refine pc_bind (P := P9) (q_f_X12_sign (P9_c (P9_c h205 (by decide)) (by decide))) ?_
                  intro a207 h207
                  exact pc_some (show P9 _ from h207)
                · refine pc_bind (P := P9) (q_f_X12_sign (P9_c (P9_c h205 (by decide)) (by decide))) ?_
                  intro a208 h208
                  exact pc_some (show P9 _ from h208)
              · exact pc_none
          · exact pc_none
        · refine pc_ite ?_ ?_
          · refine pc_ite ?_ ?_
            · refine pc_bind (P := (fun r => P9 r.2)) (q_f_X12_number (P9_j h197 (by decide))) ?_
              rintro ⟨a209_0, a209_1⟩ h209
              replace h209 : P9 a209_1 := h209
              refine pc_bind (P := (fun r => P9 r.2)) (q_f_X12_number (P9_c h209 (by decide))) ?_
              rintro ⟨a210_0, a210_1⟩ h210
              replace h210 : P9 a210_1 := h210
              refine pc_bind (P := (fun r => P9 r.2)) (q_f_X12_number (P9_c h210 (by decide))) ?_
              rintro ⟨a211_0, a211_1⟩ h211
              replace h211 : P9 a211_1 := h211
              refine pc_ite ?_ ?_
              · refine pc_bind (P := P9) (q_f_X12_sign (P9_c h211 (by decide))) ?_
                intro a212 h212
                exact pc_some (show P9 _ from h212)
              · refine pc_ite ?_ ?_
                · refine pc_ite ?_ ?_
                  · refine pc_bind (P := P9) (q_f_X12_sign (P9_c (P9_c h211 (by decide)) (by decide))) ?_
                    intro a213 h213
                    exact pc_some (show P9 _ from h213)
                  · refine pc_bind (P := P9) (q_f_X12_sign (P9_c (P9_c h211 (by decide)) (by decide))) ?_
                    intro a214 h214
                    exact pc_some (show P9 _ from h214)
                · exact pc_none
            · exact pc_none
          · refine pc_ite ?_ ?_
            · refine pc_bind (P := (fun r => P9 r.2)) (q_f_X12_number (P9_j h197 (by decide))) ?_
              rintro ⟨a215_0, a215_1⟩ h215
              replace h215 : P9 a215_1 := h215
              refine pc_ite ?_ ?_
              · refine pc_ite ?_ ?_
                · refine pc_ite ?_ ?_
                  · refine pc_bind (P := P9) (q_f_X12_sign (P9_c h215 (by decide))) ?_
                    intro a216 h216
                    exact pc_some (show P9 _ from h216)
                  · refine pc_bind (P := P9) (q_f_X12_sign (P9_c (P9_c h215 (by decide)) (by decide))) ?_
                    intro a217 h217
                    exact pc_some (show P9 _ from h217)
                · exact pc_none
              · refine pc_ite ?_ ?_
                · refine pc_bind (P := P9) (q_f_X12_sign h215) ?_
                  intro a218 h218
                  exact pc_some (show P9 _ from h218)
                · refine pc_ite ?_ ?_
                  · refine pc_bind (P := P9) (q_f_X12_sign (P9_c h215 (by decide))) ?_
                    intro a219 h219
                    exact pc_some (show P9 _ from h219)
                  · exact pc_none
            · refine pc_ite ?_ ?_
              · refine pc_bind (P := (fun r => P9 r.2)) (q_f_X12_number (P9_j h197 (by decide))) ?_
                rintro ⟨a220_0, a220_1⟩ h220
                replace h220 : P9 a220_1 := h220
                refine pc_ite ?_ ?_
                · refine pc_ite ?_ ?_
                  · refine pc_ite ?_ ?_
                    · refine pc_bind (P := P9) (q_f_X12_sign (P9_c h220 (by decide))) ?_
                      intro a221 h221
                      exact pc_some (show P9 _ from h221)
                    · refine pc_bind (P := P9) (q_f_X12_sign (P9_c (P9_c h220 (by decide)) (by decide))) ?_
                      intro a222 h222
                      exact pc_some (show P9 _ from h222)
                  · exact pc_none
                · refine pc_ite ?_ ?_
                  · refine pc_bind (P := P9) (q_f_X12_sign h220) ?_
                    intro a223 h223
                    exact pc_some (show P9 _ from h223)
                  · refine pc_ite ?_ ?_
                    · refine pc_bind (P := P9) (q_f_X12_sign (P9_c h220 (by decide))) ?_
                      intro a224 h224
                      exact pc_some (show P9 _ from h224)
                    · exact pc_none
              · refine pc_ite ?_ ?_
                · refine pc_bind (P := (fun r => P9 r.2)) (q_f_X12_number (P9_j h197 (by decide))) ?_
                  rintro ⟨a225_0, a225_1⟩ h225
                  replace h225 : P9 a225_1 := h225
                  refine pc_bind (P := (fun r => P9 r.2)) (q_f_X12_number h225) ?_
                  rintro ⟨a226_0, a226_1⟩ h226
                  replace h226 : P9 a226_1 := h226
                  refine pc_ite ?_ ?_
                  · refine pc_ite ?_ ?_
                    · refine pc_ite ?_ ?_
                      · refine pc_bind (P := P9) (q_f_X12_sign (P9_c h226 (by decide))) ?_
                        intro a227 h227
                        exact pc_some (show P9 _ from h227)
                      · refine pc_ite ?_ ?_
                        · refine pc_bind (P := P9) (q_f_X12_sign (P9_c (P9_c h226 (by decide)) (by decide))) ?_
                          intro a228 h228
                          exact pc_some (show P9 _ from h228)
                        · exact pc_none
                    · exact pc_none
                  · refine pc_ite ?_ ?_
                    · refine pc_bind (P := P9) (q_f_X12_sign h226) ?_
                      intro a229 h229
                      exact pc_some (show P9 _ from h229)
                    · refine pc_ite ?_ ?_
                      · refine pc_bind (P := P9) (q_f_X12_sign (P9_c h226 (by decide))) ?_
                        intro a230 h230
                        exact pc_some (show P9 _ from h230)
                      · exact pc_none
                · refine pc_bind (P := (fun r => P9 r.2)) (q_f_X12_number (P9_j h197 (by decide))) ?_
                  rintro ⟨a231_0, a231_1⟩ h231
                  replace h231 : P9 a231_1 := h231
                  refine pc_ite ?_ ?_
                  · refine pc_ite ?_ ?_
                    · refine pc_ite ?_ ?_
                      · refine pc_bind (P := P9) (q_f_X12_sign (P9_c h231 (by decide))) ?_
                        intro a232 h232
                        exact pc_some (show P9 _ from h232)
                      · refine pc_bind (P := P9) (q_f_X12_sign (P9_c (P9_c h231 (by decide)) (by decide))) ?_
                        intro a233 h233
                        exact pc_some (show P9 _ from h233)
                    · exact pc_none
                  · refine pc_ite ?_ ?_
                    · refine pc_bind (P := P9) (q_f_X12_sign h231) ?_
                      intro a234 h234
                      exact pc_some (show P9 _ from h234)
                    · refine pc_ite ?_ ?_
                      · refine pc_bind (P := P9) (q_f_X12_sign (P9_c h231 (by decide))) ?_
                        intro a235 h235
                        exact pc_some (show P9 _ from h235)
                      · exact pc_none
    · exact pc_some (show P9 _ from (P9_wrong h196))
  · refine pc_ite ?_ ?_
    · refine pc_ite ?_ ?_
      · refine pc_bind (P := P9) (q_f_X12_skipWord (P9_wrong h196)) ?_
        intro a236 h236
        refine pc_ite ?_ ?_
        · refine pc_ite ?_ ?_
          · refine pc_bind (P := (fun r => P9 r.2)) (q_f_X12_number (P9_j h236 (by decide))) ?_
            rintro ⟨a237_0, a237_1⟩ h237
            replace h237 : P9 a237_1 := h237
            refine pc_bind (P := (fun r => P9 r.2)) (q_f_X12_number (P9_c h237 (by decide))) ?_
            rintro ⟨a238_0, a238_1⟩ h238
            replace h238 : P9 a238_1 := h238
            refine pc_bind (P := (fun r => P9 r.2)) (q_f_X12_number (P9_c h238 (by decide))) ?_
            rintro ⟨a239_0, a239_1⟩ h239
            replace h239 : P9 a239_1 := h239
            refine pc_ite ?_ ?_
            · refine pc_bind (P := P9) (q_f_X12_sign (P9_c (P9_c h239 (by decide)) (by decide))) ?_
              intro a240 h240
              exact pc_some (show P9 _ from h240)
            · refine pc_ite ?_ ?_
              · refine pc_ite ?_ ?_
                · refine pc_bind (P := P9) (q_f_X12_sign (P9_c (P9_c (P9_c h239 (by decide)) (by decide)) (by decide))) ?_
                  intro a241 h241
                  exact pc_some (show P9 _ from h241)
                · refine pc_bind (P := P9) (q_f_X12_sign (P9_c (P9_c (P9_c h239 (by decide)) (by decide)) (by decide))) ?_
                  intro a242 h242
                  exact pc_some (show P9 _ from h242)
              · exact pc_none
          · exact pc_none
        · refine pc_ite ?_ ?_
          · refine pc_ite ?_ ?_
            · refine pc_bind (P := (fun r => P9 r.2)) (q_f_X12_number (P9_j h236 (by decide))) ?_
              rintro ⟨a243_0, a243_1⟩ h243
              replace h243 : P9 a243_1 := h243
              refine pc_bind (P := (fun r => P9 r.2)) (q_f_X12_number (P9_c h243 (by decide))) ?_
              rintro ⟨a244_0, a244_1⟩ h244
              replace h244 : P9 a244_1 := h244
              refine pc_ite ?_ ?_
              · refine pc_bind (P := P9) (q_f_X12_sign (P9_c h244 (by decide))) ?_
                intro a245 h245
                exact pc_some (show P9 _ from h245)
              · refine pc_ite ?_ ?_
                · refine pc_ite ?_ ?_
                  · refine pc_bind (P := P9) (q_f_X12_sign (P9_c (P9_c h244 (by decide)) (by decide))) ?_
                    intro a246 h246
                    exact pc_some (show P9 _ from h246)
                  · refine pc_bind (P := P9) (q_f_X12_sign (P9_c (P9_c h244 (by decide)) (by decide))) ?_
                    intro a247 h247
                    exact pc_some (show P9 _ from h247)
                · exact pc_none
            · exact pc_none
          · refine pc_ite ?_ ?_
            · refine pc_ite ?_ ?_
              · refine pc_bind (P := (fun r => P9 r.2)) (q_f_X12_number (P9_j h236 (by decide))) ?_
                rintro ⟨a248_0, a248_1⟩ h248
                replace h248 : P9 a248_1 := h248
                refine pc_bind (P := (fun r => P9 r.2)) (q_f_X12_number (P9_c h248 (by decide))) ?_
                rintro ⟨a249_0, a249_1⟩ h249
                replace h249 : P9 a249_1 := h249
                refine pc_bind (P := (fun r => P9 r.2)) (q_f_X12_number (P9_c h249 (by decide))) ?_
                rintro ⟨a250_0, a250_1⟩ h250
                replace h250 : P9 a250_1 := h250
                refine pc_ite ?_ ?_
                · refine pc_bind (P := P9) (q_f_X12_sign (P9_c h250 (by decide))) ?_
                  intro a251 h251
                  exact pc_some (show P9 _ from h251)
                · refine pc_ite ?_ ?_
                  · refine pc_ite ?_ ?_
                    · refine pc_bind (P := P9) (q_f_X12_sign (P9_c (P9_c h250 (by decide)) (by decide))) ?_
                      intro a252 h252
                      exact pc_some (show P9 _ from h252)
                    · refine pc_bind (P := P9) (q_f_X12_sign (P9_c (P9_c h250 (by decide)) (by decide))) ?_
                      intro a253 h253
                      exact pc_some (show P9 _ from h253)
                  · exact pc_none
              · exact pc_none
            · refine pc_ite ?_ ?_
              · refine pc_bind (P := (fun r => P9 r.2)) (q_f_X12_number (P9_j h236 (by decide))) ?_
                rintro ⟨a254_0, a254_1⟩ h254
                replace h254 : P9 a254_1 := h254
                refine pc_ite ?_ ?_
                · refine pc_ite ?_ ?_
                  · refine pc_ite ?_ ?_
                    · refine pc_bind (P := P9) (q_f_X12_sign (P9_c h254 (by decide))) ?_
                      intro a255 h255
                      exact pc_some (show P9 _ from h255)
                    · refine pc_bind (P := P9) (q_f_X12_sign (P9_c (P9_c h254 (by decide)) (by decide))) ?_
                      intro a256 h256
                      exact pc_some (show P9 _ from h256)
                  · exact pc_none
                · refine pc_ite ?_ ?_
                  · refine pc_bind (P := P9) (q_f_X12_sign h254) ?_
                    intro a257 h257
                    exact pc_some (show P9 _ from h257)
                  · refine pc_ite ?_ ?_
                    · refine pc_bind (P := P9) (q_f_X12_sign (P9_c h254 (by decide))) ?_
                      intro a258 h258
                      exact pc_some (show P9 _ from h258)
                    · exact pc_none
              · refine pc_ite ?_ ?_
                · refine pc_bind (P := (fun r => P9 r.2)) (q_f_X12_number (P9_j h236 (by decide))) ?_
                  rintro ⟨a259_0, a259_1⟩ h259
                  replace h259 : P9 a259_1 := h259
                  refine pc_ite ?_ ?_
                  · refine pc_ite ?_ ?_
                    · refine pc_ite ?_ ?_
                      · refine pc_bind (P := P9) (q_f_X12_sign (P9_c h259 (by decide))) ?_
                        intro a260 h260
                        exact pc_some (show P9 _ from h260)
                      · refine pc_bind (P := P9) (q_f_X12_sign (P9_c (P9_c h259 (by decide)) (by decide))) ?_
                        intro a261 h261
                        exact pc_some (show P9 _ from h261)
                    · exact pc_none
                  · refine pc_ite ?_ ?_
                    · refine pc_bind (P := P9) (q_f_X12_sign h259) ?_
                      intro a262 h262
                      exact pc_some (show P9 _ from h262)
                    · refine pc_ite ?_ ?_
                      · refine pc_bind (P := P9) (q_f_X12_sign (P9_c h259 (by decide))) ?_
                        intro a263 h263
                        exact pc_some (show P9 _ from h263)
                      · exact pc_none
                · refine pc_ite ?_ ?_
                  · refine pc_bind (P := (fun r => P9 r.2)) (q_f_X12_number (P9_j h236 (by decide))) ?_
                    rintro ⟨a264_0, a264_1⟩ h264
                    replace h264 : P9 a264_1 := h264
                    refine pc_bind (P := (fun r => P9 r.2)) (q_f_X12_number h264) ?_
                    rintro ⟨a265_0, a265_1⟩ h265
                    replace h265 : P9 a265_1 := h265
                    refine pc_ite ?_ ?_
                    · refine pc_ite ?_ ?_
                      · refine pc_ite ?_ ?_
                        · refine pc_bind (P := P9) (q_f_X12_sign (P9_c h265 (by decide))) ?_
                          intro a266 h266
                          exact pc_some (show P9 _ from h266)
                        · refine pc_ite ?_ ?_
                          · refine pc_bind (P := P9) (q_f_X12_sign (P9_c (P9_c h265 (by decide)) (by decide))) ?_
                            intro a267 h267
                            exact pc_some (show P9 _ from h267)
                          · exact pc_none
                      · exact pc_none
                    · refine pc_ite ?_ ?_
                      · refine pc_bind (P := P9) (q_f_X12_sign h265) ?_
                        intro a268 h268
                        exact pc_some (show P9 _ from h268)
                      · refine pc_ite ?_ ?_
                        · refine pc_bind (P := P9) (q_f_X12_sign (P9_c h265 (by decide))) ?_
                          intro a269 h269
                          exact pc_some (show P9 _ from h269)
                        · exact pc_none
                  · refine pc_bind (P := (fun r => P9 r.2)) (q_f_X12_number (P9_j h236 (by decide))) ?_
                    rintro ⟨a270_0, a270_1⟩ h270
                    replace h270 : P9 a270_1 := h270
                    refine pc_ite ?_ ?_
                    · refine pc_ite ?_ ?_
                      · refine pc_ite ?_ ?_
                        · refine pc_bind (P := P9) (q_f_X12_sign (P9_c h270 (by decide))) ?_
                          intro a271 h271
                          exact pc_some (show P9 _ from h271)
                        · refine pc_bind (P := P9) (q_f_X12_sign (P9_c (P9_c h270 (by decide)) (by decide))) ?_
                          intro a272 h272
                          exact pc_some (show P9 _ from h272)
                      · exact pc_none
                    · refine pc_ite ?_ ?_
                      · refine pc_bind (P := P9) (q_f_X12_sign h270) ?_
                        intro a273 h273
                        exact pc_some (show P9 _ from h273)
                      · refine pc_ite ?_ ?_
                        · refine pc_bind (P := P9) (q_f_X12_sign (P9_c h270 (by decide))) ?_
                          intro a274 h274
                          exact pc_some (show P9 _ from h274)
                        · exact pc_none
      · exact pc_some (show P9 _ from (P9_wrong h196))
    · refine pc_ite ?_ ?_
      · refine pc_ite ?_ ?_
        · refine pc_bind (P := P9) (q_f_X12_skipWord h196) ?_
          intro a275 h275
          refine pc_ite ?_ ?_
          · refine pc_ite ?_ ?_
            · refine pc_bind (P := (fun r => P9 r.2)) (q_f_X12_number (P9_j h275 (by decide))) ?_
              rintro ⟨a276_0, a276_1⟩ h276
              replace h276 : P9 a276_1 := h276
              refine pc_bind (P := (fun r => P9 r.2)) (q_f_X12_number (P9_c h276 (by decide))) ?_
              rintro ⟨a277_0, a277_1⟩ h277
              replace h277 : P9 a277_1 := h277
              refine pc_bind (P := (fun r => P9 r.2)) (q_f_X12_number (P9_c h277 (by decide))) ?_
              rintro ⟨a278_0, a278_1⟩ h278
              replace h278 : P9 a278_1 := h278
              refine pc_ite ?_ ?_
              · refine pc_bind (P := P9) (q_f_X12_sign (P9_c (P9_c h278 (by decide)) (by decide))) ?_
                intro a279 h279
                exact pc_some (show P9 _ from h279)
              · refine pc_ite ?_ ?_
                · refine pc_ite ?_ ?_
                  · refine pc_bind (P := P9) (q_f_X12_sign (P9_c (P9_c (P9_c h278 (by decide)) (by decide)) (by decide))) ?_
                    intro a280 h280
                    exact pc_some (show P9 _ from h280)
                  · refine pc_bind (P := P9) (q_f_X12_sign (P9_c (P9_c (P9_c h278 (by decide)) (by decide)) (by decide))) ?_
                    intro a281 h281
                    exact pc_some (show P9 _ from h281)
                · exact pc_none
            · exact pc_none
          · refine pc_ite ?_ ?_
            · refine pc_ite ?_ ?_
              · refine pc_bind (P := (fun r => P9 r.2)) (q_f_X12_number (P9_j h275 (by decide))) ?_
                rintro ⟨a282_0, a282_1⟩ h282
                replace h282 : P9 a282_1 := h282
                refine pc_bind (P := (fun r => P9 r.2)) (q_f_X12_number (P9_c h282 (by decide))) ?_
                rintro ⟨a283_0, a283_1⟩ h283
                replace h283 : P9 a283_1 := h283
                refine pc_ite ?_ ?_
                · refine pc_bind (P := P9) (q_f_X12_sign (P9_c h283 (by decide))) ?_
                  intro a284 h284
                  exact pc_some (show P9 _ from h284)
                · refine pc_ite ?_ ?_
                  · refine pc_ite ?_ ?_
                    · refine pc_bind (P := P9) (q_f_X12_sign (P9_c (P9_c h283 (by decide)) (by decide))) ?_
                      intro a285 h285
                      exact pc_some (show P9 _ from h285)
                    · refine pc_bind (P := P9) (q_f_X12_sign (P9_c (P9_c h283 (by decide)) (by decide))) ?_
                      intro a286 h286
                      exact pc_some (show P9 _ from h286)
                  · exact pc_none
              · exact pc_none
            · refine pc_ite ?_ ?_
              · refine pc_ite ?_ ?_
                · refine pc_bind (P := (fun r => P9 r.2)) (q_f_X12_number (P9_j h275 (by decide))) ?_
                  rintro ⟨a287_0, a287_1⟩ h287
                  replace h287 : P9 a287_1 := h287
                  refine pc_bind (P := (fun r => P9 r.2)) (q_f_X12_number (P9_c h287 (by decide))) ?_
                  rintro ⟨a288_0, a288_1⟩ h288
                  replace h288 : P9 a288_1 := h288
                  refine pc_bind (P := (fun r => P9 r.2)) (q_f_X12_number (P9_c h288 (by decide))) ?_
                  rintro ⟨a289_0, a289_1⟩ h289
                  replace h289 : P9 a289_1 := h289
                  refine pc_ite ?_ ?_
                  · refine pc_bind (P := P9) (q_f_X12_sign (P9_c h289 (by decide))) ?_
                    intro a290 h290
                    exact pc_some (show P9 _ from h290)
                  · refine pc_ite ?_ ?_
                    · refine pc_ite ?_ ?_
                      · refine pc_bind (P := P9) (q_f_X12_sign (P9_c (P9_c h289 (by decide)) (by decide))) ?_
                        intro a291 h291
                        exact pc_some (show P9 _ from h291)
                      · refine pc_bind (P := P9) (q_f_X12_sign (P9_c (P9_c h289 (by decide)) (by decide))) ?_
                        intro a292 h292
                        exact pc_some (show P9 _ from h292)
                    · exact pc_none
                · exact pc_none
              · refine pc_ite ?_ ?_
                · refine pc_bind (P := (fun r => P9 r.2)) (q_f_X12_number (P9_j h275 (by decide))) ?_
                  rintro ⟨a293_0, a293_1⟩ h293
                  replace h293 : P9 a293_1 := h293
                  refine pc_ite ?_ ?_
                  · refine pc_ite ?_ ?_
                    · refine pc_ite ?_ ?_
                      · refine pc_bind (P := P9) (q_f_X12_sign (P9_c h293 (by decide))) ?_
                        intro a294 h294
                        exact pc_some (show P9 _ from h294)
                      · refine pc_bind (P := P9) (q_f_X12_sign (P9_c (P9_c h293 (by decide)) (by decide))) ?_
                        intro a295 h295
                        exact pc_some (show P9 _ from h295)
                    · exact pc_none
                  · refine pc_ite ?_ ?_
                    · refine pc_bind (P := P9) (q_f_X12_sign h293) ?_
                      intro a296 h296
                      exact pc_some (show P9 _ from h296)
                    · refine pc_ite ?_ ?_
                      · refine pc_bind (P := P9) (q_f_X12_sign (P9_c h293 (by decide))) ?_
                        intro a297 h297
                        exact pc_some (show P9 _ from h297)
                      · exact pc_none
                · refine pc_ite ?_ ?_
                  · refine pc_bind (P := (fun r => P9 r.2)) (q_f_X12_number (P9_j h275 (by decide))) ?_
                    rintro ⟨a298_0, a298_1⟩ h298
                    replace h298 : P9 a298_1 := h298
                    refine pc_ite ?_ ?_
                    · refine pc_ite ?_ ?_
                      · refine pc_ite ?_ ?_
                        · refine pc_bind (P := P9) (q_f_X12_sign (P9_c h298 (by decide))) ?_
                          intro a299 h299
                          exact pc_some (show P9 _ from h299)
                        · refine pc_bind (P := P9) (q_f_X12_sign (P9_c (P9_c h298 (by decide)) (by decide))) ?_
                          intro a300 h300
                          exact pc_some (show P9 _ from h300)
                      · exact pc_none
                    · refine pc_ite ?_ ?_
                      · refine pc_bind (P := P9) (q_f_X12_sign h298) ?_
                        intro a301 h301
                        exact pc_some (show P9 _ from h301)
                      · refine pc_ite ?_ ?_
                        · refine pc_bind (P := P9) (q_f_X12_sign (P9_c h298 (by decide))) ?_
                          intro a302 h302
                          exact pc_some (show P9 _ from h302)
                        · exact pc_none
                  · refine pc_ite ?_ ?_
                    · refine pc_bind (P := (fun r => P9 r.2)) (q_f_X12_number (P9_j h275 (by decide))) ?_
                      rintro ⟨a303_0, a303_1⟩ h303
                      replace h303 : P9 a303_1 := h303
                      refine pc_bind (P := (fun r => P9 r.2)) (q_f_X12_number h303) ?_
                      rintro ⟨a304_0, a304_1⟩ h304
                      replace h304 : P9 a304_1 := h304
                      refine pc_ite ?_ ?_
                      · refine pc_ite ?_ ?_
                        · refine pc_ite ?_ ?_
                          · refine pc_bind (P := P9) (q_f_X12_sign (P9_c h304 (by decide))) ?_
                            intro a305 h305
                            exact pc_some (show P9 _ from h305)
                          · refine pc_ite ?_ ?_
                            · refine pc_bind (P := P9) (q_f_X12_sign (P9_c (P9_c h304 (by decide)) (by decide))) ?_
                              intro a306 h306
                              exact pc_some (show P9 _ from h306)
                            · exact pc_none
                        · exact pc_none
                      · refine pc_ite ?_ ?_
                        · refine pc_bind (P := P9) (q_f_X12_sign h304) ?_
                          intro a307 h307
                          exact pc_some (show P9 _ from h307)
                        · refine pc_ite ?_ ?_
                          · refine pc_bind (P := P9) (q_f_X12_sign (P9_c h304 (by decide))) ?_
                            intro a308 h308
                            exact pc_some (show P9 _ from h308)
                          · exact pc_none
                    · refine pc_bind (P := (fun r => P9 r.2)) (q_f_X12_number (P9_j h275 (by decide))) ?_
                      rintro ⟨a309_0, a309_1⟩ h309
                      replace h309 : P9 a309_1 := h309
                      refine pc_ite ?_ ?_
                      · refine pc_ite ?_ ?_
                        · refine pc_ite ?_ ?_
                          · refine pc_bind (P := P9) (q_f_X12_sign (P9_c h309 (by decide))) ?_
                            intro a310 h310
                            exact pc_some (show P9 _ from h310)
                          · refine pc_bind (P := P9) (q_f_X12_sign (P9_c (P9_c h309 (by decide)) (by decide))) ?_
                            intro a311 h311
                            exact pc_some (show P9 _ from h311)
                        · exact pc_none
                      · refine pc_ite ?_ ?_
                        · refine pc_bind (P := P9) (q_f_X12_sign h309) ?_
                          intro a312 h312
                          exact pc_some (show P9 _ from h312)
                        · refine pc_ite ?_ ?_
                          · refine pc_bind (P := P9) (q_f_X12_sign (P9_c h309 (by decide))) ?_
                            intro a313 h313
                            exact pc_some (show P9 _ from h313)
                          · exact pc_none
        · exact pc_some (show P9 _ from h196)
      · refine pc_ite ?_ ?_
        · refine pc_bind (P := P9) (q_f_X12_skipWord (P9_wrong h196)) ?_
          intro a314 h314
          refine pc_ite ?_ ?_
          · refine pc_ite ?_ ?_
            · refine pc_bind (P := (fun r => P9 r.2)) (q_f_X12_number (P9_j h314 (by decide))) ?_
              rintro ⟨a315_0, a315_1⟩ h315
              replace h315 : P9 a315_1 := h315
              refine pc_bind (P := (fun r => P9 r.2)) (q_f_X12_number (P9_c h315 (by decide))) ?_
              rintro ⟨a316_0, a316_1⟩ h316
              replace h316 : P9 a316_1 := h316
              refine pc_bind (P := (fun r => P9 r.2)) (q_f_X12_number (P9_c h316 (by decide))) ?_
              rintro ⟨a317_0, a317_1⟩ h317
              replace h317 : P9 a317_1 := h317
              refine pc_ite ?_ ?_
              · refine pc_bind (P := P9) (q_f_X12_sign (P9_c (P9_c h317 (by decide)) (by decide))) ?_
                intro a318 h318
                exact pc_some (show P9 _ from h318)
              · refine pc_ite ?_ ?_
                · refine pc_ite ?_ ?_
                  · refine pc_bind (P := P9) (q_f_X12_sign (P9_c (P9_c (P9_c h317 (by decide)) (by decide)) (by decide))) ?_
                    intro a319 h319
                    exact pc_some (show P9 _ from h319)
                  · refine pc_bind (P := P9) (q_f_X12_sign (P9_c (P9_c (P9_c h317 (by decide)) (by decide)) (by decide))) ?_
                    intro a320 h320
                    exact pc_some (show P9 _ from h320)
                · exact pc_none
            · exact pc_none
          · refine pc_ite ?_ ?_
            · refine pc_ite ?_ ?_
              · refine pc_bind (P := (fun r => P9 r.2)) (q_f_X12_number (P9_j h314 (by decide))) ?_
                rintro ⟨a321_0, a321_1⟩ h321
                replace h321 : P9 a321_1 := h321
                refine pc_bind (P := (fun r => P9 r.2)) (q_f_X12_number (P9_c h321 (by decide))) ?_
                rintro ⟨a322_0, a322_1⟩ h322
                replace h322 : P9 a322_1 := h322
                refine pc_ite ?_ ?_
                · refine pc_bind (P := P9) (q_f_X12_sign (P9_c h322 (by decide))) ?_
                  intro a323 h323
                  exact pc_some (show P9 _ from h323)
                · refine pc_ite ?_ ?_
                  · refine pc_ite ?_ ?_
                    · refine pc_bind (P := P9) (q_f_X12_sign (P9_c (P9_c h322 (by decide)) (by decide))) ?_
                      intro a324 h324
                      exact pc_some (show P9 _ from h324)
                    · refine pc_bind (P := P9) (q_f_X12_sign (P9_c (P9_c h322 (by decide)) (by decide))) ?_
                      intro a325 h325
                      exact pc_some (show P9 _ from h325)
                  · exact pc_none
              · exact pc_none
            · refine pc_ite ?_ ?_
              · refine pc_ite ?_ ?_
                · refine pc_bind (P := (fun r => P9 r.2)) (q_f_X12_number (P9_j h314 (by decide))) ?_
                  rintro ⟨a326_0, a326_1⟩ h326
                  replace h326 : P9 a326_1 := h326
                  refine pc_bind (P := (fun r => P9 r.2)) (q_f_X12_number (P9_c h326 (by decide))) ?_
                  rintro ⟨a327_0, a327_1⟩ h327
                  replace h327 : P9 a327_1 := h327
                  refine pc_bind (P := (fun r => P9 r.2)) (q_f_X12_number (P9_c h327 (by decide))) ?_
                  rintro ⟨a328_0, a328_1⟩ h328
                  replace h328 : P9 a328_1 := h328
                  refine pc_ite ?_ ?_
                  · refine pc_bind (P := P9) (q_f_X12_sign (P9_c h328 (by decide))) ?_
                    intro a329 h329
                    exact pc_some (show P9 _ from h329)
                  · refine pc_ite ?_ ?_
                    · refine pc_ite ?_ ?_
                      · refine pc_bind (P := P9) (q_f_X12_sign (P9_c (P9_c h328 (by decide)) (by decide))) ?_
                        intro a330 h330
                        exact pc_some (show P9 _ from h330)
                      · refine pc_bind (P := P9) (q_f_X12_sign (P9_c (P9_c h328 (by decide)) (by decide))) ?_
                        intro a331 h331
                        exact pc_some (show P9 _ from h331)
                    · exact pc_none
                · exact pc_none
              · refine pc_ite ?_ ?_
                · refine pc_bind (P := (fun r => P9 r.2)) (q_f_X12_number (P9_j h314 (by decide))) ?_
                  rintro ⟨a332_0, a332_1⟩ h332
                  replace h332 : P9 a332_1 := h332
                  refine pc_ite ?_ ?_
                  · refine pc_ite ?_ ?_
                    · refine pc_ite ?_ ?_
                      · refine pc_bind (P := P9) (q_f_X12_sign (P9_c h332 (by decide))) ?_
                        intro a333 h333
                        exact pc_some (show P9 _ from h333)
                      · refine pc_bind (P := P9) (q_f_X12_sign (P9_c (P9_c h332 (by decide)) (by decide))) ?_
                        intro a334 h334
                        exact pc_some (show P9 _ from h334)
                    · exact pc_none
                  · refine pc_ite ?_ ?_
                    · refine pc_bind (P := P9) (q_f_X12_sign h332) ?_
                      intro a335 h335
                      exact pc_some (show P9 _ from h335)
                    · refine pc_ite ?_ ?_
                      · refine pc_bind (P := P9) (q_f_X12_sign (P9_c h332 (by decide))) ?_
                        intro a336 h336
                        exact pc_some (show P9 _ from h336)
                      · exact pc_none
                · refine pc_ite ?_ ?_
                  · refine pc_bind (P := (fun r => P9 r.2)) (q_f_X12_number (P9_j h314 (by decide))) ?_
                    rintro ⟨a337_0, a337_1⟩ h337
                    replace h337 : P9 a337_1 := h337
                    refine pc_ite ?_ ?_
                    · refine pc_ite ?_ ?_
                      · refine pc_ite ?_ ?_
                        · refine pc_bind (P := P9) (q_f_X12_sign (P9_c h337 (by decide))) ?_
                          intro a338 h338
                          exact pc_some (show P9 _ from h338)
                        · refine pc_bind (P := P9) (q_f_X12_sign (P9_c (P9_c h337 (by decide)) (by decide))) ?_
                          intro a339 h339
                          exact pc_some (show P9 _ from h339)
                      · exact pc_none
                    · refine pc_ite ?_ ?_
                      · refine pc_bind (P := P9) (q_f_X12_sign h337) ?_
                        intro a340 h340
                        exact pc_some (show P9 _ from h340)
                      · refine pc_ite ?_ ?_
                        · refine pc_bind (P := P9) (q_f_X12_sign (P9_c h337 (by decide))) ?_
                          intro a341 h341
                          exact pc_some (show P9 _ from h341)
                        · exact pc_none
                  · refine pc_ite ?_ ?_
                    · refine pc_bind (P := (fun r => P9 r.2)) (q_f_X12_number (P9_j h314 (by decide))) ?_
                      rintro ⟨a342_0, a342_1⟩ h342
                      replace h342 : P9 a342_1 := h342
                      refine pc_bind (P := (fun r => P9 r.2)) (q_f_X12_number h342) ?_
                      rintro ⟨a343_0, a343_1⟩ h343
                      replace h343 : P9 a343_1 := h343
                      refine pc_ite ?_ ?_
                      · refine pc_ite ?_ ?_
                        · refine pc_ite ?_ ?_
                          · refine pc_bind (P := P9) (q_f_X12_sign (P9_c h343 (by decide))) ?_
                            intro a344 h344
                            exact pc_some (show P9 _ from h344)
                          · refine pc_ite ?_ ?_
                            · refine pc_bind (P := P9) (q_f_X12_sign (P9_c (P9_c h343 (by decide)) (by decide))) ?_
                              intro a345 h345
                              exact pc_some (show P9 _ from h345)
                            · exact pc_none
                        · exact pc_none
                      · refine pc_ite ?_ ?_
                        · refine pc_bind (P := P9) (q_f_X12_sign h343) ?_
                          intro a346 h346
                          exact pc_some (show P9 _ from h346)
                        · refine pc_ite ?_ ?_
                          · refine pc_bind (P := P9) (q_f_X12_sign (P9_c h343 (by decide))) ?_
                            intro a347 h347
                            exact pc_some (show P9 _ from h347)
                          · exact pc_none
                    · refine pc_bind (P := (fun r => P9 r.2)) (q_f_X12_number (P9_j h314 (by decide))) ?_
                      rintro ⟨a348_0, a348_1⟩ h348
                      replace h348 : P9 a348_1 := h348
                      refine pc_ite ?_ ?_
                      · refine pc_ite ?_ ?_
                        · refine pc_ite ?_ ?_
                          · refine pc_bind (P := P9) (q_f_X12_sign (P9_c h348 (by decide))) ?_
                            intro a349 h349
                            exact pc_some (show P9 _ from h349)
                          · refine pc_bind (P := P9) (q_f_X12_sign (P9_c (P9_c h348 (by decide)) (by decide))) ?_
                            intro a350 h350
                            exact pc_some (show P9 _ from h350)
                        · exact pc_none
                      · refine pc_ite ?_ ?_
                        · refine pc_bind (P := P9) (q_f_X12_sign h348) ?_
                          intro a351 h351
                          exact pc_some (show P9 _ from h351)
                        · refine pc_ite ?_ ?_
                          · refine pc_bind (P := P9) (q_f_X12_sign (P9_c h348 (by decide))) ?_
                            intro a352 h352
                            exact pc_some (show P9 _ from h352)
                          · exact pc_none
        · exact pc_some (show P9 _ from (P9_wrong h196))
theorem q_L_X12_hold_47 {x2 : Int32} : ∀ s, (fun r => P9 r.2) s → pc (sQ (fun r => P9 r.2) P9) (L_X12_hold_47 x2 s) := by
  rintro ⟨b0, b1⟩ hM
  replace hM : P9 b1 := hM
  unfold L_X12_hold_47
  refine pc_ite ?_ ?_
  · exact pc_some (show P9 _ from hM)
  · refine pc_bind (P := P9) (q_f_X12_hourEnds (by decide) hM) ?_
    intro a353 h353
    exact pc_some (show P9 _ from h353)
theorem q_L_X12_hold_70 {x1 : Int32} : ∀ s, (fun r => P9 r.2.2) s → pc (sQ (fun r => P9 r.2.2) (fun r => P9 r.2)) (L_X12_hold_70 x1 s) := by
  rintro ⟨b0, b1, b2⟩ hM
  replace hM : P9 b2 := hM
  unfold L_X12_hold_70
  refine pc_ite ?_ ?_
  · exact pc_some (show P9 _ from hM)
  · refine pc_ite ?_ ?_
    · refine pc_ite ?_ ?_
      · refine pc_ite ?_ ?_
        · exact pc_some (show P9 _ from hM)
        · refine pc_bind (P := (fun r => P9 r.2)) (q_f_X12_opensIn (by decide) hM) ?_
          rintro ⟨a354_0, a354_1⟩ h354
          replace h354 : P9 a354_1 := h354
          refine pc_ite ?_ ?_
          · exact pc_some (show P9 _ from h354)
          · exact pc_some (show P9 _ from h354)
      · exact pc_none
    · refine pc_ite ?_ ?_
      · refine pc_ite ?_ ?_
        · refine pc_bind (P := P9) (q_f_X12_hourEnds (by decide) hM) ?_
          intro a355 h355
          refine pc_ite ?_ ?_
          · refine pc_ite ?_ ?_
            · exact pc_some (show P9 _ from h355)
            · refine pc_bind (P := (fun r => P9 r.2)) (q_f_X12_opensIn (by decide) h355) ?_
              rintro ⟨a356_0, a356_1⟩ h356
              replace h356 : P9 a356_1 := h356
              refine pc_ite ?_ ?_
              · exact pc_some (show P9 _ from h356)
              · exact pc_some (show P9 _ from h356)
          · exact pc_none
        · refine pc_ite ?_ ?_
          · refine pc_ite ?_ ?_
            · exact pc_some (show P9 _ from hM)
            · refine pc_bind (P := (fun r => P9 r.2)) (q_f_X12_opensIn (by decide) hM) ?_
              rintro ⟨a357_0, a357_1⟩ h357
              replace h357 : P9 a357_1 := h357
              refine pc_ite ?_ ?_
              · exact pc_some (show P9 _ from h357)
              · exact pc_some (show P9 _ from h357)
          · exact pc_none
      · exact pc_none
theorem q_f_X12_hold {x1 x2 : Int32} {M : Mem} (hM : P9 M) : pc (fun r => P9 r.2) (f_X12_hold x1 x2 M) := by
  unfold f_X12_hold
  refine pc_ite ?_ ?_
  · refine pc_bind (P := (fun r => P9 r.2)) (q_f_X12_bad (P9_j hM (by decide))) ?_
    rintro ⟨a358_0, a358_1⟩ h358
    replace h358 : P9 a358_1 := h358
    refine pc_ite ?_ ?_
    · refine pc_bind (P := P9) (q_f_X12_tries h358) ?_
      intro a359 h359
      refine pc_bind (P := P9) (pc_wh (q_L_X12_hold_47) (show P9 _ from h359)) ?_
      intro a360 h360
      refine pc_bind (P := (fun r => P9 r.2)) (pc_wh (q_L_X12_hold_70) (show P9 _ from h360)) ?_
      rintro ⟨a361_0, a361_1⟩ h361
      replace h361 : P9 a361_1 := h361
      exact pc_some (show P9 _ from h361)
    · exact pc_some (show P9 _ from h358)
  · refine pc_ite ?_ ?_
    · refine pc_bind (P := (fun r => P9 r.2)) (q_f_X12_bad (P9_j hM (by decide))) ?_
      rintro ⟨a362_0, a362_1⟩ h362
      replace h362 : P9 a362_1 := h362
      refine pc_ite ?_ ?_
      · refine pc_bind (P := P9) (q_f_X12_tries h362) ?_
        intro a363 h363
        refine pc_bind (P := P9) (pc_wh (q_L_X12_hold_47) (show P9 _ from h363)) ?_
        intro a364 h364
        refine pc_bind (P := (fun r => P9 r.2)) (pc_wh (q_L_X12_hold_70) (show P9 _ from h364)) ?_
        rintro ⟨a365_0, a365_1⟩ h365
        replace h365 : P9 a365_1 := h365
        exact pc_some (show P9 _ from h365)
      · exact pc_some (show P9 _ from h362)
    · refine pc_bind (P := (fun r => P9 r.2)) (q_f_X12_bad (P9_j hM (by decide))) ?_
      rintro ⟨a366_0, a366_1⟩ h366
      replace h366 : P9 a366_1 := h366
      refine pc_ite ?_ ?_
      · refine pc_bind (P := P9) (q_f_X12_tries h366) ?_
        intro a367 h367
        refine pc_bind (P := P9) (pc_wh (q_L_X12_hold_47) (show P9 _ from h367)) ?_
        intro a368 h368
        refine pc_bind (P := (fun r => P9 r.2)) (pc_wh (q_L_X12_hold_70) (show P9 _ from h368)) ?_
        rintro ⟨a369_0, a369_1⟩ h369
        replace h369 : P9 a369_1 := h369
        exact pc_some (show P9 _ from h369)
      · exact pc_some (show P9 _ from h366)
theorem q_f_X12_knownHere {M : Mem} (hM : P9 M) : pc (fun r => P9 r.2) (f_X12_knownHere M) := by
  unfold f_X12_knownHere
  refine pc_bind (P := (fun r => P9 r.2)) (q_f_X12_takes hM) ?_
  rintro ⟨a370_0, a370_1⟩ h370
  replace h370 : P9 a370_1 := h370
  refine pc_ite ?_ ?_
  · refine pc_bind (P := (fun r => P9 r.2)) (q_f_X12_takes h370) ?_
    rintro ⟨a371_0, a371_1⟩ h371
    replace h371 : P9 a371_1 := h371
    refine pc_ite ?_ ?_
    · refine pc_bind (P := (fun r => P9 r.2)) (q_f_X12_takes h371) ?_
      rintro ⟨a372_0, a372_1⟩ h372
      replace h372 : P9 a372_1 := h372
      refine pc_ite ?_ ?_
      · refine pc_bind (P := (fun r => P9 r.2)) (q_f_X12_takes h372) ?_
        rintro ⟨a373_0, a373_1⟩ h373
        replace h373 : P9 a373_1 := h373
        refine pc_ite ?_ ?_
        · refine pc_bind (P := (fun r => P9 r.2)) (q_f_X12_takes h373) ?_
          rintro ⟨a374_0, a374_1⟩ h374
          replace h374 : P9 a374_1 := h374
          refine pc_ite ?_ ?_
          · refine pc_bind (P := (fun r => P9 r.2)) (q_f_X12_takes h374) ?_
            rintro ⟨a375_0, a375_1⟩ h375
            replace h375 : P9 a375_1 := h375
            refine pc_ite ?_ ?_
            · refine pc_bind (P := (fun r => P9 r.2)) (q_f_X12_takes h375) ?_
              rintro ⟨a376_0, a376_1⟩ h376
              replace h376 : P9 a376_1 := h376
              refine pc_ite ?_ ?_
              · refine pc_bind (P := (fun r => P9 r.2)) (q_f_X12_takes h376) ?_
                rintro ⟨a377_0, a377_1⟩ h377
                replace h377 : P9 a377_1 := h377
                refine pc_ite ?_ ?_
                · exact pc_some (show P9 _ from h377)
                · exact pc_some (show P9 _ from h377)
              · exact pc_some (show P9 _ from h376)
            · exact pc_some (show P9 _ from h375)
          · exact pc_some (show P9 _ from h374)
        · exact pc_some (show P9 _ from h373)
      · exact pc_some (show P9 _ from h372)
    · exact pc_some (show P9 _ from h371)
  · exact pc_some (show P9 _ from h370)
theorem q_L_X12_letter_70  : ∀ s, (fun r => P9 r.2.2.2.2.2) s → pc (sQ (fun r => P9 r.2.2.2.2.2) (fun r => P9 r.2.2.2)) (L_X12_letter_70 s) := by
  rintro ⟨b0, b1, b2, b3, b4, b5⟩ hM
  replace hM : P9 b5 := hM
  unfold L_X12_letter_70
  refine pc_ite ?_ ?_
  · exact pc_some (show P9 _ from hM)
  · refine pc_bind (P := (fun r => P9 r.2)) (q_f_X12_opensIn (by decide) hM) ?_
    rintro ⟨a378_0, a378_1⟩ h378
    replace h378 : P9 a378_1 := h378
    refine pc_ite ?_ ?_
    · refine pc_bind (P := P9) (q_f_X12_hourEnds (by decide) h378) ?_
      intro a379 h379
      exact pc_some (show P9 _ from h379)
    · refine pc_ite ?_ ?_
      · refine pc_bind (P := P9) (q_f_X12_hourEnds (by decide) h378) ?_
        intro a380 h380
        exact pc_some (show P9 _ from h380)
      · refine pc_bind (P := P9) (q_f_X12_hourEnds (by decide) h378) ?_
        intro a381 h381
        exact pc_some (show P9 _ from h381)
theorem q_f_X12_letter {x1 x2 : Int32} {M : Mem} (hM : P9 M) : pc (fun r => P9 r.2) (f_X12_letter x1 x2 M) := by
  unfold f_X12_letter
  refine pc_ite ?_ ?_
  · refine pc_bind (P := (fun r => P9 r.2)) (q_f_X12_bad (P9_j hM (by decide))) ?_
    rintro ⟨a382_0, a382_1⟩ h382
    replace h382 : P9 a382_1 := h382
    refine pc_ite ?_ ?_
    · refine pc_ite ?_ ?_
      · refine pc_bind (P := (fun r => P9 r.2)) (q_f_X12_bad h382) ?_
        rintro ⟨a383_0, a383_1⟩ h383
        replace h383 : P9 a383_1 := h383
        refine pc_ite ?_ ?_
        · refine pc_bind (P := P9) (q_f_X12_tries h383) ?_
          intro a384 h384
          refine pc_bind (P := (fun r => P9 r.2.2.2)) (pc_wh (q_L_X12_letter_70) (show P9 _ from h384)) ?_
          rintro ⟨a385_0, a385_1, a385_2, a385_3⟩ h385
          replace h385 : P9 a385_3 := h385
          refine pc_ite ?_ ?_
          · exact pc_some (show P9 _ from h385)
          · refine pc_ite ?_ ?_
            · exact pc_some (show P9 _ from h385)
            · exact pc_some (show P9 _ from h385)
        · exact pc_some (show P9 _ from h383)
      · refine pc_bind (P := (fun r => P9 r.2)) (q_f_X12_bad h382) ?_
        rintro ⟨a386_0, a386_1⟩ h386
        replace h386 : P9 a386_1 := h386
        refine pc_ite ?_ ?_
        · refine pc_bind (P := P9) (q_f_X12_tries h386) ?_
          intro a387 h387
          refine pc_bind (P := (fun r => P9 r.2.2.2)) (pc_wh (q_L_X12_letter_70) (show P9 _ from h387)) ?_
          rintro ⟨a388_0, a388_1, a388_2, a388_3⟩ h388
          replace h388 : P9 a388_3 := h388
          refine pc_ite ?_ ?_
          · exact pc_some (show P9 _ from h388)
          · refine pc_ite ?_ ?_
            · exact pc_some (show P9 _ from h388)
            · exact pc_some (show P9 _ from h388)
        · exact pc_some (show P9 _ from h386)
    · exact pc_some (show P9 _ from h382)
  · refine pc_bind (P := (fun r => P9 r.2)) (q_f_X12_bad (P9_j hM (by decide))) ?_
    rintro ⟨a389_0, a389_1⟩ h389
    replace h389 : P9 a389_1 := h389
    refine pc_ite ?_ ?_
    · refine pc_ite ?_ ?_
      · refine pc_bind (P := (fun r => P9 r.2)) (q_f_X12_bad h389) ?_
        rintro ⟨a390_0, a390_1⟩ h390
        replace h390 : P9 a390_1 := h390
        refine pc_ite ?_ ?_
        · refine pc_bind (P := P9) (q_f_X12_tries h390) ?_
          intro a391 h391
          refine pc_bind (P := (fun r => P9 r.2.2.2)) (pc_wh (q_L_X12_letter_70) (show P9 _ from h391)) ?_
          rintro ⟨a392_0, a392_1, a392_2, a392_3⟩ h392
          replace h392 : P9 a392_3 := h392
          refine pc_ite ?_ ?_
          · exact pc_some (show P9 _ from h392)
          · refine pc_ite ?_ ?_
            · exact pc_some (show P9 _ from h392)
            · exact pc_some (show P9 _ from h392)
        · exact pc_some (show P9 _ from h390)
      · refine pc_bind (P := (fun r => P9 r.2)) (q_f_X12_bad h389) ?_
        rintro ⟨a393_0, a393_1⟩ h393
        replace h393 : P9 a393_1 := h393
        refine pc_ite ?_ ?_
        · refine pc_bind (P := P9) (q_f_X12_tries h393) ?_
          intro a394 h394
          refine pc_bind (P := (fun r => P9 r.2.2.2)) (pc_wh (q_L_X12_letter_70) (show P9 _ from h394)) ?_
          rintro ⟨a395_0, a395_1, a395_2, a395_3⟩ h395
          replace h395 : P9 a395_3 := h395
          refine pc_ite ?_ ?_
          · exact pc_some (show P9 _ from h395)
          · refine pc_ite ?_ ?_
            · exact pc_some (show P9 _ from h395)
            · exact pc_some (show P9 _ from h395)
        · exact pc_some (show P9 _ from h393)
    · exact pc_some (show P9 _ from h389)
theorem q_L_X12_often_63 {x1 x2 : Int32} : ∀ s, (fun r => P9 r.2.2) s → pc (sQ (fun r => P9 r.2.2) (fun r => P9 r.2)) (L_X12_often_63 x1 x2 s) := by
  rintro ⟨b0, b1, b2⟩ hM
  replace hM : P9 b2 := hM
  unfold L_X12_often_63
  refine pc_ite ?_ ?_
  · exact pc_some (show P9 _ from hM)
  · refine pc_bind (P := (fun r => P9 r.2)) (q_f_X12_opensIn (by decide) hM) ?_
    rintro ⟨a396_0, a396_1⟩ h396
    replace h396 : P9 a396_1 := h396
    refine pc_ite ?_ ?_
    · refine pc_bind (P := P9) (q_f_X12_hourEnds (by decide) h396) ?_
      intro a397 h397
      exact pc_some (show P9 _ from h397)
    · refine pc_bind (P := P9) (q_f_X12_hourEnds (by decide) h396) ?_
      intro a398 h398
      exact pc_some (show P9 _ from h398)
theorem q_f_X12_often {x1 x2 : Int32} {M : Mem} (hM : P9 M) : pc (fun r => P9 r.2) (f_X12_often x1 x2 M) := by
  unfold f_X12_often
  refine pc_ite ?_ ?_
  · refine pc_bind (P := (fun r => P9 r.2)) (q_f_X12_bad (P9_j hM (by decide))) ?_
    rintro ⟨a399_0, a399_1⟩ h399
    replace h399 : P9 a399_1 := h399
    refine pc_ite ?_ ?_
    · refine pc_ite ?_ ?_
      · refine pc_bind (P := (fun r => P9 r.2)) (q_f_X12_bad h399) ?_
        rintro ⟨a400_0, a400_1⟩ h400
        replace h400 : P9 a400_1 := h400
        refine pc_ite ?_ ?_
        · refine pc_bind (P := P9) (q_f_X12_tries h400) ?_
          intro a401 h401
          refine pc_bind (P := (fun r => P9 r.2)) (pc_wh (q_L_X12_often_63) (show P9 _ from h401)) ?_
          rintro ⟨a402_0, a402_1⟩ h402
          replace h402 : P9 a402_1 := h402
          exact pc_some (show P9 _ from h402)
        · exact pc_some (show P9 _ from h400)
      · refine pc_bind (P := (fun r => P9 r.2)) (q_f_X12_bad h399) ?_
        rintro ⟨a403_0, a403_1⟩ h403
        replace h403 : P9 a403_1 := h403
        refine pc_ite ?_ ?_
        · refine pc_bind (P := P9) (q_f_X12_tries h403) ?_
          intro a404 h404
          refine pc_bind (P := (fun r => P9 r.2)) (pc_wh (q_L_X12_often_63) (show P9 _ from h404)) ?_
          rintro ⟨a405_0, a405_1⟩ h405
          replace h405 : P9 a405_1 := h405
          exact pc_some (show P9 _ from h405)
        · exact pc_some (show P9 _ from h403)
    · exact pc_some (show P9 _ from h399)
  · refine pc_bind (P := (fun r => P9 r.2)) (q_f_X12_bad (P9_j hM (by decide))) ?_
    rintro ⟨a406_0, a406_1⟩ h406
    replace h406 : P9 a406_1 := h406
    refine pc_ite ?_ ?_
    · refine pc_ite ?_ ?_
      · refine pc_bind (P := (fun r => P9 r.2)) (q_f_X12_bad h406) ?_
        rintro ⟨a407_0, a407_1⟩ h407
        replace h407 : P9 a407_1 := h407
        refine pc_ite ?_ ?_
        · refine pc_bind (P := P9) (q_f_X12_tries h407) ?_
          intro a408 h408
          refine pc_bind (P := (fun r => P9 r.2)) (pc_wh (q_L_X12_often_63) (show P9 _ from h408)) ?_
          rintro ⟨a409_0, a409_1⟩ h409
          replace h409 : P9 a409_1 := h409
          exact pc_some (show P9 _ from h409)
        · exact pc_some (show P9 _ from h407)
      · refine pc_bind (P := (fun r => P9 r.2)) (q_f_X12_bad h406) ?_
        rintro ⟨a410_0, a410_1⟩ h410
        replace h410 : P9 a410_1 := h410
        refine pc_ite ?_ ?_
        · refine pc_bind (P := P9) (q_f_X12_tries h410) ?_
          intro a411 h411
          refine pc_bind (P := (fun r => P9 r.2)) (pc_wh (q_L_X12_often_63) (show P9 _ from h411)) ?_
          rintro ⟨a412_0, a412_1⟩ h412
          replace h412 : P9 a412_1 := h412
          exact pc_some (show P9 _ from h412)
        · exact pc_some (show P9 _ from h410)
    · exact pc_some (show P9 _ from h406)
theorem q_L_X12_opens_35 {x1 : Int32} : ∀ s, (fun r => P9 r.2) s → pc (sQ (fun r => P9 r.2) (sQ (fun r => P9 r.2) P9)) (L_X12_opens_35 x1 s) := by
  rintro ⟨b0, b1⟩ hM
  replace hM : P9 b1 := hM
  unfold L_X12_opens_35
  refine pc_ite ?_ ?_
  · exact pc_some (show P9 _ from hM)
  · refine pc_bind (P := (fun r => P9 r.2)) (q_f_X12_opensIn (by decide) hM) ?_
    rintro ⟨a413_0, a413_1⟩ h413
    replace h413 : P9 a413_1 := h413
    refine pc_ite ?_ ?_
    · refine pc_bind (P := P9) (q_f_X12_hourEnds (by decide) h413) ?_
      intro a414 h414
      exact pc_some (show P9 _ from h414)
    · exact pc_some (show P9 _ from h413)
theorem q_f_X12_opens {x1 : Int32} {M : Mem} (hM : P9 M) : pc (fun r => P9 r.2) (f_X12_opens x1 M) := by
  unfold f_X12_opens
  refine pc_ite ?_ ?_
  · refine pc_bind (P := (fun r => P9 r.2)) (q_f_X12_bad (P9_j hM (by decide))) ?_
    rintro ⟨a415_0, a415_1⟩ h415
    replace h415 : P9 a415_1 := h415
    refine pc_ite ?_ ?_
    · refine pc_bind (P := P9) (q_f_X12_tries h415) ?_
      intro a416 h416
      refine pc_bind (P := (sQ (fun r => P9 r.2) P9)) (pc_wh (q_L_X12_opens_35) (show P9 _ from h416)) ?_
      intro ee he
      rcases ee with ee | ee
      · obtain ⟨a417_0, a417_1⟩ := ee
        have h417 : P9 a417_1 := he
        dsimp only
        exact pc_some (show P9 _ from h417)
      · have h418 : P9 ee := he
        dsimp only
        exact pc_some (show P9 _ from h418)
    · exact pc_some (show P9 _ from h415)
  · refine pc_bind (P := (fun r => P9 r.2)) (q_f_X12_bad (P9_j hM (by decide))) ?_
    rintro ⟨a419_0, a419_1⟩ h419
    replace h419 : P9 a419_1 := h419
    refine pc_ite ?_ ?_
    · refine pc_bind (P := P9) (q_f_X12_tries h419) ?_
      intro a420 h420
      refine pc_bind (P := (sQ (fun r => P9 r.2) P9)) (pc_wh (q_L_X12_opens_35) (show P9 _ from h420)) ?_
      intro ee he
      rcases ee with ee | ee
      · obtain ⟨a421_0, a421_1⟩ := ee
        have h421 : P9 a421_1 := he
        dsimp only
        exact pc_some (show P9 _ from h421)
      · have h422 : P9 ee := he
        dsimp only
        exact pc_some (show P9 _ from h422)
    · exact pc_some (show P9 _ from h419)
theorem q_L_X12_peak_41  : ∀ s, (fun r => P9 r.2.2.2) s → pc (sQ (fun r => P9 r.2.2.2) (fun r => P9 r.2.2)) (L_X12_peak_41 s) := by
  rintro ⟨b0, b1, b2, b3⟩ hM
  replace hM : P9 b3 := hM
  unfold L_X12_peak_41
  refine pc_ite ?_ ?_
  · exact pc_some (show P9 _ from hM)
  · refine pc_bind (P := (fun r => P9 r.2)) (q_f_X12_openBits (by decide) hM) ?_
    rintro ⟨a423_0, a423_1⟩ h423
    replace h423 : P9 a423_1 := h423
    refine pc_bind (P := fun _ => True) pc_T ?_
    intro _ _
    refine pc_ite ?_ ?_
    · refine pc_bind (P := P9) (q_f_X12_hourEnds (by decide) h423) ?_
      intro a424 h424
      exact pc_some (show P9 _ from h424)
    · refine pc_bind (P := P9) (q_f_X12_hourEnds (by decide) h423) ?_
      intro a425 h425
      exact pc_some (show P9 _ from h425)
theorem q_f_X12_peak {x1 : Int32} {M : Mem} (hM : P9 M) : pc (fun r => P9 r.2) (f_X12_peak x1 M) := by
  unfold f_X12_peak
  refine pc_ite ?_ ?_
  · refine pc_bind (P := (fun r => P9 r.2)) (q_f_X12_bad (P9_j hM (by decide))) ?_
    rintro ⟨a426_0, a426_1⟩ h426
    replace h426 : P9 a426_1 := h426
    refine pc_ite ?_ ?_
    · refine pc_bind (P := P9) (q_f_X12_tries h426) ?_
      intro a427 h427
      refine pc_bind (P := (fun r => P9 r.2.2)) (pc_wh (q_L_X12_peak_41) (show P9 _ from h427)) ?_
      rintro ⟨a428_0, a428_1, a428_2⟩ h428
      replace h428 : P9 a428_2 := h428
      refine pc_ite ?_ ?_
      · exact pc_some (show P9 _ from h428)
      · exact pc_some (show P9 _ from h428)
    · exact pc_some (show P9 _ from h426)
  · refine pc_bind (P := (fun r => P9 r.2)) (q_f_X12_bad (P9_j hM (by decide))) ?_
    rintro ⟨a429_0, a429_1⟩ h429
    replace h429 : P9 a429_1 := h429
    refine pc_ite ?_ ?_
    · refine pc_bind (P := P9) (q_f_X12_tries h429) ?_
      intro a430 h430
      refine pc_bind (P := (fun r => P9 r.2.2)) (pc_wh (q_L_X12_peak_41) (show P9 _ from h430)) ?_
      rintro ⟨a431_0, a431_1, a431_2⟩ h431
      replace h431 : P9 a431_2 := h431
      refine pc_ite ?_ ?_
      · exact pc_some (show P9 _ from h431)
      · exact pc_some (show P9 _ from h431)
    · exact pc_some (show P9 _ from h429)
theorem q_L_X12_river_42  : ∀ s, P9 s → pc (sQ P9 P9) (L_X12_river_42 s) := by
  intro M0 hM
  unfold L_X12_river_42
  refine pc_ite ?_ ?_
  · refine pc_ite ?_ ?_
    · exact pc_some (show P9 _ from hM)
    · refine pc_bind (P := P9) (q_f_X12_clause hM) ?_
      intro a432 h432
      refine pc_bind (P := P9) (q_f_X12_blanks h432) ?_
      intro a433 h433
      exact pc_some (show P9 _ from h433)
  · exact pc_some (show P9 _ from hM)
theorem q_f_X12_river {x1 : Int32} {M : Mem} (hM : P9 M) : pc (fun r => P9 r.2) (f_X12_river x1 M) := by
  unfold f_X12_river
  refine pc_ite ?_ ?_
  · refine pc_bind (P := (fun r => P9 r.2)) (q_f_X12_bad (P9_j hM (by decide))) ?_
    rintro ⟨a434_0, a434_1⟩ h434
    replace h434 : P9 a434_1 := h434
    refine pc_ite ?_ ?_
    · refine pc_bind (P := P9) (q_f_X12_starts h434) ?_
      intro a435 h435
      refine pc_bind (P := P9) (q_f_X12_tellsNothing h435) ?_
      intro a436 h436
      refine pc_bind (P := P9) (pc_wh (q_L_X12_river_42) (show P9 _ from h436)) ?_
      intro a437 h437
      refine pc_ite ?_ ?_
      · refine pc_bind (P := P9) (q_f_X12_beginsAnew (P9_j h437 (by decide))) ?_
        intro a438 h438
        exact pc_some (show P9 _ from h438)
      · exact pc_some (show P9 _ from (P9_j h437 (by decide)))
    · exact pc_some (show P9 _ from h434)
  · refine pc_bind (P := (fun r => P9 r.2)) (q_f_X12_bad (P9_j hM (by decide))) ?_
    rintro ⟨a439_0, a439_1⟩ h439
    replace h439 : P9 a439_1 := h439
    refine pc_ite ?_ ?_
    · refine pc_bind (P := P9) (q_f_X12_starts h439) ?_
      intro a440 h440
      refine pc_bind (P := P9) (q_f_X12_tellsNothing h440) ?_
      intro a441 h441
      refine pc_bind (P := P9) (pc_wh (q_L_X12_river_42) (show P9 _ from h441)) ?_
      intro a442 h442
      refine pc_ite ?_ ?_
      · refine pc_bind (P := P9) (q_f_X12_beginsAnew (P9_j h442 (by decide))) ?_
        intro a443 h443
        exact pc_some (show P9 _ from h443)
      · exact pc_some (show P9 _ from (P9_j h442 (by decide)))
    · exact pc_some (show P9 _ from h439)
theorem q_f_X12_street {x1 x2 : Int32} {M : Mem} (hM : P9 M) : pc (fun r => P9 r.2) (f_X12_street x1 x2 M) := by
  unfold f_X12_street
  refine pc_ite ?_ ?_
  · refine pc_bind (P := (fun r => P9 r.2)) (q_f_X12_bad (P9_j hM (by decide))) ?_
    rintro ⟨a444_0, a444_1⟩ h444
    replace h444 : P9 a444_1 := h444
    refine pc_ite ?_ ?_
    · refine pc_ite ?_ ?_
      · refine pc_bind (P := (fun r => P9 r.2)) (q_f_X12_bad h444) ?_
        rintro ⟨a445_0, a445_1⟩ h445
        replace h445 : P9 a445_1 := h445
        refine pc_ite ?_ ?_
        · refine pc_ite ?_ ?_
          · refine pc_bind (P := (fun r => P9 r.2)) (q_f_X12_openBits (by decide) h445) ?_
            rintro ⟨a446_0, a446_1⟩ h446
            replace h446 : P9 a446_1 := h446
            refine pc_bind (P := fun _ => True) pc_T ?_
            intro _ _
            refine pc_ite ?_ ?_
            · exact pc_some (show P9 _ from h446)
            · exact pc_some (show P9 _ from h446)
          · refine pc_ite ?_ ?_
            · refine pc_ite ?_ ?_
              · exact pc_some (show P9 _ from h445)
              · exact pc_none
            · exact pc_none
        · exact pc_some (show P9 _ from h445)
      · refine pc_bind (P := (fun r => P9 r.2)) (q_f_X12_bad h444) ?_
        rintro ⟨a447_0, a447_1⟩ h447
        replace h447 : P9 a447_1 := h447
        refine pc_ite ?_ ?_
        · refine pc_ite ?_ ?_
          · refine pc_bind (P := (fun r => P9 r.2)) (q_f_X12_openBits (by decide) h447) ?_
            rintro ⟨a448_0, a448_1⟩ h448
            replace h448 : P9 a448_1 := h448
            refine pc_bind (P := fun _ => True) pc_T ?_
            intro _ _
            refine pc_ite ?_ ?_
            · exact pc_some (show P9 _ from h448)
            · exact pc_some (show P9 _ from h448)
          · refine pc_ite ?_ ?_
            · refine pc_ite ?_ ?_
              · exact pc_some (show P9 _ from h447)
              · exact pc_none
            · exact pc_none
        · exact pc_some (show P9 _ from h447)
    · exact pc_some (show P9 _ from h444)
  · refine pc_bind (P := (fun r => P9 r.2)) (q_f_X12_bad (P9_j hM (by decide))) ?_
    rintro ⟨a449_0, a449_1⟩ h449
    replace h449 : P9 a449_1 := h449
    refine pc_ite ?_ ?_
    · refine pc_ite ?_ ?_
      · refine pc_bind (P := (fun r => P9 r.2)) (q_f_X12_bad h449) ?_
        rintro ⟨a450_0, a450_1⟩ h450
        replace h450 : P9 a450_1 := h450
        refine pc_ite ?_ ?_
        · refine pc_ite ?_ ?_
          · refine pc_bind (P := (fun r => P9 r.2)) (q_f_X12_openBits (by decide) h450) ?_
            rintro ⟨a451_0, a451_1⟩ h451
            replace h451 : P9 a451_1 := h451
            refine pc_bind (P := fun _ => True) pc_T ?_
            intro _ _
            refine pc_ite ?_ ?_
            · exact pc_some (show P9 _ from h451)
            · exact pc_some (show P9 _ from h451)
          · refine pc_ite ?_ ?_
            · refine pc_ite ?_ ?_
              · exact pc_some (show P9 _ from h450)
              · exact pc_none
            · exact pc_none
        · exact pc_some (show P9 _ from h450)
      · refine pc_bind (P := (fun r => P9 r.2)) (q_f_X12_bad h449) ?_
        rintro ⟨a452_0, a452_1⟩ h452
        replace h452 : P9 a452_1 := h452
        refine pc_ite ?_ ?_
        · refine pc_ite ?_ ?_
          · refine pc_bind (P := (fun r => P9 r.2)) (q_f_X12_openBits (by decide) h452) ?_
            rintro ⟨a453_0, a453_1⟩ h453
            replace h453 : P9 a453_1 := h453
            refine pc_bind (P := fun _ => True) pc_T ?_
            intro _ _
            refine pc_ite ?_ ?_
            · exact pc_some (show P9 _ from h453)
            · exact pc_some (show P9 _ from h453)
          · refine pc_ite ?_ ?_
            · refine pc_ite ?_ ?_
              · exact pc_some (show P9 _ from h452)
              · exact pc_none
            · exact pc_none
        · exact pc_some (show P9 _ from h452)
    · exact pc_some (show P9 _ from h449)
theorem q_f_X12_told {x1 : Int32} {M : Mem} (hM : P9 M) : pc (fun r => P9 r.2) (f_X12_told x1 M) := by
  unfold f_X12_told
  refine pc_ite ?_ ?_
  · refine pc_bind (P := (fun r => P9 r.2)) (q_f_X12_bad (P9_j hM (by decide))) ?_
    rintro ⟨a454_0, a454_1⟩ h454
    replace h454 : P9 a454_1 := h454
    refine pc_ite ?_ ?_
    · refine pc_ite ?_ ?_
      · refine pc_ite ?_ ?_
        · exact pc_some (show P9 _ from h454)
        · exact pc_none
      · refine pc_ite ?_ ?_
        · refine pc_ite ?_ ?_
          · exact pc_some (show P9 _ from h454)
          · exact pc_none
        · refine pc_ite ?_ ?_
          · refine pc_ite ?_ ?_
            · exact pc_some (show P9 _ from h454)
            · exact pc_none
          · refine pc_ite ?_ ?_
            · exact pc_some (show P9 _ from h454)
            · refine pc_ite ?_ ?_
              · refine pc_bind (P := (fun r => P9 r.2)) (q_f_X12_openBits (by decide) h454) ?_
                rintro ⟨a455_0, a455_1⟩ h455
                replace h455 : P9 a455_1 := h455
                refine pc_bind (P := fun _ => True) pc_T ?_
                intro _ _
                exact pc_some (show P9 _ from h455)
              · refine pc_ite ?_ ?_
                · refine pc_bind (P := fun _ => True) pc_T ?_
                  intro _ _
                  exact pc_some (show P9 _ from h454)
                · refine pc_ite ?_ ?_
                  · refine pc_bind (P := fun _ => True) pc_T ?_
                    intro _ _
                    exact pc_some (show P9 _ from h454)
                  · refine pc_ite ?_ ?_
                    · refine pc_bind (P := fun _ => True) pc_T ?_
                      intro _ _
                      exact pc_some (show P9 _ from h454)
                    · refine pc_ite ?_ ?_
                      · exact pc_some (show P9 _ from h454)
                      · exact pc_some (show P9 _ from h454)
    · exact pc_some (show P9 _ from h454)
  · refine pc_bind (P := (fun r => P9 r.2)) (q_f_X12_bad (P9_j hM (by decide))) ?_
    rintro ⟨a456_0, a456_1⟩ h456
    replace h456 : P9 a456_1 := h456
    refine pc_ite ?_ ?_
    · refine pc_ite ?_ ?_
      · refine pc_ite ?_ ?_
        · exact pc_some (show P9 _ from h456)
        · exact pc_none
      · refine pc_ite ?_ ?_
        · refine pc_ite ?_ ?_
          · exact pc_some (show P9 _ from h456)
          · exact pc_none
        · refine pc_ite ?_ ?_
          · refine pc_ite ?_ ?_
            · exact pc_some (show P9 _ from h456)
            · exact pc_none
          · refine pc_ite ?_ ?_
            · exact pc_some (show P9 _ from h456)
            · refine pc_ite ?_ ?_
              · refine pc_bind (P := (fun r => P9 r.2)) (q_f_X12_openBits (by decide) h456) ?_
                rintro ⟨a457_0, a457_1⟩ h457
                replace h457 : P9 a457_1 := h457
                refine pc_bind (P := fun _ => True) pc_T ?_
                intro _ _
                exact pc_some (show P9 _ from h457)
              · refine pc_ite ?_ ?_
                · refine pc_bind (P := fun _ => True) pc_T ?_
                  intro _ _
                  exact pc_some (show P9 _ from h456)
                · refine pc_ite ?_ ?_
                  · refine pc_bind (P := fun _ => True) pc_T ?_
                    intro _ _
                    exact pc_some (show P9 _ from h456)
                  · refine pc_ite ?_ ?_
                    · refine pc_bind (P := fun _ => True) pc_T ?_
                      intro _ _
                      exact pc_some (show P9 _ from h456)
                    · refine pc_ite ?_ ?_
                      · exact pc_some (show P9 _ from h456)
                      · exact pc_some (show P9 _ from h456)
    · exact pc_some (show P9 _ from h456)
theorem q_L_X12_trips_30  : ∀ s, (fun r => P9 r.2) s → pc (sQ (fun r => P9 r.2) P9) (L_X12_trips_30 s) := by
  rintro ⟨b0, b1⟩ hM
  replace hM : P9 b1 := hM
  unfold L_X12_trips_30
  refine pc_ite ?_ ?_
  · exact pc_some (show P9 _ from hM)
  · refine pc_ite ?_ ?_
    · exact pc_some (show P9 _ from (P9_c hM (by decide)))
    · exact pc_none
theorem q_L_X12_trips_51  : ∀ s, (fun r => P9 r.2) s → pc (sQ (fun r => P9 r.2) (sQ (fun r => P9 r.2) P9)) (L_X12_trips_51 s) := by
  rintro ⟨b0, b1⟩ hM
  replace hM : P9 b1 := hM
  unfold L_X12_trips_51
  refine pc_ite ?_ ?_
  · exact pc_some (show P9 _ from hM)
  · refine pc_bind (P := P9) (q_f_X12_hourEnds (by decide) hM) ?_
    intro a458 h458
    refine pc_ite ?_ ?_
    · exact pc_some (show P9 _ from h458)
    · refine pc_ite ?_ ?_
      · refine pc_ite ?_ ?_
        · exact pc_some (show P9 _ from h458)
        · refine pc_ite ?_ ?_
          · exact pc_some (show P9 _ from (P9_c h458 (by decide)))
          · exact pc_none
      · exact pc_some (show P9 _ from h458)
theorem q_f_X12_trips {x1 x2 : Int32} {M : Mem} (hM : P9 M) : pc (fun r => P9 r.2) (f_X12_trips x1 x2 M) := by
  unfold f_X12_trips
  refine pc_bind (P := P9) (q_f_X12_tries hM) ?_
  intro a459 h459
  refine pc_bind (P := P9) (pc_wh (q_L_X12_trips_30) (show P9 _ from (P9_c (P9_c h459 (by decide)) (by decide)))) ?_
  intro a460 h460
  refine pc_bind (P := (sQ (fun r => P9 r.2) P9)) (pc_wh (q_L_X12_trips_51) (show P9 _ from h460)) ?_
  intro ee he
  rcases ee with ee | ee
  · obtain ⟨a461_0, a461_1⟩ := ee
    have h461 : P9 a461_1 := he
    dsimp only
    exact pc_some (show P9 _ from h461)
  · have h462 : P9 ee := he
    dsimp only
    exact pc_some (show P9 _ from h462)
theorem q_L_X12_walks_12  : ∀ s, (fun r => P9 r.2) s → pc (sQ (fun r => P9 r.2) P9) (L_X12_walks_12 s) := by
  rintro ⟨b0, b1⟩ hM
  replace hM : P9 b1 := hM
  unfold L_X12_walks_12
  refine pc_ite ?_ ?_
  · exact pc_some (show P9 _ from hM)
  · refine pc_ite ?_ ?_
    · exact pc_some (show P9 _ from (P9_c hM (by decide)))
    · exact pc_none
theorem q_L_X12_walks_135 {x4 x5 : Int32} : ∀ s, (fun r => P9 r.2) s → pc (sQ (fun r => P9 r.2) P9) (L_X12_walks_135 x4 x5 s) := by
  rintro ⟨b0, b1⟩ hM
  replace hM : P9 b1 := hM
  unfold L_X12_walks_135
  refine pc_ite ?_ ?_
  · exact pc_some (show P9 _ from hM)
  · refine pc_ite ?_ ?_
    · refine pc_ite ?_ ?_
      · refine pc_ite ?_ ?_
        · exact pc_some (show P9 _ from (P9_c hM (by decide)))
        · exact pc_none
      · refine pc_ite ?_ ?_
        · exact pc_some (show P9 _ from (P9_c hM (by decide)))
        · exact pc_none
    · exact pc_none
theorem q_L_X12_walks_78 {x2 x3 x4 : Int32} : ∀ s, (fun r => P9 r.2) s → pc (sQ (fun r => P9 r.2) P9) (L_X12_walks_78 x2 x3 x4 s) := by
  rintro ⟨b0, b1⟩ hM
  replace hM : P9 b1 := hM
  unfold L_X12_walks_78
  refine pc_ite ?_ ?_
  · exact pc_some (show P9 _ from hM)
  · refine pc_ite ?_ ?_
    · refine pc_ite ?_ ?_
      · refine pc_ite ?_ ?_
        · refine pc_ite ?_ ?_
          · refine pc_bind (P := P9) (pc_wh (q_L_X12_walks_135) (show P9 _ from hM)) ?_
            intro a463 h463
            exact pc_some (show P9 _ from h463)
          · exact pc_some (show P9 _ from hM)
        · exact pc_some (show P9 _ from hM)
      · exact pc_some (show P9 _ from hM)
    · exact pc_none
theorem q_L_X12_walks_64 {x2 x3 : Int32} : ∀ s, (fun r => P9 r.2) s → pc (sQ (fun r => P9 r.2) P9) (L_X12_walks_64 x2 x3 s) := by
  rintro ⟨b0, b1⟩ hM
  replace hM : P9 b1 := hM
  unfold L_X12_walks_64
  refine pc_ite ?_ ?_
  · exact pc_some (show P9 _ from hM)
  · refine pc_bind (P := P9) (pc_wh (q_L_X12_walks_78) (show P9 _ from hM)) ?_
    intro a464 h464
    exact pc_some (show P9 _ from h464)
theorem q_f_X12_walks {x1 x2 : Int32} {M : Mem} (hM : P9 M) : pc P9 (f_X12_walks x1 x2 M) := by
  unfold f_X12_walks
  refine pc_bind (P := (fun r => P9 r.2)) (q_f_X12_openBits (by decide) hM) ?_
  rintro ⟨a465_0, a465_1⟩ h465
  replace h465 : P9 a465_1 := h465
  refine pc_bind (P := P9) (pc_wh (q_L_X12_walks_12) (show P9 _ from h465)) ?_
  intro a466 h466
  refine pc_ite ?_ ?_
  · refine pc_ite ?_ ?_
    · refine pc_ite ?_ ?_
      · refine pc_bind (P := P9) (pc_wh (q_L_X12_walks_64) (show P9 _ from (P9_c h466 (by decide)))) ?_
        intro a467 h467
        exact pc_some (show P9 _ from h467)
      · exact pc_some (show P9 _ from h466)
    · exact pc_none
  · exact pc_some (show P9 _ from h466)
theorem q_f_X12_wintersBy {x1 x2 x3 : Int32} {M : Mem} (hM : P9 M) : pc P9 (f_X12_wintersBy x1 x2 x3 M) := by
  unfold f_X12_wintersBy
  refine pc_bind (P := P9) (q_f_X12_tries hM) ?_
  intro a468 h468
  refine pc_bind (P := fun _ => True) pc_T ?_
  intro _ _
  exact pc_some (show P9 _ from P9_0)
theorem q_L_RX12_sum_4 {r_X12_product : (Mem → Option (Mem))} (hr : ∀ M, P9 M → pc P9 (r_X12_product M)) : ∀ s, P9 s → pc (sQ P9 (sQ P9 P9)) (L_RX12_sum_4 r_X12_product s) := by
  intro M0 hM
  unfold L_RX12_sum_4
  refine pc_ite ?_ ?_
  · refine pc_bind (P := (fun r => P9 r.2)) (q_f_X12_takesSign hM) ?_
    rintro ⟨a469_0, a469_1⟩ h469
    replace h469 : P9 a469_1 := h469
    refine pc_ite ?_ ?_
    · refine pc_bind (P := (fun r => P9 r.2)) (q_f_X12_takesSign h469) ?_
      rintro ⟨a470_0, a470_1⟩ h470
      replace h470 : P9 a470_1 := h470
      refine pc_ite ?_ ?_
      · exact pc_some (show P9 _ from h470)
      · refine pc_bind (P := P9) (hr _ h470) ?_
        intro a471 h471
        refine pc_bind (P := P9) (q_f_X12_notes h471) ?_
        intro a472 h472
        exact pc_some (show P9 _ from h472)
    · refine pc_bind (P := P9) (hr _ h469) ?_
      intro a473 h473
      refine pc_bind (P := P9) (q_f_X12_notes h473) ?_
      intro a474 h474
      exact pc_some (show P9 _ from h474)
  · exact pc_some (show P9 _ from hM)
theorem q_f_RX12_sum {r_X12_sum : (Mem → Option (Mem))} {r_X12_product : (Mem → Option (Mem))} {r_X12_one : (Mem → Option (Mem))} {M : Mem} (hr : ∀ M, P9 M → pc P9 (r_X12_product M)) (hM : P9 M) : pc P9 (f_RX12_sum r_X12_sum r_X12_product r_X12_one M) := by
  unfold f_RX12_sum
  refine pc_bind (P := P9) (hr _ hM) ?_
  intro a475 h475
  refine pc_bind (P := (sQ P9 P9)) (pc_wh (q_L_RX12_sum_4 hr) (show P9 _ from h475)) ?_
  intro ee he
  rcases ee with ee | ee
  · have h476 : P9 ee := he
    dsimp only
    exact pc_some (show P9 _ from h476)
  · have h477 : P9 ee := he
    dsimp only
    exact pc_some (show P9 _ from h477)
theorem q_L_RX12_product_4 {r_X12_one : (Mem → Option (Mem))} (hr : ∀ M, P9 M → pc P9 (r_X12_one M)) : ∀ s, P9 s → pc (sQ P9 (sQ P9 P9)) (L_RX12_product_4 r_X12_one s) := by
  intro M0 hM
  unfold L_RX12_product_4
  refine pc_ite ?_ ?_
  · refine pc_bind (P := (fun r => P9 r.2)) (q_f_X12_takesSign hM) ?_
    rintro ⟨a478_0, a478_1⟩ h478
    replace h478 : P9 a478_1 := h478
    refine pc_ite ?_ ?_
    · refine pc_bind (P := (fun r => P9 r.2)) (q_f_X12_takesSign h478) ?_
      rintro ⟨a479_0, a479_1⟩ h479
      replace h479 : P9 a479_1 := h479
      refine pc_ite ?_ ?_
      · refine pc_bind (P := (fun r => P9 r.2)) (q_f_X12_takesSign h479) ?_
        rintro ⟨a480_0, a480_1⟩ h480
        replace h480 : P9 a480_1 := h480
        refine pc_ite ?_ ?_
        · exact pc_some (show P9 _ from h480)
        · refine pc_bind (P := P9) (hr _ h480) ?_
          intro a481 h481
          refine pc_bind (P := P9) (q_f_X12_notes h481) ?_
          intro a482 h482
          exact pc_some (show P9 _ from h482)
      · refine pc_bind (P := P9) (hr _ h479) ?_
        intro a483 h483
        refine pc_bind (P := P9) (q_f_X12_notes h483) ?_
        intro a484 h484
        exact pc_some (show P9 _ from h484)
    · refine pc_bind (P := P9) (hr _ h478) ?_
      intro a485 h485
      refine pc_bind (P := P9) (q_f_X12_notes h485) ?_
      intro a486 h486
      exact pc_some (show P9 _ from h486)
  · exact pc_some (show P9 _ from hM)
theorem q_f_RX12_product {r_X12_sum : (Mem → Option (Mem))} {r_X12_product : (Mem → Option (Mem))} {r_X12_one : (Mem → Option (Mem))} {M : Mem} (hr : ∀ M, P9 M → pc P9 (r_X12_one M)) (hM : P9 M) : pc P9 (f_RX12_product r_X12_sum r_X12_product r_X12_one M) := by
  unfold f_RX12_product
  refine pc_bind (P := P9) (hr _ hM) ?_
  intro a487 h487
  refine pc_bind (P := (sQ P9 P9)) (pc_wh (q_L_RX12_product_4 hr) (show P9 _ from h487)) ?_
  intro ee he
  rcases ee with ee | ee
  · have h488 : P9 ee := he
    dsimp only
    exact pc_some (show P9 _ from h488)
  · have h489 : P9 ee := he
    dsimp only
    exact pc_some (show P9 _ from h489)
theorem q_f_RX12_one {r_X12_sum : (Mem → Option (Mem))} {r_X12_product : (Mem → Option (Mem))} {r_X12_one : (Mem → Option (Mem))} {M : Mem} (hr : ∀ M, P9 M → pc P9 (r_X12_sum M)) (hM : P9 M) : pc P9 (f_RX12_one r_X12_sum r_X12_product r_X12_one M) := by
  unfold f_RX12_one
  refine pc_ite ?_ ?_
  · refine pc_bind (P := P9) (q_f_X12_blanks hM) ?_
    intro a490 h490
    refine pc_bind (P := (fun r => P9 r.2)) (q_f_X12_isWord h490) ?_
    rintro ⟨a491_0, a491_1⟩ h491
    replace h491 : P9 a491_1 := h491
    refine pc_ite ?_ ?_
    · refine pc_bind (P := (fun r => P9 r.2)) (q_f_X12_isWord h491) ?_
      rintro ⟨a492_0, a492_1⟩ h492
      replace h492 : P9 a492_1 := h492
      refine pc_ite ?_ ?_
      · refine pc_bind (P := fun _ => True) pc_T ?_
        intro _ _
        refine pc_ite ?_ ?_
        · refine pc_ite ?_ ?_
          · exact pc_some (show P9 _ from (P9_open h492))
          · refine pc_bind (P := P9) (hr _ (P9_j (P9_open h492) (by decide))) ?_
            intro a493 h493
            refine pc_bind (P := P9) (q_f_X12_sign h493) ?_
            intro a494 h494
            exact pc_some (show P9 _ from (P9_j h494 (by decide)))
        · refine pc_bind (P := (fun r => P9 r.2)) (q_f_X12_knownHere h492) ?_
          rintro ⟨a495_0, a495_1⟩ h495
          replace h495 : P9 a495_1 := h495
          refine pc_ite ?_ ?_
          · refine pc_bind (P := (fun r => P9 r.2)) (q_f_X12_number h495) ?_
            rintro ⟨a496_0, a496_1⟩ h496
            replace h496 : P9 a496_1 := h496
            refine pc_bind (P := P9) (q_f_X12_notes h496) ?_
            intro a497 h497
            exact pc_some (show P9 _ from h497)
          · refine pc_bind (P := P9) (q_f_X12_notes h495) ?_
            intro a498 h498
            exact pc_some (show P9 _ from h498)
      · refine pc_ite ?_ ?_
        · exact pc_some (show P9 _ from (P9_open h492))
        · refine pc_bind (P := P9) (q_f_X12_skipWord (P9_open h492)) ?_
          intro a499 h499
          refine pc_bind (P := P9) (q_f_X12_sign h499) ?_
          intro a500 h500
          refine pc_bind (P := P9) (hr _ h500) ?_
          intro a501 h501
          refine pc_bind (P := P9) (q_f_X12_sign h501) ?_
          intro a502 h502
          refine pc_bind (P := P9) (hr _ h502) ?_
          intro a503 h503
          refine pc_bind (P := P9) (q_f_X12_sign h503) ?_
          intro a504 h504
          refine pc_bind (P := P9) (q_f_X12_notes h504) ?_
          intro a505 h505
          exact pc_some (show P9 _ from (P9_j h505 (by decide)))
    · refine pc_ite ?_ ?_
      · exact pc_some (show P9 _ from (P9_open h491))
      · refine pc_bind (P := P9) (q_f_X12_skipWord (P9_open h491)) ?_
        intro a506 h506
        refine pc_bind (P := P9) (q_f_X12_sign h506) ?_
        intro a507 h507
        refine pc_bind (P := P9) (hr _ h507) ?_
        intro a508 h508
        refine pc_bind (P := P9) (q_f_X12_sign h508) ?_
        intro a509 h509
        refine pc_bind (P := P9) (hr _ h509) ?_
        intro a510 h510
        refine pc_bind (P := P9) (q_f_X12_sign h510) ?_
        intro a511 h511
        refine pc_bind (P := P9) (q_f_X12_notes h511) ?_
        intro a512 h512
        exact pc_some (show P9 _ from (P9_j h512 (by decide)))
  · exact pc_some (show P9 _ from hM)
theorem q_rec_sum : ∀ n, (∀ M, P9 M → pc P9 ((rec_sum n).1 M)) ∧ (∀ M, P9 M → pc P9 ((rec_sum n).2.1 M)) ∧ (∀ M, P9 M → pc P9 ((rec_sum n).2.2 M))
  | 0 => ⟨fun _ _ => pc_none, fun _ _ => pc_none, fun _ _ => pc_none⟩
  | n + 1 => ⟨fun M h => show pc P9 (f_RX12_sum (rec_sum n).1 (rec_sum n).2.1 (rec_sum n).2.2 M) from q_f_RX12_sum (q_rec_sum n).2.1 h, fun M h => show pc P9 (f_RX12_product (rec_sum n).1 (rec_sum n).2.1 (rec_sum n).2.2 M) from q_f_RX12_product (q_rec_sum n).2.2 h, fun M h => show pc P9 (f_RX12_one (rec_sum n).1 (rec_sum n).2.1 (rec_sum n).2.2 M) from q_f_RX12_one (q_rec_sum n).1 h⟩
theorem q_f_X12_sum {M : Mem} (hM : P9 M) : pc P9 (f_X12_sum M) := (q_rec_sum 30).1 M hM
theorem q_f_X12_law {x1 : Int32} {M : Mem} (hM : P9 M) : pc (fun r => P9 r.2) (f_X12_law x1 M) := by
  unfold f_X12_law
  refine pc_ite ?_ ?_
  · refine pc_bind (P := (fun r => P9 r.2)) (q_f_X12_bad (P9_j hM (by decide))) ?_
    rintro ⟨a513_0, a513_1⟩ h513
    replace h513 : P9 a513_1 := h513
    refine pc_ite ?_ ?_
    · refine pc_bind (P := P9) (q_f_X12_starts h513) ?_
      intro a514 h514
      refine pc_bind (P := P9) (q_f_X12_sum (P9_j h514 (by decide))) ?_
      intro a515 h515
      refine pc_bind (P := P9) (q_f_X12_blanks h515) ?_
      intro a516 h516
      refine pc_ite ?_ ?_
      · refine pc_ite ?_ ?_
        · refine pc_bind (P := P9) (q_f_X12_lays_l (P9_j (P9_j h516 (by decide)) (by decide))) ?_
          intro a517 h517
          exact pc_some (show P9 _ from h517)
        · refine pc_ite ?_ ?_
          · refine pc_bind (P := P9) (q_f_X12_lays_l (P9_j (P9_j (P9_wrong h516) (by decide)) (by decide))) ?_
            intro a518 h518
            exact pc_some (show P9 _ from h518)
          · exact pc_some (show P9 _ from (P9_j (P9_wrong h516) (by decide)))
      · exact pc_some (show P9 _ from (P9_j h516 (by decide)))
    · exact pc_some (show P9 _ from h513)
  · refine pc_ite ?_ ?_
    · refine pc_bind (P := (fun r => P9 r.2)) (q_f_X12_bad (P9_j hM (by decide))) ?_
      rintro ⟨a519_0, a519_1⟩ h519
      replace h519 : P9 a519_1 := h519
      refine pc_ite ?_ ?_
      · refine pc_bind (P := P9) (q_f_X12_starts h519) ?_
        intro a520 h520
        refine pc_bind (P := P9) (q_f_X12_sum (P9_j h520 (by decide))) ?_
        intro a521 h521
        refine pc_bind (P := P9) (q_f_X12_blanks h521) ?_
        intro a522 h522
        refine pc_ite ?_ ?_
        · refine pc_ite ?_ ?_
          · refine pc_bind (P := P9) (q_f_X12_lays_l (P9_j (P9_j h522 (by decide)) (by decide))) ?_
            intro a523 h523
            exact pc_some (show P9 _ from h523)
          · refine pc_ite ?_ ?_
            · refine pc_bind (P := P9) (q_f_X12_lays_l (P9_j (P9_j (P9_wrong h522) (by decide)) (by decide))) ?_
              intro a524 h524
              exact pc_some (show P9 _ from h524)
            · exact pc_some (show P9 _ from (P9_j (P9_wrong h522) (by decide)))
        · exact pc_some (show P9 _ from (P9_j h522 (by decide)))
      · exact pc_some (show P9 _ from h519)
    · refine pc_bind (P := (fun r => P9 r.2)) (q_f_X12_bad (P9_j hM (by decide))) ?_
      rintro ⟨a525_0, a525_1⟩ h525
      replace h525 : P9 a525_1 := h525
      refine pc_ite ?_ ?_
      · refine pc_bind (P := P9) (q_f_X12_starts h525) ?_
        intro a526 h526
        refine pc_bind (P := P9) (q_f_X12_sum (P9_j h526 (by decide))) ?_
        intro a527 h527
        refine pc_bind (P := P9) (q_f_X12_blanks h527) ?_
        intro a528 h528
        refine pc_ite ?_ ?_
        · refine pc_ite ?_ ?_
          · refine pc_bind (P := P9) (q_f_X12_lays_l (P9_j (P9_j h528 (by decide)) (by decide))) ?_
            intro a529 h529
            exact pc_some (show P9 _ from h529)
          · refine pc_ite ?_ ?_
            · refine pc_bind (P := P9) (q_f_X12_lays_l (P9_j (P9_j (P9_wrong h528) (by decide)) (by decide))) ?_
              intro a530 h530
              exact pc_some (show P9 _ from h530)
            · exact pc_some (show P9 _ from (P9_j (P9_wrong h528) (by decide)))
        · exact pc_some (show P9 _ from (P9_j h528 (by decide)))
      · exact pc_some (show P9 _ from h525)
theorem q_f_X12_reach {x1 x2 : Int32} {M : Mem} (hM : P9 M) : pc (fun r => P9 r.2) (f_X12_reach x1 x2 M) := by
  unfold f_X12_reach
  refine pc_ite ?_ ?_
  · refine pc_bind (P := (fun r => P9 r.2)) (q_f_X12_bad (P9_j hM (by decide))) ?_
    rintro ⟨a531_0, a531_1⟩ h531
    replace h531 : P9 a531_1 := h531
    refine pc_ite ?_ ?_
    · refine pc_ite ?_ ?_
      · refine pc_bind (P := (fun r => P9 r.2)) (q_f_X12_bad h531) ?_
        rintro ⟨a532_0, a532_1⟩ h532
        replace h532 : P9 a532_1 := h532
        refine pc_ite ?_ ?_
        · refine pc_bind (P := P9) (q_f_X12_walks h532) ?_
          intro a533 h533
          refine pc_bind (P := fun _ => True) pc_T ?_
          intro _ _
          exact pc_some (show P9 _ from h533)
        · exact pc_some (show P9 _ from h532)
      · refine pc_bind (P := (fun r => P9 r.2)) (q_f_X12_bad h531) ?_
        rintro ⟨a534_0, a534_1⟩ h534
        replace h534 : P9 a534_1 := h534
        refine pc_ite ?_ ?_
        · refine pc_bind (P := P9) (q_f_X12_walks h534) ?_
          intro a535 h535
          refine pc_bind (P := fun _ => True) pc_T ?_
          intro _ _
          exact pc_some (show P9 _ from h535)
        · exact pc_some (show P9 _ from h534)
    · exact pc_some (show P9 _ from h531)
  · refine pc_bind (P := (fun r => P9 r.2)) (q_f_X12_bad (P9_j hM (by decide))) ?_
    rintro ⟨a536_0, a536_1⟩ h536
    replace h536 : P9 a536_1 := h536
    refine pc_ite ?_ ?_
    · refine pc_ite ?_ ?_
      · refine pc_bind (P := (fun r => P9 r.2)) (q_f_X12_bad h536) ?_
        rintro ⟨a537_0, a537_1⟩ h537
        replace h537 : P9 a537_1 := h537
        refine pc_ite ?_ ?_
        · refine pc_bind (P := P9) (q_f_X12_walks h537) ?_
          intro a538 h538
          refine pc_bind (P := fun _ => True) pc_T ?_
          intro _ _
          exact pc_some (show P9 _ from h538)
        · exact pc_some (show P9 _ from h537)
      · refine pc_bind (P := (fun r => P9 r.2)) (q_f_X12_bad h536) ?_
        rintro ⟨a539_0, a539_1⟩ h539
        replace h539 : P9 a539_1 := h539
        refine pc_ite ?_ ?_
        · refine pc_bind (P := P9) (q_f_X12_walks h539) ?_
          intro a540 h540
          refine pc_bind (P := fun _ => True) pc_T ?_
          intro _ _
          exact pc_some (show P9 _ from h540)
        · exact pc_some (show P9 _ from h539)
    · exact pc_some (show P9 _ from h536)
theorem q_L_X12_soonest_56 {x1 x2 : Int32} : ∀ s, (fun r => P9 r.2.2.2) s → pc (sQ (fun r => P9 r.2.2.2) (fun r => P9 r.2.2)) (L_X12_soonest_56 x1 x2 s) := by
  rintro ⟨b0, b1, b2, b3⟩ hM
  replace hM : P9 b3 := hM
  unfold L_X12_soonest_56
  refine pc_ite ?_ ?_
  · exact pc_some (show P9 _ from hM)
  · refine pc_bind (P := (fun r => P9 r.2)) (q_f_X12_trips hM) ?_
    rintro ⟨a541_0, a541_1⟩ h541
    replace h541 : P9 a541_1 := h541
    refine pc_ite ?_ ?_
    · exact pc_some (show P9 _ from h541)
    · refine pc_ite ?_ ?_
      · exact pc_some (show P9 _ from h541)
      · refine pc_ite ?_ ?_
        · exact pc_some (show P9 _ from h541)
        · exact pc_some (show P9 _ from h541)
theorem q_f_X12_soonest {x1 x2 x3 : Int32} {M : Mem} (hM : P9 M) : pc (fun r => P9 r.2) (f_X12_soonest x1 x2 x3 M) := by
  unfold f_X12_soonest
  refine pc_ite ?_ ?_
  · refine pc_bind (P := (fun r => P9 r.2)) (q_f_X12_bad (P9_j hM (by decide))) ?_
    rintro ⟨a542_0, a542_1⟩ h542
    replace h542 : P9 a542_1 := h542
    refine pc_ite ?_ ?_
    · refine pc_bind (P := (fun r => P9 r.2.2)) (pc_wh (q_L_X12_soonest_56) (show P9 _ from h542)) ?_
      rintro ⟨a543_0, a543_1, a543_2⟩ h543
      replace h543 : P9 a543_2 := h543
      refine pc_ite ?_ ?_
      · exact pc_some (show P9 _ from h543)
      · exact pc_some (show P9 _ from h543)
    · exact pc_some (show P9 _ from h542)
  · refine pc_ite ?_ ?_
    · refine pc_bind (P := (fun r => P9 r.2)) (q_f_X12_bad (P9_j hM (by decide))) ?_
      rintro ⟨a544_0, a544_1⟩ h544
      replace h544 : P9 a544_1 := h544
      refine pc_ite ?_ ?_
      · refine pc_bind (P := (fun r => P9 r.2.2)) (pc_wh (q_L_X12_soonest_56) (show P9 _ from h544)) ?_
        rintro ⟨a545_0, a545_1, a545_2⟩ h545
        replace h545 : P9 a545_2 := h545
        refine pc_ite ?_ ?_
        · exact pc_some (show P9 _ from h545)
        · exact pc_some (show P9 _ from h545)
      · exact pc_some (show P9 _ from h544)
    · refine pc_ite ?_ ?_
      · refine pc_bind (P := (fun r => P9 r.2)) (q_f_X12_bad (P9_j hM (by decide))) ?_
        rintro ⟨a546_0, a546_1⟩ h546
        replace h546 : P9 a546_1 := h546
        refine pc_ite ?_ ?_
        · refine pc_bind (P := (fun r => P9 r.2.2)) (pc_wh (q_L_X12_soonest_56) (show P9 _ from h546)) ?_
          rintro ⟨a547_0, a547_1, a547_2⟩ h547
          replace h547 : P9 a547_2 := h547
          refine pc_ite ?_ ?_
          · exact pc_some (show P9 _ from h547)
          · exact pc_some (show P9 _ from h547)
        · exact pc_some (show P9 _ from h546)
      · refine pc_bind (P := (fun r => P9 r.2)) (q_f_X12_bad (P9_j hM (by decide))) ?_
        rintro ⟨a548_0, a548_1⟩ h548
        replace h548 : P9 a548_1 := h548
        refine pc_ite ?_ ?_
        · refine pc_bind (P := (fun r => P9 r.2.2)) (pc_wh (q_L_X12_soonest_56) (show P9 _ from h548)) ?_
          rintro ⟨a549_0, a549_1, a549_2⟩ h549
          replace h549 : P9 a549_2 := h549
          refine pc_ite ?_ ?_
          · exact pc_some (show P9 _ from h549)
          · exact pc_some (show P9 _ from h549)
        · exact pc_some (show P9 _ from h548)
theorem q_L_X12_span_62 {x1 x2 x3 x4 : Int32} : ∀ s, (fun r => P9 r.2.2.2.2) s → pc (sQ (fun r => P9 r.2.2.2.2) (fun r => P9 r.2.2.2)) (L_X12_span_62 x1 x2 x3 x4 s) := by
  rintro ⟨b0, b1, b2, b3, b4⟩ hM
  replace hM : P9 b4 := hM
  unfold L_X12_span_62
  refine pc_ite ?_ ?_
  · exact pc_some (show P9 _ from hM)
  · refine pc_bind (P := P9) (q_f_X12_wintersBy hM) ?_
    intro a550 h550
    refine pc_bind (P := fun _ => True) pc_T ?_
    intro _ _
    refine pc_bind (P := fun _ => True) pc_T ?_
    intro _ _
    refine pc_ite ?_ ?_
    · refine pc_bind (P := fun _ => True) pc_T ?_
      intro _ _
      refine pc_ite ?_ ?_
      · exact pc_some (show P9 _ from h550)
      · exact pc_some (show P9 _ from h550)
    · refine pc_bind (P := fun _ => True) pc_T ?_
      intro _ _
      refine pc_ite ?_ ?_
      · exact pc_some (show P9 _ from h550)
      · exact pc_some (show P9 _ from h550)
theorem q_f_X12_span {x1 x2 x3 x4 x5 : Int32} {M : Mem} (hM : P9 M) : pc (fun r => P9 r.2) (f_X12_span x1 x2 x3 x4 x5 M) := by
  unfold f_X12_span
  refine pc_ite ?_ ?_
  · refine pc_bind (P := (fun r => P9 r.2)) (q_f_X12_bad (P9_j hM (by decide))) ?_
    rintro ⟨a551_0, a551_1⟩ h551
    replace h551 : P9 a551_1 := h551
    refine pc_ite ?_ ?_
    · refine pc_bind (P := (fun r => P9 r.2.2.2)) (pc_wh (q_L_X12_span_62) (show P9 _ from h551)) ?_
      rintro ⟨a552_0, a552_1, a552_2, a552_3⟩ h552
      replace h552 : P9 a552_3 := h552
      refine pc_ite ?_ ?_
      · exact pc_some (show P9 _ from h552)
      · refine pc_ite ?_ ?_
        · exact pc_some (show P9 _ from h552)
        · exact pc_some (show P9 _ from h552)
    · exact pc_some (show P9 _ from h551)
  · refine pc_ite ?_ ?_
    · refine pc_bind (P := (fun r => P9 r.2)) (q_f_X12_bad (P9_j hM (by decide))) ?_
      rintro ⟨a553_0, a553_1⟩ h553
      replace h553 : P9 a553_1 := h553
      refine pc_ite ?_ ?_
      · refine pc_bind (P := (fun r => P9 r.2.2.2)) (pc_wh (q_L_X12_span_62) (show P9 _ from h553)) ?_
        rintro ⟨a554_0, a554_1, a554_2, a554_3⟩ h554
        replace h554 : P9 a554_3 := h554
        refine pc_ite ?_ ?_
        · exact pc_some (show P9 _ from h554)
        · refine pc_ite ?_ ?_
          · exact pc_some (show P9 _ from h554)
          · exact pc_some (show P9 _ from h554)
      · exact pc_some (show P9 _ from h553)
    · refine pc_ite ?_ ?_
      · refine pc_bind (P := (fun r => P9 r.2)) (q_f_X12_bad (P9_j hM (by decide))) ?_
        rintro ⟨a555_0, a555_1⟩ h555
        replace h555 : P9 a555_1 := h555
        refine pc_ite ?_ ?_
        · refine pc_bind (P := (fun r => P9 r.2.2.2)) (pc_wh (q_L_X12_span_62) (show P9 _ from h555)) ?_
          rintro ⟨a556_0, a556_1, a556_2, a556_3⟩ h556
          replace h556 : P9 a556_3 := h556
          refine pc_ite ?_ ?_
          · exact pc_some (show P9 _ from h556)
          · refine pc_ite ?_ ?_
            · exact pc_some (show P9 _ from h556)
            · exact pc_some (show P9 _ from h556)
        · exact pc_some (show P9 _ from h555)
      · refine pc_bind (P := (fun r => P9 r.2)) (q_f_X12_bad (P9_j hM (by decide))) ?_
        rintro ⟨a557_0, a557_1⟩ h557
        replace h557 : P9 a557_1 := h557
        refine pc_ite ?_ ?_
        · refine pc_bind (P := (fun r => P9 r.2.2.2)) (pc_wh (q_L_X12_span_62) (show P9 _ from h557)) ?_
          rintro ⟨a558_0, a558_1, a558_2, a558_3⟩ h558
          replace h558 : P9 a558_3 := h558
          refine pc_ite ?_ ?_
          · exact pc_some (show P9 _ from h558)
          · refine pc_ite ?_ ?_
            · exact pc_some (show P9 _ from h558)
            · exact pc_some (show P9 _ from h558)
        · exact pc_some (show P9 _ from h557)
theorem q_L_X12_tallest_34 {x1 : Int32} : ∀ s, (fun r => P9 r.2) s → pc (sQ (fun r => P9 r.2) (sQ (fun r => P9 r.2) P9)) (L_X12_tallest_34 x1 s) := by
  rintro ⟨b0, b1⟩ hM
  replace hM : P9 b1 := hM
  unfold L_X12_tallest_34
  refine pc_ite ?_ ?_
  · exact pc_some (show P9 _ from hM)
  · refine pc_bind (P := (fun r => P9 r.2)) (q_f_X12_trips hM) ?_
    rintro ⟨a559_0, a559_1⟩ h559
    replace h559 : P9 a559_1 := h559
    refine pc_ite ?_ ?_
    · exact pc_some (show P9 _ from h559)
    · exact pc_some (show P9 _ from h559)
theorem q_f_X12_tallest {x1 : Int32} {M : Mem} (hM : P9 M) : pc (fun r => P9 r.2) (f_X12_tallest x1 M) := by
  unfold f_X12_tallest
  refine pc_ite ?_ ?_
  · refine pc_bind (P := (fun r => P9 r.2)) (q_f_X12_bad (P9_j hM (by decide))) ?_
    rintro ⟨a560_0, a560_1⟩ h560
    replace h560 : P9 a560_1 := h560
    refine pc_ite ?_ ?_
    · refine pc_bind (P := (sQ (fun r => P9 r.2) P9)) (pc_wh (q_L_X12_tallest_34) (show P9 _ from h560)) ?_
      intro ee he
      rcases ee with ee | ee
      · obtain ⟨a561_0, a561_1⟩ := ee
        have h561 : P9 a561_1 := he
        dsimp only
        exact pc_some (show P9 _ from h561)
      · have h562 : P9 ee := he
        dsimp only
        exact pc_some (show P9 _ from h562)
    · exact pc_some (show P9 _ from h560)
  · refine pc_bind (P := (fun r => P9 r.2)) (q_f_X12_bad (P9_j hM (by decide))) ?_
    rintro ⟨a563_0, a563_1⟩ h563
    replace h563 : P9 a563_1 := h563
    refine pc_ite ?_ ?_
    · refine pc_bind (P := (sQ (fun r => P9 r.2) P9)) (pc_wh (q_L_X12_tallest_34) (show P9 _ from h563)) ?_
      intro ee he
      rcases ee with ee | ee
      · obtain ⟨a564_0, a564_1⟩ := ee
        have h564 : P9 a564_1 := he
        dsimp only
        exact pc_some (show P9 _ from h564)
      · have h565 : P9 ee := he
        dsimp only
        exact pc_some (show P9 _ from h565)
    · exact pc_some (show P9 _ from h563)
theorem q_f_X12_trip {x1 x2 x3 : Int32} {M : Mem} (hM : P9 M) : pc (fun r => P9 r.2) (f_X12_trip x1 x2 x3 M) := by
  unfold f_X12_trip
  refine pc_ite ?_ ?_
  · refine pc_bind (P := (fun r => P9 r.2)) (q_f_X12_bad (P9_j hM (by decide))) ?_
    rintro ⟨a566_0, a566_1⟩ h566
    replace h566 : P9 a566_1 := h566
    refine pc_ite ?_ ?_
    · refine pc_bind (P := (fun r => P9 r.2)) (q_f_X12_trips h566) ?_
      rintro ⟨a567_0, a567_1⟩ h567
      replace h567 : P9 a567_1 := h567
      refine pc_bind (P := fun _ => True) pc_T ?_
      rintro ⟨_, _⟩ -
      refine pc_ite ?_ ?_
      · exact pc_some (show P9 _ from h567)
      · refine pc_ite ?_ ?_
        · exact pc_some (show P9 _ from h567)
        · exact pc_some (show P9 _ from h567)
    · exact pc_some (show P9 _ from h566)
  · refine pc_ite ?_ ?_
    · refine pc_bind (P := (fun r => P9 r.2)) (q_f_X12_bad (P9_j hM (by decide))) ?_
      rintro ⟨a568_0, a568_1⟩ h568
      replace h568 : P9 a568_1 := h568
      refine pc_ite ?_ ?_
      · refine pc_bind (P := (fun r => P9 r.2)) (q_f_X12_trips h568) ?_
        rintro ⟨a569_0, a569_1⟩ h569
        replace h569 : P9 a569_1 := h569
        refine pc_bind (P := fun _ => True) pc_T ?_
        rintro ⟨_, _⟩ -
        refine pc_ite ?_ ?_
        · exact pc_some (show P9 _ from h569)
        · refine pc_ite ?_ ?_
          · exact pc_some (show P9 _ from h569)
          · exact pc_some (show P9 _ from h569)
      · exact pc_some (show P9 _ from h568)
    · refine pc_ite ?_ ?_
      · refine pc_bind (P := (fun r => P9 r.2)) (q_f_X12_bad (P9_j hM (by decide))) ?_
        rintro ⟨a570_0, a570_1⟩ h570
        replace h570 : P9 a570_1 := h570
        refine pc_ite ?_ ?_
        · refine pc_bind (P := (fun r => P9 r.2)) (q_f_X12_trips h570) ?_
          rintro ⟨a571_0, a571_1⟩ h571
          replace h571 : P9 a571_1 := h571
          refine pc_bind (P := fun _ => True) pc_T ?_
          rintro ⟨_, _⟩ -
          refine pc_ite ?_ ?_
          · exact pc_some (show P9 _ from h571)
          · refine pc_ite ?_ ?_
            · exact pc_some (show P9 _ from h571)
            · exact pc_some (show P9 _ from h571)
        · exact pc_some (show P9 _ from h570)
      · refine pc_bind (P := (fun r => P9 r.2)) (q_f_X12_bad (P9_j hM (by decide))) ?_
        rintro ⟨a572_0, a572_1⟩ h572
        replace h572 : P9 a572_1 := h572
        refine pc_ite ?_ ?_
        · refine pc_bind (P := (fun r => P9 r.2)) (q_f_X12_trips h572) ?_
          rintro ⟨a573_0, a573_1⟩ h573
          replace h573 : P9 a573_1 := h573
          refine pc_bind (P := fun _ => True) pc_T ?_
          rintro ⟨_, _⟩ -
          refine pc_ite ?_ ?_
          · exact pc_some (show P9 _ from h573)
          · refine pc_ite ?_ ?_
            · exact pc_some (show P9 _ from h573)
            · exact pc_some (show P9 _ from h573)
        · exact pc_some (show P9 _ from h572)
theorem q_f_X12_walk {x1 x2 x3 : Int32} {M : Mem} (hM : P9 M) : pc (fun r => P9 r.2) (f_X12_walk x1 x2 x3 M) := by
  unfold f_X12_walk
  refine pc_ite ?_ ?_
  · refine pc_bind (P := (fun r => P9 r.2)) (q_f_X12_bad (P9_j hM (by decide))) ?_
    rintro ⟨a574_0, a574_1⟩ h574
    replace h574 : P9 a574_1 := h574
    refine pc_ite ?_ ?_
    · refine pc_ite ?_ ?_
      · refine pc_bind (P := (fun r => P9 r.2)) (q_f_X12_bad h574) ?_
        rintro ⟨a575_0, a575_1⟩ h575
        replace h575 : P9 a575_1 := h575
        refine pc_ite ?_ ?_
        · refine pc_bind (P := P9) (q_f_X12_walks h575) ?_
          intro a576 h576
          refine pc_ite ?_ ?_
          · exact pc_some (show P9 _ from h576)
          · exact pc_none
        · exact pc_some (show P9 _ from h575)
      · refine pc_bind (P := (fun r => P9 r.2)) (q_f_X12_bad h574) ?_
        rintro ⟨a577_0, a577_1⟩ h577
        replace h577 : P9 a577_1 := h577
        refine pc_ite ?_ ?_
        · refine pc_bind (P := P9) (q_f_X12_walks h577) ?_
          intro a578 h578
          refine pc_ite ?_ ?_
          · exact pc_some (show P9 _ from h578)
          · exact pc_none
        · exact pc_some (show P9 _ from h577)
    · exact pc_some (show P9 _ from h574)
  · refine pc_ite ?_ ?_
    · refine pc_bind (P := (fun r => P9 r.2)) (q_f_X12_bad (P9_j hM (by decide))) ?_
      rintro ⟨a579_0, a579_1⟩ h579
      replace h579 : P9 a579_1 := h579
      refine pc_ite ?_ ?_
      · refine pc_ite ?_ ?_
        · refine pc_bind (P := (fun r => P9 r.2)) (q_f_X12_bad h579) ?_
          rintro ⟨a580_0, a580_1⟩ h580
          replace h580 : P9 a580_1 := h580
          refine pc_ite ?_ ?_
          · refine pc_bind (P := P9) (q_f_X12_walks h580) ?_
            intro a581 h581
            refine pc_ite ?_ ?_
            · exact pc_some (show P9 _ from h581)
            · exact pc_none
          · exact pc_some (show P9 _ from h580)
        · refine pc_bind (P := (fun r => P9 r.2)) (q_f_X12_bad h579) ?_
          rintro ⟨a582_0, a582_1⟩ h582
          replace h582 : P9 a582_1 := h582
          refine pc_ite ?_ ?_
          · refine pc_bind (P := P9) (q_f_X12_walks h582) ?_
            intro a583 h583
            refine pc_ite ?_ ?_
            · exact pc_some (show P9 _ from h583)
            · exact pc_none
          · exact pc_some (show P9 _ from h582)
      · exact pc_some (show P9 _ from h579)
    · refine pc_bind (P := (fun r => P9 r.2)) (q_f_X12_bad (P9_j hM (by decide))) ?_
      rintro ⟨a584_0, a584_1⟩ h584
      replace h584 : P9 a584_1 := h584
      refine pc_ite ?_ ?_
      · refine pc_ite ?_ ?_
        · refine pc_bind (P := (fun r => P9 r.2)) (q_f_X12_bad h584) ?_
          rintro ⟨a585_0, a585_1⟩ h585
          replace h585 : P9 a585_1 := h585
          refine pc_ite ?_ ?_
          · refine pc_bind (P := P9) (q_f_X12_walks h585) ?_
            intro a586 h586
            refine pc_ite ?_ ?_
            · exact pc_some (show P9 _ from h586)
            · exact pc_none
          · exact pc_some (show P9 _ from h585)
        · refine pc_bind (P := (fun r => P9 r.2)) (q_f_X12_bad h584) ?_
          rintro ⟨a587_0, a587_1⟩ h587
          replace h587 : P9 a587_1 := h587
          refine pc_ite ?_ ?_
          · refine pc_bind (P := P9) (q_f_X12_walks h587) ?_
            intro a588 h588
            refine pc_ite ?_ ?_
            · exact pc_some (show P9 _ from h588)
            · exact pc_none
          · exact pc_some (show P9 _ from h587)
      · exact pc_some (show P9 _ from h584)
theorem q_f_X12_winters {x1 x2 x3 x4 : Int32} {M : Mem} (hM : P9 M) : pc (fun r => P9 r.2) (f_X12_winters x1 x2 x3 x4 M) := by
  unfold f_X12_winters
  refine pc_ite ?_ ?_
  · refine pc_bind (P := (fun r => P9 r.2)) (q_f_X12_bad (P9_j hM (by decide))) ?_
    rintro ⟨a589_0, a589_1⟩ h589
    replace h589 : P9 a589_1 := h589
    refine pc_ite ?_ ?_
    · refine pc_bind (P := P9) (q_f_X12_wintersBy h589) ?_
      intro a590 h590
      refine pc_ite ?_ ?_
      · refine pc_bind (P := fun _ => True) pc_T ?_
        intro _ _
        exact pc_some (show P9 _ from h590)
      · refine pc_ite ?_ ?_
        · refine pc_bind (P := fun _ => True) pc_T ?_
          intro _ _
          refine pc_bind (P := fun _ => True) pc_T ?_
          intro _ _
          exact pc_some (show P9 _ from h590)
        · refine pc_ite ?_ ?_
          · exact pc_some (show P9 _ from h590)
          · refine pc_bind (P := fun _ => True) pc_T ?_
            intro _ _
            refine pc_bind (P := fun _ => True) pc_T ?_
            intro _ _
            exact pc_some (show P9 _ from h590)
    · exact pc_some (show P9 _ from h589)
  · refine pc_ite ?_ ?_
    · refine pc_bind (P := (fun r => P9 r.2)) (q_f_X12_bad (P9_j hM (by decide))) ?_
      rintro ⟨a591_0, a591_1⟩ h591
      replace h591 : P9 a591_1 := h591
      refine pc_ite ?_ ?_
      · refine pc_bind (P := P9) (q_f_X12_wintersBy h591) ?_
        intro a592 h592
        refine pc_ite ?_ ?_
        · refine pc_bind (P := fun _ => True) pc_T ?_
          intro _ _
          exact pc_some (show P9 _ from h592)
        · refine pc_ite ?_ ?_
          · refine pc_bind (P := fun _ => True) pc_T ?_
            intro _ _
            refine pc_bind (P := fun _ => True) pc_T ?_
            intro _ _
            exact pc_some (show P9 _ from h592)
          · refine pc_ite ?_ ?_
            · exact pc_some (show P9 _ from h592)
            · refine pc_bind (P := fun _ => True) pc_T ?_
              intro _ _
              refine pc_bind (P := fun _ => True) pc_T ?_
              intro _ _
              exact pc_some (show P9 _ from h592)
      · exact pc_some (show P9 _ from h591)
    · refine pc_bind (P := (fun r => P9 r.2)) (q_f_X12_bad (P9_j hM (by decide))) ?_
      rintro ⟨a593_0, a593_1⟩ h593
      replace h593 : P9 a593_1 := h593
      refine pc_ite ?_ ?_
      · refine pc_bind (P := P9) (q_f_X12_wintersBy h593) ?_
        intro a594 h594
        refine pc_ite ?_ ?_
        · refine pc_bind (P := fun _ => True) pc_T ?_
          intro _ _
          exact pc_some (show P9 _ from h594)
        · refine pc_ite ?_ ?_
          · refine pc_bind (P := fun _ => True) pc_T ?_
            intro _ _
            refine pc_bind (P := fun _ => True) pc_T ?_
            intro _ _
            exact pc_some (show P9 _ from h594)
          · refine pc_ite ?_ ?_
            · exact pc_some (show P9 _ from h594)
            · refine pc_bind (P := fun _ => True) pc_T ?_
              intro _ _
              refine pc_bind (P := fun _ => True) pc_T ?_
              intro _ _
              exact pc_some (show P9 _ from h594)
      · exact pc_some (show P9 _ from h593)
