/-! HOURS THAT WOULD GO BY, BOTH SIDES -/
def b0 (M : Mem) (g : Nat → Int32) : Nat → Int32 := fun j => if j < 66 then M 72 0 j else g j
/-- the model's row, k hours on, with ice -/
def bK (qc : Nat) (M : Mem) (F : Nat → Int32) (g : Nat → Int32) : Nat → (Nat → Int32)
  | 0 => b0 M g
  | k + 1 => hM qc M (F k) (bK qc M F g k)
def icK (qc : Nat) (M : Mem) (F : Nat → Int32) (g : Nat → Int32) : Nat → Int32
  | 0 => 0
  | k + 1 => icK qc M F g k + sumN (fun j => if bt (bitsN (opB qc M (bK qc M F g k)) (nB M) &&& F k) j = true then 1 else 0) 16
theorem SR_cong {n g : Nat} {a a' b b' : Nat → Int32} (hn : n ≤ 16) (hg : g ≤ 4) (h : SR n g a b) (ha : ∀ j, j < 47 → a' j = a j) (hb : ∀ j, j < 66 → b' j = b j) : SR n g a' b' := by
  obtain ⟨t1, ⟨t2, t2'⟩, ⟨t3, t3'⟩, ⟨t4, t4'⟩, ⟨t5, t5'⟩, t6, t7, t8⟩ := h
  refine ⟨by rw [ha 0 (by omega), hb 63 (by omega)]; exact t1, ⟨fun j hj => ?_, fun j h1 h2 => ?_⟩, ⟨fun j hj => ?_, fun j h1 h2 => ?_⟩, ⟨fun j hj => ?_, fun j h1 h2 => ?_⟩, ⟨fun k hk => ?_, fun k h1 h2 => ?_⟩, fun k hk => ?_, fun k hk => ?_, ?_⟩
  · rw [ha 1 (by omega), ha 2 (by omega), hb j (by omega)]; exact t2 j hj
  · rw [ha 1 (by omega)]; exact t2' j h1 h2
  · rw [ha _ (by omega), hb _ (by omega)]; exact t3 j hj
  · rw [ha _ (by omega)]; exact t3' j h1 h2
  · rw [ha _ (by omega), hb _ (by omega)]; exact t4 j hj
  · rw [ha _ (by omega)]; exact t4' j h1 h2
  · rw [ha (35 + k) (by omega), ha (39 + k) (by omega), ha (43 + k) (by omega), hb (53 + k) (by omega), hb (48 + k) (by omega), hb (58 + k) (by omega)]; exact t5 k hk
  · rw [ha _ (by omega)]; exact t5' k h1 h2
  · rw [ha _ (by omega)]; exact t6 k hk
  · rw [hb _ (by omega)]; exact t7 k hk
  · rw [hb _ (by omega)]; exact t8
theorem bK_i {qc qs : Nat} {M : Mem} {F g : Nat → Int32} (h : Rel qc qs M) : ∀ k, psdM (nB M) (bK qc M F g k) ∧ bK qc M F g k 63 = M 72 0 63 + nI k
  | 0 => ⟨(SR_cong (R_n16 h) (R_g4 h) (R_SR h) (fun _ _ => rfl) (fun j hj => by show b0 M g j = _; unfold b0; rw [if_pos hj])).2.2.2.2.2.2.1, by show b0 M g 63 = _; unfold b0; rw [if_pos (by decide)]; exact (add00 _).symm⟩
  | k + 1 => by
    obtain ⟨h1, h2⟩ := bK_i h k
    obtain ⟨z1, z2, -⟩ := hM_k (qc := qc) (frz := F k) (R_n16 h) h1
    refine ⟨z1, ?_⟩
    show hM qc M (F k) _ 63 = _
    rw [z2, h2, Int32.add_assoc, nI_1]
theorem cp_e {M : Mem} : ∀ c, c ≠ 40 → am_cp M 30 0 0 40 0 0 47 c = M c := by
  intro c hc
  funext r j
  unfold am_cp
  rw [if_neg (fun z => hc z.1)]
theorem opn_eq {qc : Nat} {M : Mem} {a b : Nat → Int32} (hn : nB M ≤ 16) (h : SR (nB M) (nG M) a b) : a 1 ||| (dueR qc M a &&& (a 2 ^^^ (-1))) = bitsN (opB qc M b) (nB M) := by
  refine bitsN_eq (by omega) (fun i hi => ?_) (fun i h1 h2 => ?_)
  · rw [SR_opB h i hi, b_or, b_and, b_not _ (by omega), bt_due hn (by omega), decide_eq_true hi, Bool.true_and]
  · rw [b_or, b_and, bt_due hn h2, decide_eq_false (by omega), h.2.1.2 i h1 h2]
    rfl
theorem c_freeze {qc qs qd : Nat} {M M' : Mem} {seed q : Int32} {H : Nat} (h : Rel qc qs M) (o : OF qc M M') (hH : H ≤ 240) : ok (f_X6_freeze qc qd seed q (nI H) M') (fun M2 => OF qc M M2 ∧ ∀ g, SR (nB M) (nG M) (M2 40 0) (bK qc M (frz (nB M) q seed) g H) ∧ M2 38 0 10 = icK qc M (frz (nB M) q seed) g H) := by
  have hn := R_n16 h
  have hg := R_g4 h
  have fz : ∀ k j, nB M ≤ j → j < 32 → bt (frz (nB M) q seed k) j = false := fun k j h1 h2 => by
    unfold frz
    rw [bt_bitsN _ (by omega) h2, decide_eq_false (by omega)]
    rfl
  unfold f_X6_freeze
  refine ok_bindE (show f_X8_writeTo_t 0 M' = some (am_cp M' 30 0 0 40 0 0 47) from rfl) ?_
  have e40 : ∀ j, j < 47 → am_cp M' 30 0 0 40 0 0 47 40 0 j = M 30 0 j := by
    intro j hj
    unfold am_cp
    rw [if_pos ⟨rfl, rfl, Nat.zero_le _, by omega⟩, show 0 + (j - 0) = j by omega, (OF_a o).1 30 (by decide)]
  have f0 : fr [38, 40] M' (am_u3 (am_u3 (am_cp M' 30 0 0 40 0 0 47) 38 0 9 seed) 38 0 10 0) := fr_u3 (fr_u3 (fun c hc => cp_e c (by simp at hc; omega)) (by decide)) (by decide)
  have o0 : OF qc M (am_u3 (am_u3 (am_cp M' 30 0 0 40 0 0 47) 38 0 9 seed) 38 0 10 0) := OF_x h o f0 (by rw [u3_j (by omega), u3_j (by omega), cp_e 38 (by decide)])
  refine ok_bind (P := fun M2 => OF qc M M2 ∧ ∀ g, SR (nB M) (nG M) (M2 40 0) (bK qc M (frz (nB M) q seed) g H) ∧ M2 38 0 10 = icK qc M (frz (nB M) q seed) g H) ?_ (fun _ h => ok_some h)
  refine ok_wh (fun k s => s.1 = nI k ∧ OF qc M s.2 ∧ s.2 38 0 9 = sdN (nB M) seed k ∧ ∀ g, SR (nB M) (nG M) (s.2 40 0) (bK qc M (frz (nB M) q seed) g k) ∧ s.2 38 0 10 = icK qc M (frz (nB M) q seed) g k) H ⟨rfl, o0, rfl, fun g => ⟨?_, rfl⟩⟩ (by omega) ?_ ?_
  · refine SR_cong hn hg (R_SR h) (fun j hj => ?_) (fun j hj => ?_)
    · exact e40 j hj
    · show b0 M g j = _; unfold b0; rw [if_pos hj]
  · rintro k ⟨x, M1⟩ hk ⟨e1, o1, s1, sr⟩
    simp only at e1 o1 s1 sr
    subst e1
    have eB : M1 3 0 0 = nI (nB M) := by rw [(OF_a o1).1 3 (by decide)]; exact R_eB h
    unfold L_X6_freeze_28
    refine ok_ifn (nI_ge hk (by omega)) (ok_bind (c_draw eB hn) ?_)
    rintro ⟨v, M2⟩ ⟨ev, f2, k2, s2⟩
    simp only at ev f2 k2 s2
    rw [s1] at ev s2
    have ev' : v = frz (nB M) q seed k := ev
    subst ev'
    have o2 := OF_x h o1 (fr_mono f2 (by decide)) (k2 5 (by decide))
    have q2 : M2 40 = M1 40 := f2 40 (by decide)
    have sr0 := (sr (fun _ => 0)).1
    have ha : M2 40 0 0 = M 30 0 0 + nI k := by
      rw [q2, sr0.1, (bK_i h k).2, ← (R_SR h).1]
    refine ok_bind (c_dueThen h o2 (by omega) ha) ?_
    rintro ⟨w, M3⟩ ⟨ew, o3, q3, k3⟩
    simp only at ew o3 q3 k3
    rw [q2] at ew q3
    subst ew
    have o4 : OF qc M (am_u3 M3 38 0 10 ((M3 38 0 10) + (bcI (((M3 40 0 1) ||| (dueR qc M (M1 40 0) &&& ((M3 40 0 2) ^^^ (-1 : Int32)))) &&& frz (nB M) q seed k)))) := OF_x h o3 (fr_u3 fr_rfl (by decide)) (by rw [u3_j (by omega)])
    have eC : cBed (am_u3 M3 38 0 10 ((M3 38 0 10) + (bcI (((M3 40 0 1) ||| (dueR qc M (M1 40 0) &&& ((M3 40 0 2) ^^^ (-1 : Int32)))) &&& frz (nB M) q seed k)))) := cBed_fr ((OF_a o4).1 3 (by decide)) h.1.2.2.2.1
    have nb : nB (am_u3 M3 38 0 10 ((M3 38 0 10) + (bcI (((M3 40 0 1) ||| (dueR qc M (M1 40 0) &&& ((M3 40 0 2) ^^^ (-1 : Int32)))) &&& frz (nB M) q seed k)))) = nB M := nB_fr ((OF_a o4).1 3 (by decide))
    have eb4 := asks_b (OF_a o4)
    refine ok_bind (c_passHour' (Or.inr rfl) eC ?_) ?_
    · rw [nb, u3_c (by decide), q3]; exact sr0.2.2.2.2.2.1
    · rintro M5 ⟨f5, r5⟩
      rw [hC_c eb4, u3_c (show 40 ≠ 38 by decide), q3] at r5
      have o5 := OF_x h o4 (fr_mono f5 (by decide)) (by rw [f5 38 (by decide)])
      refine ok_some ⟨nI_1 k, o5, ?_, fun g => ⟨?_, ?_⟩⟩
      · show M5 38 0 9 = _
        rw [f5 38 (by decide), u3_j (by omega), k3 9 (by decide), s2]
        rfl
      · show SR _ _ (M5 40 0) _
        rw [r5]
        exact SR_step h.1 (sr g).1
      · show M5 38 0 10 = _
        rw [f5 38 (by decide), u3_e, k3 10 (by decide), k2 10 (by decide), (sr g).2, q3, opn_eq hn (sr g).1]
        rw [bc_ones]
        · rfl
        · intro j h1 h2
          rw [b_and, fz k j (by omega) h2, Bool.and_false]
  · rintro ⟨x, M1⟩ ⟨e1, o1, s1, sr⟩
    simp only at e1 o1 s1 sr
    subst e1
    unfold L_X6_freeze_28
    exact ok_ifp (nI_le (Nat.le_refl _) (by omega)) (ok_some ⟨o1, sr⟩)
/-- the model in winter -/
theorem m_winter {qc qs : Nat} {M M' : Mem} {seed q : Int32} {H : Nat} (h : Rel qc qs M) (m : mfr M M') (t0 : M' 54 0 0 = 0) (hH : H ≤ 240) : ok (f_X12_wintersBy seed q (nI H) M') (fun M2 => mfr M M2 ∧ M2 54 0 0 = 0 ∧ ∃ g, M2 73 0 = bK qc M (frz (nB M) q seed) g H ∧ M2 54 0 49 = icK qc M (frz (nB M) q seed) g H) := by
  have hn := R_n16 h
  unfold f_X12_wintersBy
  refine ok_bind (TR_s h m t0) ?_
  rintro M1 ⟨⟨m1, z1, t1, -⟩, r1⟩
  obtain ⟨g, eg⟩ : ∃ g, M1 73 0 = b0 M g := by
    refine ⟨M1 73 0, ?_⟩
    funext j
    unfold b0
    by_cases hj : j < 66
    · rw [if_pos hj]; exact r1 j hj
    · rw [if_neg hj]
  refine ok_bind (P := fun M2 => mfr M M2 ∧ M2 54 0 0 = 0 ∧ M2 73 0 = bK qc M (frz (nB M) q seed) g H ∧ M2 54 0 49 = icK qc M (frz (nB M) q seed) g H) ?_ ?_
  · refine ok_wh (fun k s => s.1 = nI k ∧ mfr M s.2 ∧ s.2 54 0 0 = 0 ∧ s.2 73 0 = bK qc M (frz (nB M) q seed) g k ∧ s.2 54 0 48 = sdN (nB M) seed k ∧ s.2 54 0 49 = icK qc M (frz (nB M) q seed) g k) H ⟨rfl, mfr_54 (mfr_54 m1 (by decide)) (by decide), t1, eg, rfl, rfl⟩ (by omega) ?_ ?_
    · rintro k ⟨x, M2⟩ hk ⟨e1, m2, t2, r2, s2, i2⟩
      simp only at e1 m2 t2 r2 s2 i2
      subst e1
      unfold L_X12_wintersBy_17
      refine ok_ifn (nI_ge hk (by omega)) (ok_bind (m_draw (n := nB M) (a_mB h (asks_m (mfr_54 m2 (by decide)))) hn (u3_e _ _ _ _ _)) ?_)
      rintro M3 ⟨d1, d2, d3, d4⟩
      have e48 : am_u3 M2 54 0 39 0 54 0 48 = sdN (nB M) seed k := by rw [u3_j (by omega)]; exact s2
      rw [e48] at d1 d4
      have d1' : M3 54 0 39 = frz (nB M) q seed k := d1
      have m3 : mfr M M3 := by
        refine mfr_tr (mfr_54 m2 (by decide)) ⟨fr_mono d2 (by decide), fun j hj => d3 j ?_ ?_⟩
        · rintro rfl; revert hj; decide
        · rintro rfl; revert hj; decide
      have r3 : M3 73 0 = bK qc M (frz (nB M) q seed) g k := by rw [d2 73 (by decide), u3_c (by decide)]; exact r2
      have hb3 := base_a h.1 (asks_m m3)
      refine ok_bind (m_openBits (qc := qc) (Or.inr rfl) hb3) ?_
      rintro ⟨v, M4⟩ ⟨ev, f4⟩
      simp only at ev f4
      have ev' : v = bitsN (opB qc M (bK qc M (frz (nB M) q seed) g k)) (nB M) := by
        rw [ev, r3, nB_fr ((asks_m m3).1 3 (by decide))]
        exact bitsN_cong (fun j _ => opB_c h.1.1 (asks_b (asks_m m3)) _ _)
      subst ev'
      have m4 : mfr M M4 := mfr_tr m3 (mfr_f f4 (by decide))
      have e45 : M4 54 0 39 = frz (nB M) q seed k := by rw [f4 54 (by decide)]; exact d1'
      simp only [e45]
      refine ok_bindE (ones_eq _) ?_
      have m5 : mfr M (am_u3 M4 54 0 49 (M3 54 0 49 + sumN (fun j => if bt (bitsN (opB qc M (bK qc M (frz (nB M) q seed) g k)) (nB M) &&& frz (nB M) q seed k) j = true then 1 else 0) 16)) := mfr_54 m4 (by decide)
      have r5 : am_u3 M4 54 0 49 (M3 54 0 49 + sumN (fun j => if bt (bitsN (opB qc M (bK qc M (frz (nB M) q seed) g k)) (nB M) &&& frz (nB M) q seed k) j = true then 1 else 0) 16) 73 0 = bK qc M (frz (nB M) q seed) g k := by rw [u3_c (by decide), f4 73 (by decide)]; exact r3
      have nb5 := nB_fr (M := M) ((asks_m m5).1 3 (by decide))
      refine ok_bind (m_hourEnds' (qc := qc) (Or.inr rfl) (base_a h.1 (asks_m m5)) (by rw [nb5, r5]; exact (bK_i h k).1)) ?_
      rintro M6 ⟨f6, r6⟩
      rw [hM_c h.1.1 (asks_b (asks_m m5)), r5, u3_j (by omega), f4 54 (by decide), d1'] at r6
      have e54 : ∀ j, M6 54 0 j = if j = 49 then M3 54 0 49 + sumN (fun j => if bt (bitsN (opB qc M (bK qc M (frz (nB M) q seed) g k)) (nB M) &&& frz (nB M) q seed k) j = true then 1 else 0) 16 else M3 54 0 j := by
        intro j
        rw [f6 54 (by decide), u3_r, f4 54 (by decide)]
        rfl
      refine ok_some ⟨nI_1 k, mfr_tr m5 (mfr_f f6 (by decide)), ?_, r6, ?_, ?_⟩
      · show M6 54 0 0 = 0
        rw [e54, if_neg (by decide), d3 0 (by decide) (by decide), u3_j (by omega)]; exact t2
      · show M6 54 0 48 = _
        rw [e54, if_neg (by decide), d4]; rfl
      · show M6 54 0 49 = _
        rw [e54, if_pos rfl, d3 49 (by decide) (by decide), u3_j (by omega), i2]; rfl
    · rintro ⟨x, M2⟩ ⟨e1, m2, t2, r2, s2, i2⟩
      simp only at e1 m2 t2 r2 s2 i2
      subst e1
      unfold L_X12_wintersBy_17
      exact ok_ifp (nI_le (Nat.le_refl _) (by omega)) (ok_some ⟨m2, t2, r2, i2⟩)
  · rintro M2 ⟨m2, t2, r2, i2⟩
    exact ok_some ⟨mfr_54 m2 (by decide), t2, g, r2, i2⟩
/-- what the states show -/
def vSum (n : Nat) (b : Nat → Int32) (f : Nat) : Int32 := sumN (fun j => b (f + j)) n
theorem SR_thr {n g : Nat} {a b : Nat → Int32} (hg : g ≤ 4) (h : SR n g a b) : thr (fun k => a (35 + k)) 4 = thr (fun k => b (53 + k)) g := thr_z hg (fun j hj => (h.2.2.2.2.1.1 j hj).1) (fun j h1 h2 => h.2.2.2.2.1.2 j h1 h2)
theorem SR_fns {n g : Nat} {a b : Nat → Int32} (hn : n ≤ 16) (h : SR n g a b) : sumN (fun j => a (3 + j)) 16 = vSum n b 16 := sumN_z hn (fun j hj => h.2.2.1.1 j hj) (fun j h1 h2 => h.2.2.1.2 j h1 h2)
theorem SR_kns {n g : Nat} {a b : Nat → Int32} (hn : n ≤ 16) (h : SR n g a b) : sumN (fun j => a (19 + j)) 16 = vSum n b 32 := sumN_z hn (fun j hj => h.2.2.2.1.1 j hj) (fun j h1 h2 => h.2.2.2.1.2 j h1 h2)
