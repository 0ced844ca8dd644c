/-! WORKS: both run, again and again -/
theorem inn2 {qc qd nb d v c f g : Nat} {J K : List Rc} (hJ : rows2 qc qd nb d J) (hf : d + 1 ≤ f) (hg : d + 1 ≤ g) (hv : v ≤ 60) (hc : c + 1 + (J ++ K).length ≤ 70) : ∀ (t x : Nat) (M N : Mem) (fu fu' : Nat), x + t = v → t + 1 ≤ fu → t + 1 ≤ fu' → nB M = nb → WR qc M N → LA c ((4, v, J.length + 1) :: (J ++ K)) M N → ∃ M' N', wh (L_RX9_runRow_44 qc qd (rec_runRow qc qd f) (nI c)) fu (nI x, M) = some M' ∧ wh (L_RX12_goes_42 (rec_goes g) (nI c)) fu' (nI x, N) = some N' ∧ WR qc M' N' ∧ cfr M M' ∧ nfr N N' := by
  intro t
  rw [List.length_append] at hc
  induction t with
  | zero =>
    intro x M N fu fu' hx h1 h2 hnb hW hL
    obtain ⟨fu0, rfl⟩ : ∃ z, fu = z + 1 := ⟨fu - 1, by omega⟩
    obtain ⟨fu1, rfl⟩ : ∃ z, fu' = z + 1 := ⟨fu' - 1, by omega⟩
    obtain ⟨⟨c35, c36, c37⟩, m0, m1, m2⟩ := hL 0 (by simp)
    rw [Nat.add_zero] at c35 c36 c37 m0 m1 m2
    have c36' : M 36 0 c = nI v := c36
    have m1' : N 71 (c + 1) 1 = nI v := m1 (show (4 : Nat) ≠ 3 by decide)
    have hle : nI v ≤ nI x := nI_le (by omega) (by omega)
    refine ⟨M, N, wh_out ?_, wh_out ?_, hW, fr_rfl, nfr_rfl⟩
    · unfold L_RX9_runRow_44
      show (if inb (nI c) 150 = true then (if M 36 0 (nI c).toNatClampNeg ≤ nI x then _ else _) else _) = _
      rw [if_pos (inb_n (show c < 150 by omega) (by decide)), nI_clamp (show c < 2 ^ 31 by omega), if_pos (by rw [c36']; exact hle)]
    · unfold L_RX12_goes_42
      show (if inb (nI c) 80 = true then (if N 71 ((nI c).toNatClampNeg + 1) 1 ≤ nI x then _ else _) else _) = _
      rw [if_pos (inb_n (show c < 80 by omega) (by decide)), nI_clamp (show c < 2 ^ 31 by omega), if_pos (by rw [m1']; exact hle)]
  | succ t ih =>
    intro x M N fu fu' hx h1 h2 hnb hW hL
    obtain ⟨fu0, rfl⟩ : ∃ z, fu = z + 1 := ⟨fu - 1, by omega⟩
    obtain ⟨fu1, rfl⟩ : ∃ z, fu' = z + 1 := ⟨fu' - 1, by omega⟩
    obtain ⟨⟨c35, c36, c37⟩, m0, m1, m2⟩ := hL 0 (by simp)
    rw [Nat.add_zero] at c35 c36 c37 m0 m1 m2
    have c36' : M 36 0 c = nI v := c36
    have m1' : N 71 (c + 1) 1 = nI v := m1 (show (4 : Nat) ≠ 3 by decide)
    have c37' : M 37 0 c = nI (c + 1 + J.length) := c37.trans (by show nI (c + (J.length + 1)) = _; rw [show c + (J.length + 1) = c + 1 + J.length by omega])
    have m2' : N 71 (c + 1) 2 = nI (c + 1 + J.length) := m2.trans (by show nI (c + (J.length + 1)) = _; rw [show c + (J.length + 1) = c + 1 + J.length by omega])
    have nle : ¬ nI v ≤ nI x := nI_ge (by omega) (by omega)
    obtain ⟨q, q1, q2, q3⟩ := hW.2.1
    by_cases hq : q < 240
    · have n240 : ¬ (240 : Int32) ≤ nI q := nI_ge (b := 240) hq (by decide)
      obtain ⟨f', rfl⟩ : ∃ z, f = z + 1 := ⟨f - 1, by omega⟩
      obtain ⟨g', rfl⟩ : ∃ z, g = z + 1 := ⟨g - 1, by omega⟩
      obtain ⟨M1, N1, r1, r2, W1, a1, b1⟩ := hJ f' g' (c + 1) M N FU FU (by omega) (by omega) (by rw [FU_eq]; omega) (by rw [FU_eq]; omega) (by omega) hnb hW (LA_l (LA_t hL))
      have e1 : rec_runRow qc qd (f' + 1) (nI (c + 1)) (nI (c + 1 + J.length)) M = some M1 := by
        show Option.bind (wh (L_RX9_runRow_3 qc qd (rec_runRow qc qd f') (nI (c + 1 + J.length))) FU (nI (c + 1), M)) _ = _
        rw [r1]; rfl
      have e2 : rec_goes (g' + 1) (nI (c + 1)) (nI (c + 1 + J.length)) N = some N1 := by
        show Option.bind (wh (L_RX12_goes_2 (rec_goes g') (nI (c + 1 + J.length))) FU (nI (c + 1), N)) _ = _
        rw [r2]; rfl
      have bB : L_RX9_runRow_44 qc qd (rec_runRow qc qd (f' + 1)) (nI c) (nI x, M) = some (Sum.inl (nI (x + 1), M1)) := by
        unfold L_RX9_runRow_44
        show (if inb (nI c) 150 = true then (if M 36 0 (nI c).toNatClampNeg ≤ nI x then _ else (if (240 : Int32) ≤ M 34 0 4 then _ else (Option.bind (rec_runRow qc qd (f' + 1) (nI c + 1) (M 37 0 (nI c).toNatClampNeg) M) _))) else _) = _
        rw [if_pos (inb_n (show c < 150 by omega) (by decide)), nI_clamp (show c < 2 ^ 31 by omega), if_neg (by rw [c36']; exact nle), if_neg (by rw [q2]; exact n240), nI_1, c37', e1]
        show some (Sum.inl (nI x + 1, M1)) = _
        rw [nI_1]
      have bN : L_RX12_goes_42 (rec_goes (g' + 1)) (nI c) (nI x, N) = some (Sum.inl (nI (x + 1), N1)) := by
        unfold L_RX12_goes_42
        show (if inb (nI c) 80 = true then (if N 71 ((nI c).toNatClampNeg + 1) 1 ≤ nI x then _ else (if (240 : Int32) ≤ N 54 0 40 then _ else (Option.bind (rec_goes (g' + 1) (nI c + 1) (N 71 ((nI c).toNatClampNeg + 1) 2) N) _))) else _) = _
        rw [if_pos (inb_n (show c < 80 by omega) (by decide)), nI_clamp (show c < 2 ^ 31 by omega), if_neg (by rw [m1']; exact nle), if_neg (by rw [q3]; exact n240), nI_1, m2', e2]
        show some (Sum.inl (nI x + 1, N1)) = _
        rw [nI_1]
      rw [wh_in bB, wh_in bN]
      obtain ⟨M', N', s1, s2, s3, s4, s5⟩ := ih (x + 1) M1 N1 fu0 fu1 (by omega) (by omega) (by omega) (by rw [WR_nB (qc := qc) a1]; exact hnb) W1 (LA_m hL a1 b1)
      exact ⟨M', N', s1, s2, s3, fr_tr a1 s4, nfr_tr b1 s5⟩
    · have : q = 240 := by omega
      subst this
      refine ⟨M, N, wh_out ?_, wh_out ?_, hW, fr_rfl, nfr_rfl⟩
      · unfold L_RX9_runRow_44
        show (if inb (nI c) 150 = true then (if M 36 0 (nI c).toNatClampNeg ≤ nI x then _ else (if (240 : Int32) ≤ M 34 0 4 then _ else _)) else _) = _
        rw [if_pos (inb_n (show c < 150 by omega) (by decide)), nI_clamp (show c < 2 ^ 31 by omega), if_neg (by rw [c36']; exact nle), if_pos (by rw [q2]; decide)]
      · unfold L_RX12_goes_42
        show (if inb (nI c) 80 = true then (if N 71 ((nI c).toNatClampNeg + 1) 1 ≤ nI x then _ else (if (240 : Int32) ≤ N 54 0 40 then _ else _)) else _) = _
        rw [if_pos (inb_n (show c < 80 by omega) (by decide)), nI_clamp (show c < 2 ^ 31 by omega), if_neg (by rw [m1']; exact nle), if_pos (by rw [q3]; decide)]
theorem ag2 {qc qd nb d v : Nat} {J K : List Rc} (hJ : rows2 qc qd nb d J) (hK : rows2 qc qd nb (d + 1) K) (hv : v ≤ 60) : rows2 qc qd nb (d + 1) ((4, v, J.length + 1) :: (J ++ K)) := by
  intro f g c M N fu fu' hf hg h1 h2 hc hnb hW hL
  rw [List.length_cons, List.length_append] at h1 h2 hc
  have ehi : c + ((4, v, J.length + 1) :: (J ++ K)).length = c + 1 + J.length + K.length := by rw [List.length_cons, List.length_append]; omega
  rw [ehi]
  obtain ⟨fu0, rfl⟩ : ∃ z, fu = z + 1 := ⟨fu - 1, by omega⟩
  obtain ⟨fu1, rfl⟩ : ∃ z, fu' = z + 1 := ⟨fu' - 1, by omega⟩
  by_cases hfull : ∃ q, q < 240 ∧ M 34 0 4 = nI q
  · obtain ⟨q, q1, q2⟩ := hfull
    have q3 : N 54 0 40 = nI q := by
      obtain ⟨g, -, g2, g3⟩ := hW.2.1
      rw [g3, ← g2, q2]
    obtain ⟨W1, a1, b1⟩ := WR_b hW q2 q1
    have L1 := LA_m hL a1 b1
    obtain ⟨⟨c35, c36, c37⟩, m0, m1, m2⟩ := hL 0 (by simp)
    rw [Nat.add_zero] at c35 c36 c37 m0 m1 m2
    have k35 : M 35 0 c = 4 := c35
    have k71 : N 71 (c + 1) 0 = 4 := m0
    have c37' : M 37 0 c = nI (c + 1 + J.length) := c37.trans (by show nI (c + (J.length + 1)) = _; rw [show c + (J.length + 1) = c + 1 + J.length by omega])
    have m2' : N 71 (c + 1) 2 = nI (c + 1 + J.length) := m2.trans (by show nI (c + (J.length + 1)) = _; rw [show c + (J.length + 1) = c + 1 + J.length by omega])
    have n1 : ¬ nI (c + 1 + J.length + K.length) ≤ nI c := nI_ge (by omega) (by omega)
    obtain ⟨M2, N2, r1, r2, W2, a2, b2⟩ := inn2 (K := K) (c := c) (f := f) (g := g) hJ hf hg hv (by rw [List.length_append]; omega) v 0 _ _ FU FU (by omega) (by rw [FU_eq]; omega) (by rw [FU_eq]; omega) (by rw [WR_nB (qc := qc) a1]; exact hnb) W1 L1
    have A2 := fr_tr a1 a2
    have B2 := nfr_tr b1 b2
    have bB : L_RX9_runRow_3 qc qd (rec_runRow qc qd f) (nI (c + 1 + J.length + K.length)) (nI c, M) = some (Sum.inl (nI (c + 1 + J.length), M2)) := by
      unfold L_RX9_runRow_3
      show (if nI (c + 1 + J.length + K.length) ≤ nI c then _ else (if (240 : Int32) ≤ M 34 0 4 then _ else (if inb (nI c) 150 = true then (if M 35 0 (nI c).toNatClampNeg = 4 then (Option.bind (wh (L_RX9_runRow_44 qc qd (rec_runRow qc qd f) (nI c)) FU (nI 0, am_u3 M 34 0 4 (M 34 0 4 + 1))) _) else _) else none))) = _
      rw [if_neg n1, if_neg (show ¬ (240 : Int32) ≤ M 34 0 4 by rw [q2]; exact nI_ge (b := 240) q1 (by decide)), if_pos (inb_n (show c < 150 by omega) (by decide)), nI_clamp (show c < 2 ^ 31 by omega), if_pos k35, q2, nI_1, r1]
      show some (Sum.inl (M2 37 0 c, M2)) = _
      rw [A2 37 (by decide), c37']
    have bN : L_RX12_goes_2 (rec_goes g) (nI (c + 1 + J.length + K.length)) (nI c, N) = some (Sum.inl (nI (c + 1 + J.length), N2)) := by
      unfold L_RX12_goes_2
      show (if nI (c + 1 + J.length + K.length) ≤ nI c then _ else (if (240 : Int32) ≤ N 54 0 40 then _ else (if inb (nI c) 80 = true then (if N 71 ((nI c).toNatClampNeg + 1) 0 = 4 then (Option.bind (wh (L_RX12_goes_42 (rec_goes g) (nI c)) FU (nI 0, am_u3 N 54 0 40 (N 54 0 40 + 1))) _) else _) else none))) = _
      rw [if_neg n1, if_neg (show ¬ (240 : Int32) ≤ N 54 0 40 by rw [q3]; exact nI_ge (b := 240) q1 (by decide)), if_pos (inb_n (show c < 80 by omega) (by decide)), nI_clamp (show c < 2 ^ 31 by omega), if_pos k71, q3, nI_1, r2]
      show some (Sum.inl (N2 71 (c + 1) 2, N2)) = _
      rw [B2.1 71 (by decide), m2']
    rw [wh_in bB, wh_in bN]
    have LK : LA (c + 1 + J.length) K M2 N2 := LA_r (LA_t (LA_m hL A2 B2))
    obtain ⟨M', N', s1, s2, s3, s4, s5⟩ := hK f g (c + 1 + J.length) M2 N2 fu0 fu1 hf hg (by omega) (by omega) (by omega) (by rw [WR_nB (qc := qc) A2]; exact hnb) W2 LK
    exact ⟨M', N', s1, s2, s3, fr_tr A2 s4, nfr_tr B2 s5⟩
  · obtain ⟨z1, z2⟩ := full2 (qd := qd) (r := rec_runRow qc qd f) (r' := rec_goes g) hW (show c < c + 1 + J.length + K.length by omega) (by omega) hfull
    exact ⟨M, N, wh_out z1, wh_out z2, hW, fr_rfl, nfr_rfl⟩
theorem run2 {qc qd nb d : Nat} {K : List Rc} (h : Blk nb d K) : rows2 qc qd nb d K :=
  h (fun d K => rows2 qc qd nb d K) (fun _ => nil2) (fun _ _ _ _ a b ih => one2 ih (Or.inl ⟨a, b⟩)) (fun _ _ ih => one2 ih (Or.inr rfl)) (fun _ _ _ _ a ih1 ih2 => ag2 ih1 ih2 a)
theorem runAll {qc qd nb : Nat} {K : List Rc} {M N : Mem} (h : Blk nb 6 K) (hl : K.length ≤ 70) (hnb : nB M = nb) (hW : WR qc M N) (hL : LA 0 K M N) : ∃ M' N', f_X9_runRow qc qd 0 (nI K.length) M = some M' ∧ f_X12_goes 0 (nI K.length) N = some N' ∧ WR qc M' N' ∧ cfr M M' ∧ nfr N N' := by
  obtain ⟨M', N', r1, r2, r3⟩ := run2 (qc := qc) (qd := qd) h 29 29 0 M N FU FU (by decide) (by decide) (by rw [FU_eq]; omega) (by rw [FU_eq]; omega) (by omega) hnb hW hL
  rw [Nat.zero_add] at r1 r2
  refine ⟨M', N', ?_, ?_, r3⟩
  · show Option.bind (wh (L_RX9_runRow_3 qc qd (rec_runRow qc qd 29) (nI K.length)) FU (nI 0, M)) _ = _
    rw [r1]; rfl
  · show Option.bind (wh (L_RX12_goes_2 (rec_goes 29) (nI K.length)) FU (nI 0, N)) _ = _
    rw [r2]; rfl
