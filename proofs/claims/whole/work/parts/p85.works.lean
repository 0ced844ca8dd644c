/-! WORKS: both run -/
theorem wh_in {S E : Type} {B : S → Option (S ⊕ E)} {n : Nat} {s s' : S} (h : B s = some (Sum.inl s')) : wh B (n + 1) s = wh B n s' := by
  show (match B s with | none => none | some (.inl s') => wh B n s' | some (.inr e) => some e) = _
  rw [h]
def WR (qc : Nat) (M N : Mem) : Prop := WB2 qc M N ∧ (∃ g, g ≤ 240 ∧ M 34 0 4 = nI g ∧ N 54 0 40 = nI g) ∧ M 34 0 5 = N 54 0 41 ∧ M 34 0 6 = N 54 0 36
def cfr (M M' : Mem) : Prop := fr [26, 27, 30, 34] M M'
def nfr (N N' : Mem) : Prop := fr [54, 69, 70, 72, 74] N N' ∧ ∀ j, j ∉ [36, 40, 41] → N' 54 0 j = N 54 0 j
theorem nfr_rfl {N : Mem} : nfr N N := ⟨fr_rfl, fun _ _ => rfl⟩
theorem nfr_tr {N N1 N2 : Mem} (a : nfr N N1) (b : nfr N1 N2) : nfr N N2 := ⟨fr_tr a.1 b.1, fun j hj => (b.2 j hj).trans (a.2 j hj)⟩
def LA (c : Nat) (K : List Rc) (M N : Mem) : Prop := ∀ i, i < K.length → (M 35 0 (c + i) = nI (K.getD i (0, 0, 0)).1 ∧ M 36 0 (c + i) = nI (K.getD i (0, 0, 0)).2.1 ∧ M 37 0 (c + i) = nI (c + i + (K.getD i (0, 0, 0)).2.2)) ∧ (N 71 (c + i + 1) 0 = nI (K.getD i (0, 0, 0)).1 ∧ ((K.getD i (0, 0, 0)).1 ≠ 3 → N 71 (c + i + 1) 1 = nI (K.getD i (0, 0, 0)).2.1) ∧ N 71 (c + i + 1) 2 = nI (c + i + (K.getD i (0, 0, 0)).2.2))
theorem LA_m {c : Nat} {K : List Rc} {M N M' N' : Mem} (h : LA c K M N) (a : cfr M M') (b : nfr N N') : LA c K M' N' := by
  unfold LA at *
  rw [a 35 (by decide), a 36 (by decide), a 37 (by decide), b.1 71 (by decide)]; exact h
theorem LA_l {c : Nat} {K K' : List Rc} {M N : Mem} (h : LA c (K ++ K') M N) : LA c K M N := fun i hi => by
  have := h i (by rw [List.length_append]; omega)
  rw [gD_l hi] at this; exact this
theorem LA_r {c : Nat} {K K' : List Rc} {M N : Mem} (h : LA c (K ++ K') M N) : LA (c + K.length) K' M N := fun i hi => by
  have := h (K.length + i) (by rw [List.length_append]; omega)
  rw [gD_r, ← Nat.add_assoc] at this; exact this
theorem LA_t {c : Nat} {r : Rc} {K : List Rc} {M N : Mem} (h : LA c (r :: K) M N) : LA (c + 1) K M N := LA_r (K := [r]) (K' := K) h
theorem WR_nB {qc : Nat} {M M' : Mem} (a : cfr M M') : nB M' = nB M := nB_fr (a 3 (by decide))
theorem cb4 : ∀ c, c ∈ bCells → c ∉ [26, 27, 30, 34] ∧ c ∉ [54, 69, 70, 72, 74] := by decide
theorem WB2_m {qc : Nat} {M N M' N' : Mem} (h : WB2 qc M N) (a : cfr M M') (b : nfr N N') (hs : SRk (nB M) (nG M) (M' 30 0) (N' 72 0)) : WB2 qc M' N' := by
  obtain ⟨h1, h2, h3, h4, h5⟩ := h
  have e3 : M' 3 = M 3 := a 3 (by decide)
  have eM : ∀ c, c ∈ bCells → M' c = M c := fun c hc => a c (cb4 c hc).1
  have e54 : M' 54 = M 54 := a 54 (by decide)
  refine ⟨base_c h1 eM (by rw [e54]), fun c hc => ?_, ?_, ?_, ?_⟩
  · rw [b.1 c (cb4 c hc).2, h2 c hc, eM c hc]
  · rw [b.2 19 (by decide), h3, e54]
  · rw [b.2 39 (by decide)]; exact h4
  · rw [nB_fr e3, nG_fr e3]; exact hs
theorem WR_b {qc g : Nat} {M N : Mem} (h : WR qc M N) (e1 : M 34 0 4 = nI g) (hg : g < 240) : WR qc (am_u3 M 34 0 4 (nI (g + 1))) (am_u3 N 54 0 40 (nI (g + 1))) ∧ cfr M (am_u3 M 34 0 4 (nI (g + 1))) ∧ nfr N (am_u3 N 54 0 40 (nI (g + 1))) := by
  have a : cfr M (am_u3 M 34 0 4 (nI (g + 1))) := fr_u3 fr_rfl (by decide)
  have b : nfr N (am_u3 N 54 0 40 (nI (g + 1))) := ⟨fr_u3 fr_rfl (by decide), fun j hj => u3_j (fun z => hj (by rw [z.2]; decide))⟩
  refine ⟨⟨WB2_m h.1 a b ?_, ⟨g + 1, by omega, u3_e _ _ _ _ _, u3_e _ _ _ _ _⟩, ?_, ?_⟩, a, b⟩
  · rw [u3_c (by decide), u3_c (by decide)]; exact h.1.2.2.2.2
  · rw [u3_j (by omega), u3_j (by omega)]; exact h.2.2.1
  · rw [u3_j (by omega), u3_j (by omega)]; exact h.2.2.2
abbrev rT1 : Type := Int32 → Int32 → Mem → Option Mem
/-- both rows, from here to their end -/
def rows2 (qc qd nb : Nat) (d : Nat) (K : List Rc) : Prop := ∀ (f g c : Nat) (M N : Mem) (fu fu' : Nat), d ≤ f → d ≤ g → K.length + 1 ≤ fu → K.length + 1 ≤ fu' → c + K.length ≤ 70 → nB M = nb → WR qc M N → LA c K M N → ∃ M' N', wh (L_RX9_runRow_3 qc qd (rec_runRow qc qd f) (nI (c + K.length))) fu (nI c, M) = some M' ∧ wh (L_RX12_goes_2 (rec_goes g) (nI (c + K.length))) fu' (nI c, N) = some N' ∧ WR qc M' N' ∧ cfr M M' ∧ nfr N N'
theorem full2 {qc qd hi c : Nat} {r r' : rT1} {M N : Mem} (h : WR qc M N) (hc : c < hi) (hh : hi ≤ 70) (hfull : ¬ ∃ g, g < 240 ∧ M 34 0 4 = nI g) : L_RX9_runRow_3 qc qd r (nI hi) (nI c, M) = some (Sum.inr M) ∧ L_RX12_goes_2 r' (nI hi) (nI c, N) = some (Sum.inr N) := by
  obtain ⟨g, g1, g2, g3⟩ := h.2.1
  have : g = 240 := by
    by_cases z : g < 240
    · exact absurd ⟨g, z, g2⟩ hfull
    · omega
  subst this
  have n1 : ¬ nI hi ≤ nI c := nI_ge hc (by omega)
  constructor
  · unfold L_RX9_runRow_3
    show (if nI hi ≤ nI c then _ else (if (240 : Int32) ≤ M 34 0 4 then _ else _)) = _
    rw [if_neg n1, g2, if_pos (by decide)]
  · unfold L_RX12_goes_2
    show (if nI hi ≤ nI c then _ else (if (240 : Int32) ≤ N 54 0 40 then _ else _)) = _
    rw [if_neg n1, g3, if_pos (by decide)]
/-- one STEP, then the rest -/
theorem one2 {qc qd nb d k v : Nat} {K : List Rc} (ih : rows2 qc qd nb d K) (hk : (k < 3 ∧ v < nb) ∨ k = 3) : rows2 qc qd nb d ((k, v, 1) :: K) := by
  intro f g c M N fu fu' hf hg h1 h2 hc hnb hW hL
  rw [List.length_cons] at h1 h2 hc
  have ehi : c + ((k, v, 1) :: K).length = c + 1 + K.length := by rw [List.length_cons]; omega
  rw [ehi]
  obtain ⟨fu0, rfl⟩ : ∃ z, fu = z + 1 := ⟨fu - 1, by omega⟩
  obtain ⟨fu1, rfl⟩ : ∃ z, fu' = z + 1 := ⟨fu' - 1, by omega⟩
  by_cases hfull : ∃ q, q < 240 ∧ M 34 0 4 = nI q
  · obtain ⟨q, q1, q2⟩ := hfull
    have q3 : N 54 0 40 = nI q := by
      obtain ⟨g, -, g2, g3⟩ := hW.2.1
      rw [g3, ← g2, q2]
    obtain ⟨W1, a1, b1⟩ := WR_b hW q2 q1
    have L1 := LA_m hL a1 b1
    obtain ⟨⟨c35, c36, c37⟩, m0, m1, m2⟩ := L1 0 (by simp)
    rw [Nat.add_zero] at c35 c36 c37 m0 m1 m2
    have n1 : ¬ nI (c + 1 + K.length) ≤ nI c := nI_ge (by omega) (by omega)
    have n4 : ¬ nI k = 4 := fun z => by have := (nI_eq (b := 4) (by omega) (by decide)).mp z; omega
    have k35 : M 35 0 c = nI k := by rw [← a1 35 (by decide)]; exact c35
    have k71 : N 71 (c + 1) 0 = nI k := by rw [← b1.1 71 (by decide)]; exact m0
    obtain ⟨x, M5, y, N5, e1, e2, e3, f5, g5, s5⟩ := both1 (qd := qd) W1.1 (i := c) (k := k) (v := v) (by omega) c35 c36 m0 m1 (by rw [WR_nB (qc := qc) a1, hnb]; exact hk)
    have f5' : cfr M M5 := fr_tr a1 (fr_mono f5 (by decide))
    have g5' : nfr N N5 := nfr_tr b1 ⟨fr_mono g5 (by decide), fun j _ => by rw [g5 54 (by decide)]⟩
    have e37 : M5 37 0 c = nI (c + 1) := by rw [f5 37 (by decide)]; exact c37
    have e712 : N5 71 (c + 1) 2 = nI (c + 1) := by rw [g5 71 (by decide)]; exact m2
    have s5' : SRk (nB M) (nG M) (M5 30 0) (N5 72 0) := by
      have e3 : (am_u3 M 34 0 4 (nI (q + 1))) 3 = M 3 := a1 3 (by decide)
      rw [nB_fr e3, nG_fr e3] at s5; exact s5
    have bB : L_RX9_runRow_3 qc qd (rec_runRow qc qd f) (nI (c + 1 + K.length)) (nI c, M) = some (Sum.inl (nI (c + 1), if x = 0 then am_u3 M5 34 0 6 (M5 34 0 6 + 1) else am_u3 M5 34 0 5 (M5 34 0 5 + 1))) := by
      unfold L_RX9_runRow_3
      show (if nI (c + 1 + K.length) ≤ nI c then _ else (if (240 : Int32) ≤ M 34 0 4 then _ else (if inb (nI c) 150 = true then (if M 35 0 (nI c).toNatClampNeg = 4 then _ else (Option.bind (f_X9_isDone qc qd (nI c) (am_u3 M 34 0 4 (M 34 0 4 + 1))) _)) else none))) = _
      rw [if_neg n1, if_neg (show ¬ (240 : Int32) ≤ M 34 0 4 by rw [q2]; exact nI_ge (b := 240) q1 (by decide)), if_pos (inb_n (show c < 150 by omega) (by decide)), nI_clamp (show c < 2 ^ 31 by omega), if_neg (by rw [k35]; exact n4), q2, nI_1, e1]
      show (if x = 0 then some (Sum.inl (M5 37 0 c, am_u3 M5 34 0 6 (M5 34 0 6 + 1))) else some (Sum.inl (M5 37 0 c, am_u3 M5 34 0 5 (M5 34 0 5 + 1)))) = _
      rw [e37]
      by_cases hx : x = 0
      · rw [if_pos hx, if_pos hx]
      · rw [if_neg hx, if_neg hx]
    have bN : L_RX12_goes_2 (rec_goes g) (nI (c + 1 + K.length)) (nI c, N) = some (Sum.inl (nI (c + 1), if x = 0 then am_u3 (am_u3 N5 54 0 41 (N5 54 0 41 + 0)) 54 0 36 (N5 54 0 36 + 1) else am_u3 (am_u3 N5 54 0 41 (N5 54 0 41 + 1)) 54 0 36 (N5 54 0 36 + 0))) := by
      unfold L_RX12_goes_2
      show (if nI (c + 1 + K.length) ≤ nI c then _ else (if (240 : Int32) ≤ N 54 0 40 then _ else (if inb (nI c) 80 = true then (if N 71 ((nI c).toNatClampNeg + 1) 0 = 4 then _ else (Option.bind (f_X12_does ((nI c).toNatClampNeg + 1) (am_u3 N 54 0 40 (N 54 0 40 + 1))) _)) else none))) = _
      rw [if_neg n1, if_neg (show ¬ (240 : Int32) ≤ N 54 0 40 by rw [q3]; exact nI_ge (b := 240) q1 (by decide)), if_pos (inb_n (show c < 80 by omega) (by decide)), nI_clamp (show c < 2 ^ 31 by omega), if_neg (by rw [k71]; exact n4), q3, nI_1, e2]
      show (if y = 0 then some (Sum.inl (N5 71 (c + 1) 2, am_u3 (am_u3 N5 54 0 41 (N5 54 0 41 + 0)) 54 0 36 (N5 54 0 36 + 1))) else some (Sum.inl (N5 71 (c + 1) 2, am_u3 (am_u3 N5 54 0 41 (N5 54 0 41 + 1)) 54 0 36 (N5 54 0 36 + 0)))) = _
      rw [e712]
      by_cases hx : x = 0
      · rw [if_pos (e3.mp hx), if_pos hx]
      · rw [if_neg (fun z => hx (e3.mpr z)), if_neg hx]
    rw [wh_in bB, wh_in bN]
    have o5 : M5 34 = (am_u3 M 34 0 4 (nI (q + 1))) 34 := f5 34 (by decide)
    have p5 : N5 54 = (am_u3 N 54 0 40 (nI (q + 1))) 54 := g5 54 (by decide)
    have fin : ∀ M6 N6, cfr M5 M6 → nfr N5 N6 → M6 30 = M5 30 → N6 72 = N5 72 → M6 34 0 4 = M5 34 0 4 → N6 54 0 40 = N5 54 0 40 → M6 34 0 5 = N6 54 0 41 → M6 34 0 6 = N6 54 0 36 → ∃ M' N', wh (L_RX9_runRow_3 qc qd (rec_runRow qc qd f) (nI (c + 1 + K.length))) fu0 (nI (c + 1), M6) = some M' ∧ wh (L_RX12_goes_2 (rec_goes g) (nI (c + 1 + K.length))) fu1 (nI (c + 1), N6) = some N' ∧ WR qc M' N' ∧ cfr M M' ∧ nfr N N' := by
      intro M6 N6 a6 b6 t1 t2 t3 t4 t5 t6
      have A6 := fr_tr f5' a6
      have B6 := nfr_tr g5' b6
      have W6 : WR qc M6 N6 := ⟨WB2_m hW.1 A6 B6 (by rw [t1, t2]; exact s5'), ⟨q + 1, by omega, by rw [t3, o5, u3_e], by rw [t4, p5, u3_e]⟩, t5, t6⟩
      obtain ⟨M', N', r1, r2, r3, r4, r5⟩ := ih f g (c + 1) M6 N6 fu0 fu1 hf hg (by omega) (by omega) (by omega) (by rw [WR_nB (qc := qc) A6]; exact hnb) W6 (LA_t (LA_m hL A6 B6))
      exact ⟨M', N', r1, r2, r3, fr_tr A6 r4, nfr_tr B6 r5⟩
    have u1 : M5 34 0 5 = N5 54 0 41 := by rw [o5, p5]; exact W1.2.2.1
    have u2 : M5 34 0 6 = N5 54 0 36 := by rw [o5, p5]; exact W1.2.2.2
    by_cases hx : x = 0
    · rw [if_pos hx, if_pos hx]
      refine fin _ _ (fr_u3 fr_rfl (by decide)) ⟨fr_u3 (fr_u3 fr_rfl (by decide)) (by decide), fun j hj => ?_⟩ (u3_c (by decide)) (by rw [u3_c (by decide), u3_c (by decide)]) (u3_j (by omega)) (by rw [u3_j (by omega), u3_j (by omega)]) ?_ ?_
      · rw [u3_j (fun z => hj (by rw [z.2]; decide)), u3_j (fun z => hj (by rw [z.2]; decide))]
      · rw [u3_j (by omega), u3_j (by omega), u3_e, u1, add00]
      · rw [u3_e, u3_e, u2]
    · rw [if_neg hx, if_neg hx]
      refine fin _ _ (fr_u3 fr_rfl (by decide)) ⟨fr_u3 (fr_u3 fr_rfl (by decide)) (by decide), fun j hj => ?_⟩ (u3_c (by decide)) (by rw [u3_c (by decide), u3_c (by decide)]) (u3_j (by omega)) (by rw [u3_j (by omega), u3_j (by omega)]) ?_ ?_
      · rw [u3_j (fun z => hj (by rw [z.2]; decide)), u3_j (fun z => hj (by rw [z.2]; decide))]
      · rw [u3_e, u3_j (by omega), u3_e, u1]
      · rw [u3_j (by omega), u3_e, u2, add00]
  · obtain ⟨z1, z2⟩ := full2 (qd := qd) (r := rec_runRow qc qd f) (r' := rec_goes g) hW (show c < c + 1 + K.length by omega) (by omega) hfull
    exact ⟨M, N, wh_out z1, wh_out z2, hW, fr_rfl, nfr_rfl⟩
theorem nil2 {qc qd nb d : Nat} : rows2 qc qd nb d [] := by
  intro f g c M N fu fu' hf hg h1 h2 hc hnb hW hL
  obtain ⟨fu0, rfl⟩ : ∃ z, fu = z + 1 := ⟨fu - 1, by omega⟩
  obtain ⟨fu1, rfl⟩ : ∃ z, fu' = z + 1 := ⟨fu' - 1, by omega⟩
  have hle : nI (c + ([] : List Rc).length) ≤ nI c := nI_le (by simp) (by simp at hc; omega)
  refine ⟨M, N, wh_out ?_, wh_out ?_, hW, fr_rfl, nfr_rfl⟩
  · unfold L_RX9_runRow_3
    show (if nI (c + ([] : List Rc).length) ≤ nI c then _ else _) = _
    rw [if_pos hle]
  · unfold L_RX12_goes_2
    show (if nI (c + ([] : List Rc).length) ≤ nI c then _ else _) = _
    rw [if_pos hle]
