/-! LAWS: the model reads -/
def k8 : List Nat := [4, 5, 6, 8, 20]
def mlv (M M' : Mem) : Prop := fr [54, 66] M M' ∧ ∀ j, j ∉ k8 → M' 54 0 j = M 54 0 j
theorem mlv_rfl {M : Mem} : mlv M M := ⟨fr_rfl, fun _ _ => rfl⟩
theorem mlv_tr {M M1 M2 : Mem} (a : mlv M M1) (b : mlv M1 M2) : mlv M M2 := ⟨fr_tr a.1 b.1, fun j hj => (b.2 j hj).trans (a.2 j hj)⟩
theorem k456k8 : ∀ j, j ∈ k456 → j ∈ k8 := by decide
theorem mlv_m {M M' : Mem} (a : mmv M M') : mlv M M' := ⟨fr_mono a.1 (by decide), fun j hj => a.2 j (fun z => hj (k456k8 j z))⟩
theorem mlv_u {M M' : Mem} {j : Nat} {v : Int32} (a : mlv M M') (h : j ∈ k8) : mlv M (am_u3 M' 54 0 j v) := ⟨fr_u3 a.1 (by decide), fun i hi => (u3_j (fun z => hi (by rw [z.2]; exact h))).trans (a.2 i hi)⟩
def DRm (L : List Nat) (M : Mem) : Prop := M 54 0 20 = nI L.length ∧ ∀ i, i < L.length → mrel (nI (L.getD i 0)) (M 66 (i + 1) 0) (M 66 (i + 1) 1)
def MD (m : Nat) (L : List Nat) (M : Mem) : Prop := M 54 0 8 = nI m ∧ DRm L M
theorem MD_m {m : Nat} {L : List Nat} {M M' : Mem} (h : MD m L M) (a : mmv M M') : MD m L M' := by
  unfold MD DRm at *
  rw [a.2 8 (by decide), a.2 20 (by decide), a.1 66 (by decide)]; exact h
def LPm (T : Nat → Nat) (n m : Nat) (L0 : List Nat) (x : RLq) (M : Mem) : Prop := match x with
  | Sum.inl y => MS T n y.1 M ∧ MD m (L0 ++ y.2) M
  | Sum.inr f => MF T n f.1 f.2 M
def mSp (T : Nat → Nat) (n : Nat) (F : Mem → Option Mem) (m : Nat) (P : Nat → RLq) : Prop := ∀ p M L0, MS T n p M → MD m L0 M → L0.length ≤ p → ok (F M) (fun M' => mlv M M' ∧ LPm T n m L0 (P p) M')
def mDd (F : Mem → Option Mem) : Prop := ∀ M, ¬ M 54 0 5 = 0 → F M = some M
theorem notes_F {w v : Int32} {M : Mem} (h : ¬ M 54 0 5 = 0) : f_X12_notes w v M = some M := by unfold f_X12_notes; rw [if_neg h]
theorem m_notes {T : Nat → Nat} {n p m c : Nat} {w v : Int32} {L : List Nat} {M : Mem} (h : MS T n p M) (d : MD m L M) (hl : L.length < 160) (hm : mrel (nI c) w v) : ok (f_X12_notes w v M) (fun M' => mlv M M' ∧ MS T n p M' ∧ MD m (L ++ [c]) M') := by
  obtain ⟨d8, d20, dr⟩ := d
  unfold f_X12_notes
  refine ok_ifp h.2.2.2 (ok_ifp (by rw [d20]; exact inb_n hl (by decide)) (ok_some ?_))
  rw [d20, nI_clamp (show L.length < 2 ^ 31 by omega), nI_1]
  refine ⟨⟨fr_u3 (fr_u3 (fr_u3 fr_rfl (by decide)) (by decide)) (by decide), fun j hj => ?_⟩, ?_, ?_, ?_, fun i hi => ?_⟩
  · rw [u3_j (fun z => hj (by rw [z.2]; decide)), u3_c (by decide), u3_c (by decide)]
  · obtain ⟨⟨h1, h2, h3, h4⟩, h5, h6, h7⟩ := h
    refine ⟨⟨?_, h2, ?_, ?_⟩, h5, ?_, ?_⟩
    · rw [u3_j (by omega), u3_c (by decide), u3_c (by decide)]; exact h1
    · rw [u3_j (by omega), u3_c (by decide), u3_c (by decide)]; exact h3
    · rw [u3_c (by decide), u3_c (by decide), u3_c (by decide)]; exact h4
    · rw [u3_j (by omega), u3_c (by decide), u3_c (by decide)]; exact h6
    · rw [u3_j (by omega), u3_c (by decide), u3_c (by decide)]; exact h7
  · rw [u3_j (by omega), u3_c (by decide), u3_c (by decide)]; exact d8
  · rw [u3_e]; simp
  · have hi2 : i < L.length + 1 := by simpa using hi
    rw [u3_c (by decide)]
    by_cases e : i = L.length
    · rw [e, u3_j (by omega), u3_e, u3_e, show (L ++ [c]).getD L.length 0 = c by simp]
      exact hm
    · rw [u3_j (by omega), u3_j (by omega), u3_j (by omega), u3_j (by omega), getD_l (by omega)]
      exact dr i (by omega)
theorem mD_e {T : Nat → Nat} {n m c : Nat} {L0 : List Nat} {X : RLq} {M : Mem} (hc : c < 256) (h : LPm T n m L0 X M) (hg : gX L0 X) : ok (f_X12_sign (nI c) M) (fun M' => mlv M M' ∧ LPm T n m L0 (xE T n c X) M' ∧ gX L0 (xE T n c X)) := by
  rcases X with x | f
  · obtain ⟨s, d⟩ := h
    have g := hg x rfl
    refine ok_mono (m_sign s hc) ?_
    rintro M' ⟨r, m⟩
    have e0 : xE T n c (Sum.inl x) = bd (exq T n c x.1) (fun e => Sum.inl (e, x.2)) := rfl
    rw [e0]
    generalize he : exq T n c x.1 = Y at r
    rcases Y with e | f
    · have g2 := exq_f s.2.1 he
      refine ⟨mlv_m m, ⟨r, MD_m d m⟩, fun z hz => ?_⟩
      injection hz with hz
      subst hz
      show L0.length + x.2.length + 1 ≤ e
      omega
    · exact ⟨mlv_m m, r, fun z hz => by cases hz⟩
  · rw [m_signF h]
    exact ok_some ⟨mlv_rfl, h, fun z hz => by cases hz⟩
theorem mD_s {T : Nat → Nat} {n m : Nat} {L0 : List Nat} {X : RLq} {M : Mem} {rS : Mem → Option Mem} {S : Nat → RLq} (hS : mSp T n rS m S) (hd : mDd rS) (so : rOK n S) (h : LPm T n m L0 X M) (hg : gX L0 X) : ok (rS M) (fun M' => mlv M M' ∧ LPm T n m L0 (xS S X) M' ∧ gX L0 (xS S X)) := by
  rcases X with x | f
  · obtain ⟨s, d⟩ := h
    have g := hg x rfl
    refine ok_mono (hS x.1 M (L0 ++ x.2) s d (by rw [List.length_append]; omega)) ?_
    rintro M' ⟨m, r⟩
    have e0 : xS S (Sum.inl x) = bd (S x.1) (fun y => Sum.inl (y.1, x.2 ++ y.2)) := rfl
    rw [e0]
    generalize he : S x.1 = Y at r
    rcases Y with y | f
    · have g2 := so x.1 y.1 y.2 s.2.1 he
      refine ⟨m, ⟨r.1, by rw [← List.append_assoc]; exact r.2⟩, fun z hz => ?_⟩
      injection hz with hz
      subst hz
      show L0.length + (x.2 ++ y.2).length + 1 ≤ y.1
      rw [List.length_append]; omega
    · exact ⟨m, r, fun z hz => by cases hz⟩
  · rw [hd M (MF_ne h)]
    exact ok_some ⟨mlv_rfl, h, fun z hz => by cases hz⟩
theorem mD_a {T : Nat → Nat} {n m c : Nat} {w v : Int32} {L0 : List Nat} {X : RLq} {M : Mem} (hn : n ≤ 150) (hm : mrel (nI c) w v) (h : LPm T n m L0 X M) (hg : gX L0 X) : ok (f_X12_notes w v M) (fun M' => mlv M M' ∧ LPm T n m L0 (xA c X) M') := by
  rcases X with x | f
  · obtain ⟨s, d⟩ := h
    have g := hg x rfl
    have hx := s.2.1
    refine ok_mono (m_notes s d (by rw [List.length_append]; omega) hm) ?_
    rintro M' ⟨m, r1, r2⟩
    refine ⟨m, r1, ?_⟩
    rw [← List.append_assoc]; exact r2
  · rw [notes_F (MF_ne h)]
    exact ok_some ⟨mlv_rfl, h⟩
theorem MS_u8 {T : Nat → Nat} {n p : Nat} {v : Int32} {M : Mem} (h : MS T n p M) : MS T n p (am_u3 M 54 0 8 v) := by
  obtain ⟨⟨h1, h2, h3, h4⟩, h5, h6, h7⟩ := h
  exact ⟨⟨(u3_j (by omega)).trans h1, h2, (u3_j (by omega)).trans h3, h4⟩, h5, (u3_j (by omega)).trans h6, (u3_j (by omega)).trans h7⟩
theorem MF_u8 {T : Nat → Nat} {n k q : Nat} {v : Int32} {M : Mem} (h : MF T n k q M) : MF T n k q (am_u3 M 54 0 8 v) := by
  obtain ⟨⟨h1, h2, h3, h4⟩, h5, h6, h7, p, hp, h8⟩ := h
  exact ⟨⟨(u3_j (by omega)).trans h1, h2, (u3_j (by omega)).trans h3, h4⟩, (u3_j (by omega)).trans h5, h6, (u3_j (by omega)).trans h7, p, hp, (u3_j (by omega)).trans h8⟩
theorem MD_u8 {m m' : Nat} {L : List Nat} {M : Mem} (h : MD m L M) : MD m' L (am_u3 M 54 0 8 (nI m')) := by
  obtain ⟨d8, d20, dr⟩ := h
  exact ⟨u3_e _ _ _ _ _, (u3_j (by omega)).trans d20, dr⟩
theorem mD_d {T : Nat → Nat} {n m : Nat} {L0 : List Nat} {X : RLq} {M : Mem} (h : LPm T n (m + 1) L0 X M) : mlv M (am_u3 M 54 0 8 (M 54 0 8 - 1)) ∧ LPm T n m L0 X (am_u3 M 54 0 8 (M 54 0 8 - 1)) := by
  refine ⟨mlv_u mlv_rfl (by decide), ?_⟩
  rcases X with x | f
  · obtain ⟨s, d⟩ := h
    refine ⟨MS_u8 s, ?_⟩
    rw [d.1, nI_sub1 (by omega)]
    exact MD_u8 d
  · exact MF_u8 h
def deeM (T : Nat → Nat) (n m : Nat) (rS : Mem → Option Mem) (S : Option (Nat → RLq)) : Prop := (m = 6 ∧ S = none) ∨ (m < 6 ∧ ∃ S', S = some S' ∧ mSp T n rS (m + 1) S' ∧ rOK n S')
theorem opn_6 {T : Nat → Nat} {n p : Nat} {L : List Nat} {M : Mem} (h : MS T n p M) (d : MD 6 L M) : (f_X12_opensOne M).1 = 0 ∧ MF T n 3 p (f_X12_opensOne M).2 ∧ mmv M (f_X12_opensOne M).2 := by
  have b := MS_b (k := 3) (q := p) h (by decide)
  unfold f_X12_opensOne
  rw [if_pos h.2.2.2, d.1, if_pos (by decide), h.2.2.1]
  have : ¬ (f_X12_wrong 3 (nI p) M) 54 0 5 = 0 := MF_ne b.1
  rw [if_neg this]
  exact ⟨rfl, b.1, b.2.1⟩
theorem opn_m {T : Nat → Nat} {n p m : Nat} {L : List Nat} {M : Mem} (h : MS T n p M) (d : MD m L M) (hm : m < 6) : f_X12_opensOne M = (1, am_u3 M 54 0 8 (nI (m + 1))) := by
  unfold f_X12_opensOne
  rw [if_pos h.2.2.2, d.1, if_neg (show ¬ nI m = 6 from fun z => by have := (nI_eq (b := 6) (by omega) (by decide)).mp z; omega), nI_1]
def fnS (T : Nat → Nat) (n c q : Nat) (S : Option (Nat → RLq)) : RLq := match S with
  | none => Sum.inr (3, q)
  | some S => xA c (xE T n 93 (xS S (xE T n 44 (xS S (xE T n 91 (Sum.inl (lE T n q, [])))))))
theorem m_fn {T : Nat → Nat} {n m q c : Nat} {w : Int32} {rS : Mem → Option Mem} {S : Option (Nat → RLq)} {L0 : List Nat} {M : Mem} (hn : n ≤ 150) (hS : deeM T n m rS S) (hd : mDd rS) (h : MS T n q M) (d : MD m L0 M) (hl : L0.length + 1 ≤ lE T n q) (hm : mrel (nI c) w 0) : ok (if ((f_X12_opensOne M).1) = 0 then some ((f_X12_opensOne M).2) else (Option.bind (f_X12_skipWord (f_X12_opensOne M).2) (fun (M26 : Mem) => (Option.bind (f_X12_sign (91 : Int32) M26) (fun (M27 : Mem) => (Option.bind (rS M27) (fun (M28 : Mem) => (Option.bind (f_X12_sign (44 : Int32) M28) (fun (M29 : Mem) => (Option.bind (rS M29) (fun (M30 : Mem) => (Option.bind (f_X12_sign (93 : Int32) M30) (fun (M31 : Mem) => (Option.bind (f_X12_notes w (0 : Int32) M31) (fun (M32 : Mem) => some (am_u3 M32 54 0 8 ((M32 54 0 8) - (1 : Int32)))))))))))))))))) (fun M' => mlv M M' ∧ LPm T n m L0 (fnS T n c q S) M') := by
  rcases hS with ⟨rfl, rfl⟩ | ⟨hm6, S', rfl, hS', so⟩
  · obtain ⟨n1, n2, n3⟩ := opn_6 h d
    exact ok_ifp n1 (ok_some ⟨mlv_m n3, n2⟩)
  · rw [opn_m h d hm6]
    refine ok_ifn (show ¬ (1 : Int32) = 0 by decide) ?_
    have s1 : MS T n q (am_u3 M 54 0 8 (nI (m + 1))) := MS_u8 h
    have d1 : MD (m + 1) L0 (am_u3 M 54 0 8 (nI (m + 1))) := MD_u8 d
    have v1 : mlv M (am_u3 M 54 0 8 (nI (m + 1))) := mlv_u mlv_rfl (by decide)
    generalize am_u3 M 54 0 8 (nI (m + 1)) = M1 at s1 d1 v1
    refine ok_bindE (m_skipW s1.1 s1.2.1 s1.2.2.1) ?_
    have mv2 : mmv M1 (am_u3 M1 54 0 4 (nI (lE T n q))) := mmv_u mmv_rfl (by decide)
    have hle := lE_f (T := T) s1.2.1
    have st : LPm T n (m + 1) L0 (Sum.inl (lE T n q, [])) (am_u3 M1 54 0 4 (nI (lE T n q))) := ⟨⟨MT_m s1.1 mv2, hle.2.1, u3_e _ _ _ _ _, (u3_j (by omega)).trans s1.2.2.2⟩, by rw [List.append_nil]; exact MD_m d1 mv2⟩
    refine ok_bind (mD_e (c := 91) (by decide) st (fun x hx => by injection hx with hx; subst hx; simp; omega)) ?_
    rintro M4 ⟨m4, l4, g4⟩
    refine ok_bind (mD_s hS' hd so l4 g4) ?_
    rintro M5 ⟨m5, l5, g5⟩
    refine ok_bind (mD_e (c := 44) (by decide) l5 g5) ?_
    rintro M6 ⟨m6, l6, g6⟩
    refine ok_bind (mD_s hS' hd so l6 g6) ?_
    rintro M7 ⟨m7, l7, g7⟩
    refine ok_bind (mD_e (c := 93) (by decide) l7 g7) ?_
    rintro M8 ⟨m8, l8, g8⟩
    refine ok_bind (mD_a (c := c) hn hm l8 g8) ?_
    rintro M9 ⟨m9, l9⟩
    obtain ⟨m10, l10⟩ := mD_d l9
    exact ok_some ⟨mlv_tr v1 (mlv_tr (mlv_m mv2) (mlv_tr m4 (mlv_tr m5 (mlv_tr m6 (mlv_tr m7 (mlv_tr m8 (mlv_tr m9 m10))))))), l10⟩
/-- words -/
def nm8 : List (List Nat) := [[104, 111, 117, 114], [100, 97, 121], [98, 111, 97, 114, 100], [99, 108, 101, 97, 114], [98, 101, 97, 114, 115], [100, 114, 97, 105, 110, 115], [102, 105, 115, 104], [102, 105, 110, 101, 100]]
theorem wI_m {T : Nat → Nat} {q e : Nat} : ∀ {ws : List (List Nat)} {j : Nat}, j + ws.length < 2 ^ 31 → wI T q e ws j = -1 → ∀ i, i < ws.length → eqw (ws.getD i []) T q e = false
  | [], _, _, _, i, hi => by cases hi
  | w :: ws, j, hj, h, i, hi => by
    unfold wI at h
    cases hz : eqw w T q e
    · rw [hz, if_neg (by decide)] at h
      cases i with
      | zero => exact hz
      | succ i => exact wI_m (by simp at hj; omega) h i (by simpa using hi)
    · rw [hz, if_pos rfl] at h
      exact absurd h (nI_m1 (by simp at hj; omega))
theorem nm4_u : ∀ i, i < 10 → ∀ k, k < 10 → nm4.getD i [] = nm4.getD k [] → i = k := by decide +kernel
theorem nm8_4 : ∀ i, i < 8 → nm8.getD i [] = nm4.getD i [] := by decide +kernel
theorem nm4_a : ∀ k, k < 10 → 97 ≤ (nm4.getD k []).getD 0 0 ∧ (nm4.getD k []).getD 0 0 ≤ 122 := by decide +kernel
theorem w4_s {T : Nat → Nat} {q e k : Nat} (hk : k < 10) (h : eqw (nm4.getD k []) T q e = true) : wI T q e nm4 0 = nI k := by
  rcases wI_b T q e nm4 0 (by decide) with z | ⟨i, i1, i2, i3⟩
  · have := wI_m (by decide) z k hk
    rw [h] at this; cases this
  · rw [i2, Nat.zero_add, nm4_u i i1 k hk (eqw_u i3 h)]
theorem w4_a {T : Nat → Nat} {q e k : Nat} (hk : k < 10) (h : eqw (nm4.getD k []) T q e = true) : 97 ≤ T q ∧ q + 3 ≤ e := by
  obtain ⟨a, b⟩ := eqw_iff.mp h
  have := nm4_l k hk
  have h0 := b 0 (by omega)
  rw [Nat.add_zero] at h0
  rw [h0]
  exact ⟨(nm4_a k hk).1, by omega⟩
theorem w8_4 {T : Nat → Nat} {q e : Nat} (h8 : eqw [108, 101, 97, 115, 116] T q e = false) (h9 : eqw [109, 111, 115, 116] T q e = false) : (wI T q e nm8 0 = -1 ∧ wI T q e nm4 0 = -1) ∨ ∃ k, k < 8 ∧ wI T q e nm8 0 = nI k ∧ eqw (nm4.getD k []) T q e = true := by
  rcases wI_b T q e nm8 0 (by decide) with z | ⟨i, i1, i2, i3⟩
  · refine Or.inl ⟨z, ?_⟩
    rcases wI_b T q e nm4 0 (by decide) with y | ⟨i, i1, i2, i3⟩
    · exact y
    · have i10 : i < 10 := i1
      have : i < 8 ∨ i = 8 ∨ i = 9 := by omega
      rcases this with a | rfl | rfl
      · have := wI_m (by decide) z i a
        rw [nm8_4 i a, i3] at this; cases this
      · rw [show nm4.getD 8 [] = [108, 101, 97, 115, 116] from rfl, h8] at i3; cases i3
      · rw [show nm4.getD 9 [] = [109, 111, 115, 116] from rfl, h9] at i3; cases i3
  · rw [Nat.zero_add] at i2
    exact Or.inr ⟨i, i1, i2, by rw [← nm8_4 i i1]; exact i3⟩
theorem m_tk {T : Nat → Nat} {n p : Nat} {w : List Nat} {a b c d e f : Int32} {M : Mem} (h : MS T n p M) (hp : sk T n p = p) (hw : ∀ i, i < w.length → 97 ≤ w.getD i 0 ∧ w.getD i 0 ≤ 122) (hl : w.length ≤ 6) (hs : f_X12_six a b c d e f = nI (cdf (wl1 w) w.length)) : f_X12_takes a b c d e f M = some (if eqw w T p (lE T n p) = true then 1 else 0, if eqw w T p (lE T n p) = true then am_u3 M 54 0 4 (nI (lE T n p)) else M) := by
  unfold f_X12_takes
  rw [m_isWord h hw hl hs, hp, u3_self h.2.2.1.symm]
  cases hz : eqw w T p (lE T n p)
  · rfl
  · show (Option.bind (f_X12_skipWord M) _) = _
    rw [m_skipW h.1 h.2.1 h.2.2.1]
    rfl
theorem m_known {T : Nat → Nat} {n p : Nat} {M : Mem} (h : MS T n p M) (hp : sk T n p = p) : f_X12_knownHere M = some (wI T p (lE T n p) nm8 0, if wI T p (lE T n p) nm8 0 = -1 then M else am_u3 M 54 0 4 (nI (lE T n p))) := by
  unfold f_X12_knownHere nm8 wI wI wI wI wI wI wI wI wI
  rw [m_tk (w := [104, 111, 117, 114]) h hp (by decide) (by decide) (by decide)]
  cases h0 : eqw [104, 111, 117, 114] T p (lE T n p)
  case true => rfl
  simp only [Option.bind, Bool.false_eq_true, if_false, if_true]
  rw [m_tk (w := [100, 97, 121]) h hp (by decide) (by decide) (by decide)]
  cases h1 : eqw [100, 97, 121] T p (lE T n p)
  case true => rfl
  simp only [Bool.false_eq_true, if_false, if_true]
  rw [m_tk (w := [98, 111, 97, 114, 100]) h hp (by decide) (by decide) (by decide)]
  cases h2 : eqw [98, 111, 97, 114, 100] T p (lE T n p)
  case true => rfl
  simp only [Bool.false_eq_true, if_false, if_true]
  rw [m_tk (w := [99, 108, 101, 97, 114]) h hp (by decide) (by decide) (by decide)]
  cases h3 : eqw [99, 108, 101, 97, 114] T p (lE T n p)
  case true => rfl
  simp only [Bool.false_eq_true, if_false, if_true]
  rw [m_tk (w := [98, 101, 97, 114, 115]) h hp (by decide) (by decide) (by decide)]
  cases h4 : eqw [98, 101, 97, 114, 115] T p (lE T n p)
  case true => rfl
  simp only [Bool.false_eq_true, if_false, if_true]
  rw [m_tk (w := [100, 114, 97, 105, 110, 115]) h hp (by decide) (by decide) (by decide)]
  cases h5 : eqw [100, 114, 97, 105, 110, 115] T p (lE T n p)
  case true => rfl
  simp only [Bool.false_eq_true, if_false, if_true]
  rw [m_tk (w := [102, 105, 115, 104]) h hp (by decide) (by decide) (by decide)]
  cases h6 : eqw [102, 105, 115, 104] T p (lE T n p)
  case true => rfl
  simp only [Bool.false_eq_true, if_false, if_true]
  rw [m_tk (w := [102, 105, 110, 101, 100]) h hp (by decide) (by decide) (by decide)]
  cases h7 : eqw [102, 105, 110, 101, 100] T p (lE T n p)
  · rfl
  · rfl
theorem mrel_n {v : Nat} (hv : v ≤ 1000) : mrel (nI (15 + v)) 0 (nI v) := by
  refine Or.inl ⟨rfl, nI_le (a := 15) (by omega) (by omega), ?_⟩
  rw [show (15 : Int32) = nI 15 from rfl, nI_sub (by omega), show 15 + v - 15 = v by omega]
theorem mrel_k {k : Nat} (hk : k < 8) : mrel (nI k) 1 (nI k) := Or.inr (Or.inl ⟨rfl, nI_pos' (by omega), nI_lt (b := 8) hk (by decide), rfl⟩)
theorem m_one {T : Nat → Nat} {n m : Nat} {rS rP rU : Mem → Option Mem} {S : Option (Nat → RLq)} (hn : n ≤ 150) (hS : deeM T n m rS S) (hd : mDd rS) : mSp T n (f_RX12_one rS rP rU) m (unP T n S) := by
  intro p M L0 h hD hl
  have hs := sk_f (T := T) h.2.1
  obtain ⟨s1, mv1, -⟩ := m_again h
  have d1 := MD_m hD mv1
  have hq2 := sk_sk (T := T) h.2.1
  unfold f_RX12_one
  refine ok_ifp h.2.2.2 (ok_bindE (m_blanks h.1 h.2.1 h.2.2.1) ?_)
  have eun : unP T n S p = unP T n S (sk T n p) := by unfold unP; rw [num_sk h.2.1, wrd_sk h.2.1, hq2]
  rw [eun]
  generalize am_u3 M 54 0 4 (nI (sk T n p)) = M2 at s1 mv1 d1
  have hl2 : L0.length ≤ sk T n p := by omega
  clear eun
  generalize sk T n p = q at s1 hq2 hl2
  have hle := lE_f (T := T) s1.2.1
  refine ok_bindE (m_isWord (w := [108, 101, 97, 115, 116]) s1 (by decide) (by decide) (by decide)) ?_
  rw [hq2, u3_self s1.2.2.1.symm]
  have fnE : ∀ k, k < 10 → 8 ≤ k → eqw (nm4.getD k []) T q (lE T n q) = true → unP T n S q = fnS T n k q S := by
    intro k hk h8 he
    have hw : wrd T n nm4 q = nI k := by unfold wrd; rw [hq2]; exact w4_s hk he
    have ha := w4_a hk he
    have hcd : ¬ cD T n (sk T n q) = true := fun z => by have := cD_t z; rw [hq2] at this; omega
    have h40 : ¬ (sk T n q < n ∧ T (sk T n q) = 40) := fun z => by rw [hq2] at z; omega
    have hm1 : ¬ wrd T n nm4 q = -1 := by rw [hw]; exact nI_m1 (by omega)
    cases S with
    | none => unfold unP fnS; rw [if_neg hcd, if_neg h40, if_neg hm1, hw, nI_clamp (show k < 2 ^ 31 by omega), if_neg (by omega), hq2]
    | some S' => rw [un_f hcd h40 hm1 hw hk (by omega), hq2]; rfl
  cases h8 : eqw [108, 101, 97, 115, 116] T q (lE T n q)
  · refine ok_ifp rfl (ok_bindE (m_isWord (w := [109, 111, 115, 116]) s1 (by decide) (by decide) (by decide)) ?_)
    rw [hq2, u3_self s1.2.2.1.symm]
    cases h9 : eqw [109, 111, 115, 116] T q (lE T n q)
    · refine ok_ifp rfl ?_
      dsimp only
      rw [s1.2.2.1]
      refine ok_bindE (byT s1.1 s1.2.1) ?_
      have h4 : ∀ j, j < n → T j < 256 := fun j hj => (s1.1.2.2.2 j hj).2
      by_cases c40 : q < n ∧ T q = 40
      · rw [if_pos c40.1, c40.2]
        refine ok_ifp rfl ?_
        have hcd : ¬ cD T n (sk T n q) = true := fun z => by have := cD_t z; rw [hq2] at this; omega
        rcases hS with ⟨rfl, rfl⟩ | ⟨hm6, S', rfl, hS', so⟩
        · obtain ⟨n1, n2, n3⟩ := opn_6 s1 d1
          have eu : unP T n none q = Sum.inr (3, q) := by unfold unP; rw [if_neg hcd, hq2, if_pos c40]
          rw [eu]
          exact ok_ifp n1 (ok_some ⟨mlv_tr (mlv_m mv1) (mlv_m n3), n2⟩)
        · rw [opn_m s1 d1 hm6]
          refine ok_ifn (show ¬ (1 : Int32) = 0 by decide) ?_
          have s2 : MS T n q (am_u3 M2 54 0 8 (nI (m + 1))) := MS_u8 s1
          have d2 : MD (m + 1) L0 (am_u3 M2 54 0 8 (nI (m + 1))) := MD_u8 d1
          have v2 : mlv M2 (am_u3 M2 54 0 8 (nI (m + 1))) := mlv_u mlv_rfl (by decide)
          show ok (Option.bind (rS (am_u3 (am_u3 M2 54 0 8 (nI (m + 1))) 54 0 4 ((am_u3 M2 54 0 8 (nI (m + 1))) 54 0 4 + 1))) _) _
          generalize am_u3 M2 54 0 8 (nI (m + 1)) = M3 at s2 d2 v2
          rw [s2.2.2.1, nI_1]
          have mv3 : mmv M3 (am_u3 M3 54 0 4 (nI (q + 1))) := mmv_u mmv_rfl (by decide)
          have st : LPm T n (m + 1) L0 (Sum.inl (q + 1, [])) (am_u3 M3 54 0 4 (nI (q + 1))) := ⟨⟨MT_m s2.1 mv3, by omega, u3_e _ _ _ _ _, (u3_j (by omega)).trans s2.2.2.2⟩, by rw [List.append_nil]; exact MD_m d2 mv3⟩
          refine ok_bind (mD_s hS' hd so st (fun x hx => by injection hx with hx; subst hx; simp; omega)) ?_
          rintro M4 ⟨m4, l4, g4⟩
          refine ok_bind (mD_e (c := 41) (by decide) l4 g4) ?_
          rintro M5 ⟨m5, l5, g5⟩
          obtain ⟨m6, l6⟩ := mD_d l5
          refine ok_some ⟨mlv_tr (mlv_m mv1) (mlv_tr v2 (mlv_tr (mlv_m mv3) (mlv_tr m4 (mlv_tr m5 m6)))), ?_⟩
          have : xE T n 41 (xS S' (Sum.inl (q + 1, []))) = unP T n (some S') q := by
            unfold unP
            rw [if_neg hcd, hq2, if_pos c40]
            simp only [xE, xS, bd_as, bd_in, List.nil_append]
          rw [this] at l6; exact l6
      · have n40 : ¬ (if q < n then nI (T q) else -1) = (40 : Int32) := by
          by_cases hlt : q < n
          · rw [if_pos hlt]
            intro z
            have := h4 q hlt
            exact c40 ⟨hlt, (nI_eq (b := 40) (by omega) (by decide)).mp z⟩
          · rw [if_neg hlt]; decide
        refine ok_ifn n40 ?_
        have kn0 := m_known s1 hq2
        have h40 : ¬ (sk T n q < n ∧ T (sk T n q) = 40) := by rw [hq2]; exact c40
        rcases w8_4 h8 h9 with ⟨z8, z4⟩ | ⟨k, hk, ek, eqk⟩
        · rw [z8, if_pos rfl] at kn0
          refine ok_bindE kn0 (ok_ifp rfl ?_)
          refine (ok_bind (m_num (a := 0) (b := 1000) s1 (by decide) (by decide)) ?_)
          rintro ⟨v, M4⟩ ⟨c4, m4⟩
          simp only at c4 m4
          have d4 := MD_m d1 m4
          have hw : wrd T n nm4 q = -1 := by unfold wrd; rw [hq2]; exact z4
          have eu : unP T n S q = bd (num T n 0 1000 q) (fun x => Sum.inl (x.1, [15 + x.2])) := by
            unfold unP
            by_cases cd : cD T n (sk T n q) = true
            · rw [if_pos cd]
            · rw [if_neg cd, if_neg h40, if_pos hw]
              unfold num
              rw [hq2] at cd
              have hde := dE_f (T := T) s1.2.1
              have : dE T n q = q := by
                by_cases e : dE T n q = q
                · exact e
                · exact absurd (hde.2.2.1 q (Nat.le_refl _) (by omega)) cd
              rw [hq2, this, if_pos rfl]
              rfl
          rw [eu]
          generalize hN : num T n 0 1000 q = X at c4
          rcases X with x | f
          · obtain ⟨rfl, s4⟩ := c4
            have g := num_f (e := x.1) (v := x.2) s1.2.1 hN
            refine ok_bind (m_notes (c := 15 + x.2) s4 d4 (by omega) (mrel_n (by omega))) ?_
            rintro M5 ⟨m5, s5, d5⟩
            exact ok_some ⟨mlv_tr (mlv_m mv1) (mlv_tr (mlv_m m4) m5), s5, d5⟩
          · obtain ⟨rfl, s4⟩ := c4
            refine ok_bindE (notes_F (MF_ne s4)) (ok_some ⟨mlv_tr (mlv_m mv1) (mlv_m m4), s4⟩)
        · have hkm : ¬ nI k = -1 := nI_m1 (by omega)
          have ha := w4_a (by omega) eqk
          rw [ek, if_neg hkm] at kn0
          have mv3 : mmv M2 (am_u3 M2 54 0 4 (nI (lE T n q))) := mmv_u mmv_rfl (by decide)
          have s3 : MS T n (lE T n q) (am_u3 M2 54 0 4 (nI (lE T n q))) := ⟨MT_m s1.1 mv3, hle.2.1, u3_e _ _ _ _ _, (u3_j (by omega)).trans s1.2.2.2⟩
          refine ok_bindE kn0 (ok_ifn hkm ?_)
          refine (ok_bind (m_notes (c := k) s3 (MD_m d1 mv3) (by have := s1.2.1; omega) (mrel_k hk)) ?_)
          rintro M5 ⟨m5, s5, d5⟩
          have hw : wrd T n nm4 q = nI k := by unfold wrd; rw [hq2]; exact w4_s (by omega) eqk
          have hcd : ¬ cD T n (sk T n q) = true := fun z => by have := cD_t z; rw [hq2] at this; omega
          have eu : unP T n S q = Sum.inl (lE T n q, [k]) := by unfold unP; rw [if_neg hcd, if_neg h40, hw, if_neg hkm, nI_clamp (show k < 2 ^ 31 by omega), if_pos hk, hq2]
          rw [eu]
          exact ok_some ⟨mlv_tr (mlv_m mv1) (mlv_tr (mlv_m mv3) m5), s5, d5⟩
    · refine ok_ifn (by decide) ?_
      rw [fnE 9 (by decide) (by decide) h9]
      have ha := w4_a (k := 9) (by decide) h9
      refine ok_mono (m_fn (c := 9) (w := 8) hn hS hd s1 d1 (by omega) (Or.inr (Or.inr (Or.inr (Or.inr (Or.inr (Or.inr (Or.inr (Or.inr ⟨rfl, rfl⟩))))))))) ?_
      rintro M' ⟨m', l'⟩
      exact ⟨mlv_tr (mlv_m mv1) m', l'⟩
  · refine ok_ifn (by decide) ?_
    rw [fnE 8 (by decide) (by decide) h8]
    have ha := w4_a (k := 8) (by decide) h8
    refine ok_mono (m_fn (c := 8) (w := 7) hn hS hd s1 d1 (by omega) (Or.inr (Or.inr (Or.inr (Or.inr (Or.inr (Or.inr (Or.inr (Or.inl ⟨rfl, rfl⟩))))))))) ?_
    rintro M' ⟨m', l'⟩
    exact ⟨mlv_tr (mlv_m mv1) m', l'⟩
theorem m_oneF {rS rP rU : Mem → Option Mem} : mDd (f_RX12_one rS rP rU) := by
  intro M h
  unfold f_RX12_one
  rw [if_neg h]
