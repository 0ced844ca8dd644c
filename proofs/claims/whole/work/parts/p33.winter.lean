/-! WINTERS: both sides draw the same, and keep the states together -/
def lcg (x : Int32) : Int32 := x * 1103515245 + 12345
def lcN (s : Int32) : Nat → Int32
  | 0 => s
  | k + 1 => lcg (lcN s k)
def frB (q s : Int32) (b : Nat) : Bool := decide (¬ q ≤ ((lcN s (b + 1)) >>> ((16 : Int32) &&& 31)) &&& 15)
def sdN (n : Nat) (s : Int32) : Nat → Int32
  | 0 => s
  | k + 1 => lcN (sdN n s k) n
def frz (n : Nat) (q s : Int32) (k : Nat) : Int32 := bitsN (frB q (sdN n s k)) n
theorem b_15 (i : Nat) : bt 15 i = decide (i < 4) := by
  rcases Nat.lt_or_ge i 32 with h | h
  · exact (by decide +kernel : ∀ i, i < 32 → bt 15 i = decide (i < 4)) i h
  · rw [b_big h, decide_eq_false (by omega)]
theorem b_32767 (i : Nat) : bt 32767 i = decide (i < 15) := by
  rcases Nat.lt_or_ge i 32 with h | h
  · exact (by decide +kernel : ∀ i, i < 32 → bt 32767 i = decide (i < 15)) i h
  · rw [b_big h, decide_eq_false (by omega)]
theorem draw_eq (x : Int32) : (((x.toUInt32 >>> ((16 : Int32).toUInt32 &&& Int32.toUInt32 31)).toInt32) &&& (32767 : Int32)) - (((x.toUInt32 >>> ((16 : Int32).toUInt32 &&& Int32.toUInt32 31)).toInt32) &&& (32767 : Int32)) / (16 : Int32) * (16 : Int32) = (x >>> ((16 : Int32) &&& 31)) &&& 15 := by
  have hb : ∀ i, bt (((x.toUInt32 >>> ((16 : Int32).toUInt32 &&& Int32.toUInt32 31)).toInt32) &&& (32767 : Int32)) i = (bt x (16 + i) && decide (i < 15)) := by
    intro i
    rw [b_and, b_32767, show bt ((x.toUInt32 >>> ((16 : Int32).toUInt32 &&& Int32.toUInt32 31)).toInt32) i = bt x (16 + i) from b_ushr 16 (by decide) x i]
  obtain ⟨m, hm, em⟩ := small_bits (x := ((x.toUInt32 >>> ((16 : Int32).toUInt32 &&& Int32.toUInt32 31)).toInt32) &&& (32767 : Int32)) (n := 15) (by decide) (fun j h1 h2 => by rw [hb, decide_eq_false (by omega), Bool.and_false])
  rw [em] at hb ⊢
  rw [show (16 : Int32) = nI 16 from rfl, nI_mod (by omega) (by decide)]
  have e1 : nI (m % 16) = nI m &&& 15 := by
    rw [show (15 : Int32) = nI 15 from rfl, nI_and]
    congr 1
    exact (Nat.and_two_pow_sub_one_eq_mod m 4).symm
  rw [e1]
  apply b_ext
  intro i hi
  rw [b_and, b_and, b_15, hb, show bt (x >>> (nI 16 &&& 31)) i = if 16 + i < 32 then bt x (16 + i) else bt x 31 from b_sshr 16 (by decide) x hi]
  by_cases h4 : i < 4
  · simp [h4, show i < 15 by omega, show 16 + i < 32 by omega]
  · simp [h4]
theorem c_draw {M : Mem} {q : Int32} {n : Nat} (e : M 3 0 0 = nI n) (hn : n ≤ 16) : ok (f_X6_drawFrozen q M) (fun r => r.1 = bitsN (frB q (M 38 0 9)) n ∧ fr [38] M r.2 ∧ (∀ j, j ≠ 9 → r.2 38 0 j = M 38 0 j) ∧ r.2 38 0 9 = lcN (M 38 0 9) n) := by
  unfold f_X6_drawFrozen
  refine ok_bind (P := fun r => r.1 = bitsN (frB q (M 38 0 9)) n ∧ fr [38] M r.2 ∧ (∀ j, j ≠ 9 → r.2 38 0 j = M 38 0 j) ∧ r.2 38 0 9 = lcN (M 38 0 9) n) ?_ (fun _ h => ok_some h)
  refine ok_wh (fun k s => s.1 = bitsN (frB q (M 38 0 9)) k ∧ s.2.1 = nI k ∧ fr [38] M s.2.2 ∧ (∀ j, j ≠ 9 → s.2.2 38 0 j = M 38 0 j) ∧ s.2.2 38 0 9 = lcN (M 38 0 9) k) n ⟨rfl, rfl, fr_rfl, fun _ _ => rfl, rfl⟩ (by omega) ?_ ?_
  · rintro k ⟨x, y, M1⟩ hk ⟨e1, e2, f1, o1, s1⟩
    simp only at e1 e2 f1 o1 s1
    subst e1 e2
    unfold L_X6_drawFrozen_4
    simp only [f1 3 (by decide), e, s1, draw_eq]
    obtain ⟨w, hw⟩ : ∃ w, w = lcN (M 38 0 9) (k + 1) := ⟨_, rfl⟩
    rw [show lcN (M 38 0 9) k * 1103515245 + 12345 = w from hw.symm]
    refine ok_ifn (nI_ge hk (by omega)) ?_
    have tl : ∀ j, j ≠ 9 → am_u3 M1 38 0 9 w 38 0 j = M 38 0 j := fun j hj => by rw [u3_j (by omega)]; exact o1 j hj
    have fb : frB q (M 38 0 9) k = decide (¬ q ≤ w >>> ((16 : Int32) &&& 31) &&& 15) := by rw [hw]; rfl
    refine ok_if (fun hc => ok_some ⟨?_, nI_1 k, fr_u3 f1 (by decide), tl, ?_⟩) (fun hc => ok_some ⟨?_, nI_1 k, fr_u3 f1 (by decide), tl, ?_⟩)
    · exact (bitsN_sf _ _ (by rw [fb]; exact decide_eq_false (fun z => z hc))).symm
    · rw [← hw]; exact u3_e M1 38 0 9 w
    · exact (bitsN_st _ _ (by rw [fb]; exact decide_eq_true hc)).symm
    · rw [← hw]; exact u3_e M1 38 0 9 w
  · rintro ⟨x, y, M1⟩ ⟨e1, e2, f1, o1, s1⟩
    simp only at e1 e2 f1 o1 s1
    subst e2
    unfold L_X6_drawFrozen_4
    simp only [f1 3 (by decide), e]
    exact ok_ifp (nI_le (Nat.le_refl _) (by omega)) (ok_some ⟨e1, f1, o1, s1⟩)
theorem m_draw {M : Mem} {q : Int32} {n : Nat} (e : M 58 0 0 = nI n) (hn : n ≤ 16) (h0 : M 54 0 39 = 0) : ok (wh (L_X12_wintersBy_31 q) FU ((0 : Int32), M)) (fun r => r 54 0 39 = bitsN (frB q (M 54 0 48)) n ∧ fr [54] M r ∧ (∀ j, j ≠ 39 → j ≠ 48 → r 54 0 j = M 54 0 j) ∧ r 54 0 48 = lcN (M 54 0 48) n) := by
  refine ok_wh (fun k s => s.2 54 0 39 = bitsN (frB q (M 54 0 48)) k ∧ s.1 = nI k ∧ fr [54] M s.2 ∧ (∀ j, j ≠ 39 → j ≠ 48 → s.2 54 0 j = M 54 0 j) ∧ s.2 54 0 48 = lcN (M 54 0 48) k) n ⟨h0, rfl, fr_rfl, fun _ _ _ => rfl, rfl⟩ (by omega) ?_ ?_
  · rintro k ⟨y, M1⟩ hk ⟨e1, e2, f1, o1, s1⟩
    simp only at e1 e2 f1 o1 s1
    subst e2
    unfold L_X12_wintersBy_31
    simp only [f1 58 (by decide), e, s1, e1]
    obtain ⟨w, hw⟩ : ∃ w, w = lcN (M 54 0 48) (k + 1) := ⟨_, rfl⟩
    rw [show lcN (M 54 0 48) k * 1103515245 + 12345 = w from hw.symm]
    have fb : frB q (M 54 0 48) k = decide (¬ q ≤ w >>> ((16 : Int32) &&& 31) &&& 15) := by rw [hw]; rfl
    refine ok_ifn (nI_ge hk (by omega)) ?_
    have tl : ∀ v j, j ≠ 39 → j ≠ 48 → am_u3 (am_u3 M1 54 0 48 w) 54 0 39 v 54 0 j = M 54 0 j := fun v j hj hj2 => by rw [u3_j (by omega), u3_j (by omega)]; exact o1 j hj hj2
    refine ok_if (fun hc => ok_some ⟨?_, nI_1 k, fr_u3 (fr_u3 f1 (by decide)) (by decide), tl _, ?_⟩) (fun hc => ok_some ⟨?_, nI_1 k, fr_u3 (fr_u3 f1 (by decide)) (by decide), tl _, ?_⟩)
    · rw [bitsN_sf _ _ (show frB q (M 54 0 48) k = false by rw [fb]; exact decide_eq_false (fun z => z hc))]
      exact u3_e (am_u3 M1 54 0 48 w) 54 0 39 _
    · rw [← hw]
      show am_u3 M1 54 0 48 w 54 0 48 = w
      rw [u3_e]
    · rw [bitsN_st _ _ (show frB q (M 54 0 48) k = true by rw [fb]; exact decide_eq_true hc)]
      exact u3_e (am_u3 M1 54 0 48 w) 54 0 39 _
    · rw [← hw]
      show am_u3 M1 54 0 48 w 54 0 48 = w
      rw [u3_e]
  · rintro ⟨y, M1⟩ ⟨e1, e2, f1, o1, s1⟩
    simp only at e1 e2 f1 o1 s1
    subst e2
    unfold L_X12_wintersBy_31
    simp only [f1 58 (by decide), e]
    exact ok_ifp (nI_le (Nat.le_refl _) (by omega)) (ok_some ⟨e1, f1, o1, s1⟩)
/-- a law that doesn't ask for fines -/
theorem stk_cong7 {cd fa fa' : Nat → Int32} {len : Nat} (h0 : ∀ k, k < len → 0 ≤ cd k) (h7 : ∀ k, k < len → cd k ≠ 7) (hf : ∀ i, i < 7 → fa' i = fa i) : ∀ k, k ≤ len → stk cd fa' k = stk cd fa k
  | 0, _ => rfl
  | k + 1, hk => by
    have ih := stk_cong7 h0 h7 hf k (by omega)
    rw [stk, stk, ih]
    by_cases h8 : cd k < 8
    · obtain ⟨j, hj, ej⟩ := code8 (h0 k (by omega)) h8
      have hj7 : j ≠ 7 := by
        rintro rfl
        exact h7 k (by omega) ej
      rw [ej, nI_clamp (by omega), hf j (by omega)]
    · rw [if_neg h8, if_neg h8]
theorem lawB_7 {qc : Nat} {M : Mem} (hL : cLaw qc M) (h : M 23 0 4 = 0) (b : Nat) (hh f f' : Int32) : lawB qc M b hh f = lawB qc M b hh f' := by
  have h7 : ∀ k, k < ln M → M qc 0 k ≠ 7 := by
    intro k hk z
    have e := hL.2.2.2.2
    rw [if_pos ⟨k, hk, z⟩, h] at e
    exact absurd e (by decide)
  unfold lawB lvb lv
  rw [stk_cong7 (fun k hk => (hL.2.2.2.1.1 k hk).1) h7 (fa := fac (hh - hh / 24 * 24) (hh / 24) (nI b) (M 4 0 b) (M 5 0 b) (M 6 0 b) (M 7 0 b) f') (fun i hi => ?_) (ln M) (Nat.le_refl _)]
  have : i = 0 ∨ i = 1 ∨ i = 2 ∨ i = 3 ∨ i = 4 ∨ i = 5 ∨ i = 6 := by omega
  rcases this with rfl | rfl | rfl | rfl | rfl | rfl | rfl <;> rfl
/-- the class has looked at a winter -/
def OF (qc : Nat) (M M' : Mem) : Prop := fr [26, 27, 38, 40, 41] M M' ∧ cch qc M'
theorem OF_a {qc : Nat} {M M' : Mem} (o : OF qc M M') : asks M M' := asks_c (fr_mono o.1 (by decide))
theorem OF_end {qc : Nat} {M M' : Mem} (o : OF qc M M') : asks M M' ∧ cch qc M' := ⟨OF_a o, o.2⟩
theorem OF_x {qc qs : Nat} {M M' M2 : Mem} (h : Rel qc qs M) (o : OF qc M M') (f : fr [38, 40] M' M2) (e : M2 38 0 5 = M' 38 0 5) : OF qc M M2 :=
  ⟨fr_tr o.1 (fr_mono f (by decide)), cch_ol h.1.1 (fr_mono f (by decide)) e (f 41 (by decide)) o.2⟩
theorem OF_y {qc qs : Nat} {M M' M2 : Mem} (h : Rel qc qs M) (o : OF qc M M') (f : fr [26, 27] M' M2) : OF qc M M2 :=
  ⟨fr_tr o.1 (fr_mono f (by decide)), cch_ol h.1.1 (fr_mono f (by decide)) (by rw [f 38 (by decide)]) (f 41 (by decide)) o.2⟩
theorem bitsN_set' {f : Nat → Bool} {n k : Nat} (hn : n ≤ 32) (hk : k < n) {g : Nat → Bool} (hg : ∀ b, b < n → g b = if b = k then true else f b) : bitsN f n ||| ((1 : Int32) <<< (nI k &&& 31)) = bitsN g n := by
  rw [bitsN_set f hn hk]
  exact bitsN_cong (fun b hb => (hg b hb).symm)
theorem bitsN_clear' {f : Nat → Bool} {n k : Nat} (hn : n ≤ 32) (hk : k < n) {g : Nat → Bool} (hg : ∀ b, b < n → g b = if b = k then false else f b) : bitsN f n &&& (((1 : Int32) <<< (nI k &&& 31)) ^^^ (-1)) = bitsN g n := by
  rw [bitsN_clear f hn hk]
  exact bitsN_cong (fun b hb => (hg b hb).symm)
theorem c_dueThen {qc qs qd : Nat} {M M' : Mem} {k : Nat} (h : Rel qc qs M) (o : OF qc M M') (hk : k ≤ 240) (ha : M' 40 0 0 = M 30 0 0 + nI k) : ok (f_X6_dueThen qc qd (nI k) M') (fun r => r.1 = dueR qc M (M' 40 0) ∧ OF qc M r.2 ∧ r.2 40 = M' 40 ∧ ∀ j, j ≠ 5 → r.2 38 0 j = M' 38 0 j) := by
  have hn := R_n16 h
  unfold f_X6_dueThen
  refine ok_bind (c_dueIn (base_a h.1 (OF_a o)) o.2 hk) ?_
  rintro ⟨v, M1⟩ ⟨ev, f1, c1⟩
  simp only at ev f1 c1
  have o1 : OF qc M M1 := ⟨fr_tr o.1 (fr_mono f1.1 (by decide)), c1⟩
  have ev' : v = bitsN (fun b => lawB qc M b (M' 40 0 0) (M 30 0 (3 + b))) (nB M) := by
    rw [ev, dueA_c h.1.1 (asks_b (OF_a o)), (OF_a o).1 30 (by decide), ha]
    rfl
  have e40 : M1 40 = M' 40 := f1.1 40 (by decide)
  have e23 : M1 23 = M 23 := (OF_a o1).1 23 (by decide)
  have hL := h.1.2.1
  have mi := hL.2.2.2.2
  unfold f_X3_mindsFines
  show ok (Option.bind (if isb (M1 23 0 4) = true then some (M1 23 0 4) else none) _) _
  rw [e23]
  have isb4 : isb (M 23 0 4) = true := by rw [mi]; split <;> rfl
  refine ok_bindE (if_pos isb4) ?_
  by_cases h4 : M 23 0 4 = 0
  · refine ok_ifp h4 (ok_some ⟨?_, o1, e40, f1.2⟩)
    rw [ev']
    exact bitsN_cong (fun b _ => lawB_7 hL h4 b _ _ _)
  · refine ok_ifn h4 (ok_bind (P := fun r => r.1 = dueR qc M (M' 40 0) ∧ OF qc M r.2 ∧ r.2 40 = M' 40 ∧ ∀ j, j ≠ 5 → r.2 38 0 j = M' 38 0 j) ?_ (fun _ h => ok_some h))
    refine ok_wh (fun j s => s.1 = bitsN (fun b => lawB qc M b (M' 40 0 0) (if b < j then M' 40 0 (3 + b) else M 30 0 (3 + b))) (nB M) ∧ s.2.1 = nI j ∧ OF qc M s.2.2 ∧ s.2.2 40 = M' 40 ∧ ∀ j, j ≠ 5 → s.2.2 38 0 j = M' 38 0 j) (nB M) ⟨?_, rfl, o1, e40, f1.2⟩ (by omega) ?_ ?_
    · rw [ev']
      exact bitsN_cong (fun b _ => by rw [if_neg (by omega)])
    · rintro j ⟨x, y, M2⟩ hj ⟨e1, e2, o2, q40, q38⟩
      simp only at e1 e2 o2 q40 q38
      subst e1 e2
      have a2 := OF_a o2
      have eB : M2 3 0 0 = nI (nB M) := by rw [a2.1 3 (by decide)]; exact R_eB h
      unfold L_X6_dueThen_23 f_X8_finesOf
      simp only [eB, ad3, nI_clamp (show 3 + j < 2 ^ 31 by omega)]
      refine ok_ifn (nI_ge hj (by omega)) (ok_bindE (if_pos (inb_n (by omega) (by decide))) (ok_bindE (if_pos (inb_n (by omega) (by decide))) ?_))
      rw [q40, a2.1 30 (by decide)]
      by_cases hf : M' 40 0 (3 + j) = M 30 0 (3 + j)
      · refine ok_ifp hf (ok_some ⟨?_, nI_1 j, o2, q40, q38⟩)
        refine bitsN_cong (fun b hb => ?_)
        by_cases hbj : b = j
        · subst hbj
          rw [if_neg (by omega), if_pos (by omega), hf]
        · by_cases hlt : b < j
          · rw [if_pos hlt, if_pos (by omega)]
          · rw [if_neg hlt, if_neg (by omega)]
      · refine ok_ifn hf (ok_bind (P := fun r => r.1 = (if lawB qc M j (M' 40 0 0) (M' 40 0 (3 + j)) = true then 1 else 0) ∧ fr [26, 27] M2 r.2) ?_ ?_)
        · unfold f_X4_isDue
          have hb2 := base_a h.1 a2
          refine ok_bind (c_value hb2.1 hb2.2.1 (by omega)) ?_
          rintro ⟨w, M3⟩ ⟨rfl, f3⟩
          rw [← lawB_c h.1.1 (asks_b a2)]
          unfold lawB
          refine ok_if (fun hv => ok_some ⟨?_, f3⟩) (fun hv => ok_some ⟨?_, f3⟩)
          · rw [if_neg (by simp [hv])]
          · rw [if_pos (by simp [hv])]
        · rintro ⟨w, M3⟩ ⟨rfl, f3⟩
          simp only at f3
          have o3 := OF_y h o2 f3
          have q40' : M3 40 = M' 40 := (f3 40 (by decide)).trans q40
          have q38' : ∀ j, j ≠ 5 → M3 38 0 j = M' 38 0 j := fun i hi => by rw [f3 38 (by decide)]; exact q38 i hi
          cases hl : lawB qc M j (M' 40 0 0) (M' 40 0 (3 + j))
          · refine ok_ifp rfl (ok_some ⟨bitsN_clear' (by omega) hj (fun b hb => ?_), nI_1 j, o3, q40', q38'⟩)
            by_cases hbj : b = j
            · subst hbj
              rw [if_pos (by omega), if_pos rfl]; exact hl
            · rw [if_neg hbj]
              by_cases hlt : b < j
              · rw [if_pos hlt, if_pos (by omega)]
              · rw [if_neg hlt, if_neg (by omega)]
          · refine ok_ifn (show ¬ (1 : Int32) = 0 by decide) (ok_some ⟨bitsN_set' (by omega) hj (fun b hb => ?_), nI_1 j, o3, q40', q38'⟩)
            by_cases hbj : b = j
            · subst hbj
              rw [if_pos (by omega), if_pos rfl]; exact hl
            · rw [if_neg hbj]
              by_cases hlt : b < j
              · rw [if_pos hlt, if_pos (by omega)]
              · rw [if_neg hlt, if_neg (by omega)]
    · rintro ⟨x, y, M2⟩ ⟨e1, e2, o2, q40, q38⟩
      simp only at e1 e2 o2 q40 q38
      subst e2
      have eB : M2 3 0 0 = nI (nB M) := by rw [(OF_a o2).1 3 (by decide)]; exact R_eB h
      unfold L_X6_dueThen_23
      simp only [eB]
      refine ok_ifp (nI_le (Nat.le_refl _) (by omega)) (ok_some ⟨?_, o2, q40, q38⟩)
      show x = _
      rw [e1]
      exact bitsN_cong (fun b hb => by rw [if_pos hb])
