theorem stk_cong {cd cd' fa fa' : Nat → Int32} {len : Nat} (hc : ∀ k, k < len → cd' k = cd k) (h0 : ∀ k, k < len → 0 ≤ cd k) (hf : ∀ i, i < 8 → fa' i = fa i) : ∀ k, k ≤ len → dpt cd' k = dpt cd k ∧ stk cd' fa' k = stk cd fa k
  | 0, _ => ⟨rfl, rfl⟩
  | k + 1, hk => by
    obtain ⟨h1, h2⟩ := stk_cong hc h0 hf k (by omega)
    rw [dpt, dpt, stk, stk, hc k (by omega), h1, h2]
    refine ⟨rfl, ?_⟩
    by_cases h8 : cd k < 8
    · obtain ⟨j, hj, ej⟩ := code8 (h0 k (by omega)) h8
      rw [ej, nI_clamp (by omega), hf j hj]
    · rw [if_neg h8, if_neg h8]
theorem lv_cong {cd cd' fa fa' : Nat → Int32} {len : Nat} (hc : ∀ k, k < len → cd' k = cd k) (h0 : ∀ k, k < len → 0 ≤ cd k) (hf : ∀ i, i < 8 → fa' i = fa i) : lv cd' fa' len = lv cd fa len := by
  unfold lv
  rw [(stk_cong hc h0 hf len (Nat.le_refl _)).2]
/-- what the LAW may ask for -/
def fac (h d b cl be dr fi f : Int32) : Nat → Int32 := fun i => if i = 0 then h else if i = 1 then d else if i = 2 then b else if i = 3 then cl else if i = 4 then be else if i = 5 then dr else if i = 6 then fi else f
def ln (M : Mem) : Nat := (M 23 0 1).toNatClampNeg
/-- the LAW's value of BOARD b in hour h of day d, fined f times -/
def lvb (qc : Nat) (M : Mem) (b : Nat) (h d f : Int32) : Int32 := lv (M qc 0) (fac h d (nI b) (M 4 0 b) (M 5 0 b) (M 6 0 b) (M 7 0 b) f) (ln M)
def cLaw (qc : Nat) (M : Mem) : Prop := M 23 0 1 = nI (ln M) ∧ ln M ≤ 150 ∧ 1 ≤ ln M ∧ cwf (M qc 0) (ln M) ∧ M 23 0 4 = (if ∃ k, k < ln M ∧ M qc 0 k = 7 then 1 else 0)
theorem c_value {qc qd : Nat} {M : Mem} {b : Nat} {h f : Int32} (hq : qc = 24 ∨ qc = 25) (hL : cLaw qc M) (hb : b < 16) : ok (f_X3_value qc qd (nI b) h f M) (fun r => r.1 = lvb qc M b (h - h / 24 * 24) (h / 24) f ∧ fr [26, 27] M r.2) := by
  unfold f_X3_value f_X3_findFacts
  rw [if_pos (inb_n hb (by decide)), nI_clamp (by omega)]
  refine ok_bindE rfl ?_
  have hf : fr [27] M (am_u3 (am_u3 (am_u3 (am_u3 (am_u3 (am_u3 (am_u3 (am_u3 M 27 0 0 (h - h / (24 : Int32) * (24 : Int32))) 27 0 1 (h / (24 : Int32))) 27 0 2 (nI b)) 27 0 3 (M 4 0 b)) 27 0 4 (M 5 0 b)) 27 0 5 (M 6 0 b)) 27 0 6 (M 7 0 b)) 27 0 7 f) := by
    repeat' (first | exact fr_rfl | refine fr_u3 ?_ (by decide))
  have he : ∀ i, i < 8 → (am_u3 (am_u3 (am_u3 (am_u3 (am_u3 (am_u3 (am_u3 (am_u3 M 27 0 0 (h - h / (24 : Int32) * (24 : Int32))) 27 0 1 (h / (24 : Int32))) 27 0 2 (nI b)) 27 0 3 (M 4 0 b)) 27 0 4 (M 5 0 b)) 27 0 5 (M 6 0 b)) 27 0 6 (M 7 0 b)) 27 0 7 f) 27 0 i = fac (h - h / 24 * 24) (h / 24) (nI b) (M 4 0 b) (M 5 0 b) (M 6 0 b) (M 7 0 b) f i := by
    intro i hi
    have : i = 0 ∨ i = 1 ∨ i = 2 ∨ i = 3 ∨ i = 4 ∨ i = 5 ∨ i = 6 ∨ i = 7 := by omega
    rcases this with rfl | rfl | rfl | rfl | rfl | rfl | rfl | rfl <;> rfl
  generalize am_u3 (am_u3 (am_u3 (am_u3 (am_u3 (am_u3 (am_u3 (am_u3 M 27 0 0 (h - h / (24 : Int32) * (24 : Int32))) 27 0 1 (h / (24 : Int32))) 27 0 2 (nI b)) 27 0 3 (M 4 0 b)) 27 0 4 (M 5 0 b)) 27 0 5 (M 6 0 b)) 27 0 6 (M 7 0 b)) 27 0 7 f = M1 at hf he
  have eq : M1 qc = M qc := hf qc (by rcases hq with rfl | rfl <;> decide)
  refine ok_bind (c_loop (qc := qc) (len := ln M) (by rcases hq with rfl | rfl <;> decide) hL.2.1 (by rw [hf 23 (by decide)]; exact hL.1) (by rw [eq]; exact hL.2.2.2.1)) ?_
  rintro M2 ⟨h1, h2⟩
  refine ok_some ⟨?_, ?_⟩
  · show M2 26 0 0 = _
    rw [h2, eq]
    exact lv_cong (fun _ _ => rfl) (fun k hk => (hL.2.2.2.1.1 k hk).1) he
  · exact fr_tr (fr_mono hf (by decide)) (fr_mono h1 (by decide))
/-- the law is the same where its cells are -/
theorem lvb_fr {qc : Nat} {M M' : Mem} (h23 : M' 23 = M 23) (hq : M' qc = M qc) (h4 : M' 4 = M 4) (h5 : M' 5 = M 5) (h6 : M' 6 = M 6) (h7 : M' 7 = M 7) (b : Nat) (h d f : Int32) : lvb qc M' b h d f = lvb qc M b h d f := by
  unfold lvb ln
  rw [h23, hq, h4, h5, h6, h7]
theorem cLaw_fr {qc : Nat} {M M' : Mem} (h23 : M' 23 = M 23) (hq : M' qc = M qc) (h : cLaw qc M) : cLaw qc M' := by
  unfold cLaw ln at *
  rw [h23, hq]
  exact h
/-- one of the model's codes beside the class's -/
def mrel (c w v : Int32) : Prop := (w = 0 ∧ 15 ≤ c ∧ v = c - 15) ∨ (w = 1 ∧ 0 ≤ c ∧ c < 8 ∧ v = c) ∨ (w = 2 ∧ c = 10) ∨ (w = 3 ∧ c = 11) ∨ (w = 4 ∧ c = 12) ∨ (w = 5 ∧ c = 13) ∨ (w = 6 ∧ c = 14) ∨ (w = 7 ∧ c = 8) ∨ (w = 8 ∧ c = 9)
def dfl : List Int32 := [16, 0, 27, 11, 27, 0, 11, 9, 11]
def mLaw (qc : Nat) (M : Mem) : Prop := (M 54 0 19 = nI (ln M) ∧ ∀ k, k < ln M → mrel (M qc 0 k) (M 65 (k + 1) 0) (M 65 (k + 1) 1)) ∨ (M 54 0 19 = 0 ∧ ln M = 9 ∧ ∀ k, k < 9 → M qc 0 k = dfl.getD k 0)
theorem div_m1 (a : Int32) : a / (-1) = -a := by
  apply Int32.toInt_inj.mp
  rw [Int32.toInt_div, show (-1 : Int32).toInt = -1 from rfl, Int.tdiv_neg, Int.tdiv_one, Int32.toInt_neg]
theorem mod_m1 (a : Int32) : a - a / (-1) * (-1) = 0 := by
  rw [div_m1]
  grind
theorem by_eq {c w : Int32} (a b : Int32) (h : (w = 2 ∧ c = 10) ∨ (w = 3 ∧ c = 11) ∨ (w = 4 ∧ c = 12) ∨ (w = 5 ∧ c = 13) ∨ (w = 6 ∧ c = 14) ∨ (w = 7 ∧ c = 8) ∨ (w = 8 ∧ c = 9)) : f_X12_by w a b = some (jn c a b) := by
  rcases h with ⟨rfl, rfl⟩ | ⟨rfl, rfl⟩ | ⟨rfl, rfl⟩ | ⟨rfl, rfl⟩ | ⟨rfl, rfl⟩ | ⟨rfl, rfl⟩ | ⟨rfl, rfl⟩
  · rfl
  · rfl
  · rfl
  · show (if b = 0 then some 0 else if b = -1 then some (-a) else if ¬ b = 0 then some (a / b) else none) = some (if b = 0 then 0 else a / b)
    by_cases hb : b = 0
    · rw [if_pos hb, if_pos hb]
    · rw [if_neg hb, if_neg hb, if_pos hb]
      by_cases h1 : b = -1
      · rw [if_pos h1, h1, div_m1]
      · rw [if_neg h1]
  · show (if b = 0 then some 0 else if b = -1 then some 0 else if ¬ b = 0 then some (a - a / b * b) else none) = some (if b = 0 then 0 else a - a / b * b)
    by_cases hb : b = 0
    · rw [if_pos hb, if_pos hb]
    · rw [if_neg hb, if_neg hb, if_pos hb]
      by_cases h1 : b = -1
      · rw [if_pos h1, h1, mod_m1]
      · rw [if_neg h1]
  · rfl
  · rfl
/-- the model's loop -/
theorem m_loop {qc : Nat} {M1 : Mem} (hq : qc = 24 ∨ qc = 25) (hL : cLaw qc M1) (hm : M1 54 0 19 = nI (ln M1)) (hr : ∀ k, k < ln M1 → mrel (M1 qc 0 k) (M1 65 (k + 1) 0) (M1 65 (k + 1) 1)) :
    ok (wh L_X12_byLaw_35 FU ((0 : Int32), (0 : Int32), M1)) (fun M' => fr [69] M1 M' ∧ M' 69 0 0 = lv (M1 qc 0) (M1 70 0) (ln M1)) := by
  have hw := hL.2.2.2.1
  have hlen := hL.2.1
  refine ok_wh (fun k s => s.1 = nI (dpt (M1 qc 0) k) ∧ s.2.1 = nI k ∧ fr [69] M1 s.2.2 ∧ ∀ i, i < dpt (M1 qc 0) k → s.2.2 69 0 i = stk (M1 qc 0) (M1 70 0) k i) (ln M1) ⟨rfl, rfl, fr_rfl, fun i hi => by cases hi⟩ (by omega) ?_ ?_
  · rintro k ⟨x5, x6, M⟩ hk ⟨rfl, rfl, hf, hs⟩
    simp only at hf hs
    have hd := dpt_le (M1 qc 0) k
    unfold L_X12_byLaw_35
    simp only [hf 54 (by decide), hm, hf 65 (by decide), hf 70 (by decide), nI_clamp (show k < 2 ^ 31 by omega), nI_clamp (show dpt (M1 qc 0) k < 2 ^ 31 by omega)]
    refine ok_ifn (nI_ge hk (by omega)) (ok_ifp (inb_n (by omega) (by decide)) ?_)
    have hc := hw.1 k hk
    have hrk := hr k hk
    rcases hrk with ⟨w0, c0, v0⟩ | ⟨w0, c0, c1, v0⟩ | hop
    · have ho : opc (M1 qc 0 k) = false := opc_f2 (by grind)
      refine ok_ifn (by rw [w0]; decide) (ok_ifp w0 (ok_ifp (inb_n (by omega) (by decide)) (ok_some ⟨?_, nI_1 k, fr_u3 hf (by decide), fun i hi => ?_⟩)))
      · show nI _ + 1 = nI (dpt _ (k + 1))
        rw [nI_1, dpt_no ho]
      · have hi' : i < dpt (M1 qc 0) k + 1 := by
          have hi := hi
          rw [dpt_no ho] at hi
          exact hi
        show am_u3 M 69 0 (dpt (M1 qc 0) k) _ 69 0 i = stk _ _ (k + 1) i
        rw [stk_no ho, u3_x]
        by_cases hii : i = dpt (M1 qc 0) k
        · rw [if_pos ⟨rfl, rfl, hii⟩, if_pos hii, if_neg (by grind), v0]
        · rw [if_neg (fun z => hii z.2.2), if_neg hii]
          exact hs i (by omega)
    · have ho : opc (M1 qc 0 k) = false := opc_f1 c1
      obtain ⟨j, hj, ej⟩ := code8 c0 c1
      refine ok_ifn (by rw [w0]; decide) (ok_ifn (by rw [w0]; decide) (ok_ifp (inb_of (v0.trans ej) hj) (ok_ifp (inb_n (by omega) (by decide)) (ok_some ⟨?_, nI_1 k, fr_u3 hf (by decide), fun i hi => ?_⟩))))
      · show nI _ + 1 = nI (dpt _ (k + 1))
        rw [nI_1, dpt_no ho]
      · have hi' : i < dpt (M1 qc 0) k + 1 := by
          have hi := hi
          rw [dpt_no ho] at hi
          exact hi
        show am_u3 M 69 0 (dpt (M1 qc 0) k) _ 69 0 i = stk _ _ (k + 1) i
        rw [stk_no ho, u3_x]
        by_cases hii : i = dpt (M1 qc 0) k
        · rw [if_pos ⟨rfl, rfl, hii⟩, if_pos hii, if_pos c1, v0]
        · rw [if_neg (fun z => hii z.2.2), if_neg hii]
          exact hs i (by omega)
    · have ho : opc (M1 qc 0 k) = true := by rcases hop with h | h | h | h | h | h | h <;> rw [h.2] <;> rfl
      have h2 := hc.2 ho
      refine ok_ifp (by rcases hop with h | h | h | h | h | h | h <;> rw [h.1] <;> decide) ?_
      rw [nI_sub1 (show 1 ≤ dpt (M1 qc 0) k by omega), nI_sub1 (show 1 ≤ dpt (M1 qc 0) k - 1 by omega), nI_clamp (show dpt (M1 qc 0) k - 1 < 2 ^ 31 by omega), nI_clamp (show dpt (M1 qc 0) k - 1 - 1 < 2 ^ 31 by omega)]
      refine ok_ifp (inb_n (by omega) (by decide)) (ok_ifp (inb_n (by omega) (by decide)) ?_)
      rw [by_eq _ _ hop, hs _ (by omega), hs _ (by omega)]
      refine ok_some ⟨by rw [dpt_op ho], nI_1 k, fr_u3 hf (by decide), fun i hi => ?_⟩
      have hi' : i < dpt (M1 qc 0) k - 1 := by rw [dpt_op ho] at hi; exact hi
      show am_u3 M 69 0 (dpt (M1 qc 0) k - 1 - 1) _ 69 0 i = stk _ _ (k + 1) i
      rw [stk_op ho, u3_x, show dpt (M1 qc 0) k - 1 - 1 = dpt (M1 qc 0) k - 2 by omega]
      by_cases hii : i = dpt (M1 qc 0) k - 2
      · rw [if_pos ⟨rfl, rfl, hii⟩, if_pos hii]
      · rw [if_neg (fun z => hii z.2.2), if_neg hii]
        exact hs i (by omega)
  · rintro ⟨x5, x6, M⟩ ⟨rfl, rfl, hf, hs⟩
    simp only at hf hs
    unfold L_X12_byLaw_35
    simp only [hf 54 (by decide), hm]
    refine ok_ifp (nI_le (Nat.le_refl _) (by omega)) (ok_some ⟨hf, ?_⟩)
    exact hs 0 (by rw [hw.2]; decide)
theorem dfl_lv (cd fa : Nat → Int32) (h : ∀ k, k < 9 → cd k = dfl.getD k 0) : lv cd fa 9 = 1 - (if fa 0 - 12 ≤ 12 - fa 0 then 12 - fa 0 else fa 0 - 12) := by
  rw [lv_cong (cd := fun k => dfl.getD k 0) (fa := fa) h (by decide) (fun _ _ => rfl)]
  rfl
/-- board b of the model is the class's -/
def mBoard (M : Mem) (b : Nat) : Prop := M 60 (b + 1) 0 = M 4 0 b ∧ M 60 (b + 1) 1 = M 5 0 b ∧ M 60 (b + 1) 2 = M 6 0 b ∧ M 60 (b + 1) 3 = M 7 0 b
theorem m_isLawful {qc : Nat} {M : Mem} {b : Nat} {h d f : Int32} (hq : qc = 24 ∨ qc = 25) (hL : cLaw qc M) (hm : mLaw qc M) (hb : b < 16) (hB : mBoard M b) : ok (f_X12_isLawful (nI b) h d f M) (fun r => r.1 = (if lvb qc M b h d f ≤ 0 then 0 else 1) ∧ fr [69, 70] M r.2) := by
  unfold f_X12_isLawful
  refine ok_bind (P := fun M5 => fr [70] M M5 ∧ M5 70 0 0 = h ∧ M5 70 0 1 = d ∧ M5 70 0 2 = nI b ∧ M5 70 0 3 = M 4 0 b ∧ M5 70 0 4 = M 5 0 b ∧ M5 70 0 5 = M 6 0 b ∧ M5 70 0 6 = M 7 0 b) ?_ ?_
  · refine ok_wh (fun k s => s.1 = nI k ∧ fr [70] M s.2 ∧ s.2 70 0 0 = h ∧ s.2 70 0 1 = d ∧ s.2 70 0 2 = nI b ∧ (∀ i, i < k → s.2 70 0 (3 + i) = M 60 (b + 1) i)) 4 ⟨rfl, ?_, rfl, rfl, rfl, fun i hi => by cases hi⟩ (by decide) ?_ ?_
    · repeat' (first | exact fr_rfl | refine fr_u3 ?_ (by decide))
    · rintro k ⟨x5, M5⟩ hk ⟨rfl, hf, h0, h1, h2, h3⟩
      simp only at hf h0 h1 h2 h3
      unfold L_X12_isLawful_24
      simp only [nI_clamp (show k < 2 ^ 31 by omega), nI_clamp (show b < 2 ^ 31 by omega), show (3 : Int32) + nI k = nI (3 + k) from nI_add 3 k, nI_clamp (show 3 + k < 2 ^ 31 by omega)]
      refine ok_ifn (nI_ge hk (by decide)) (ok_ifp (inb_n hb (by decide)) (ok_ifp (inb_n hk (by decide)) (ok_ifp (inb_n (by omega) (by decide)) (ok_some ⟨nI_1 k, fr_u3 hf (by decide), ?_, ?_, ?_, fun i hi => ?_⟩))))
      · show am_u3 M5 70 0 (3 + k) _ 70 0 0 = h
        rw [u3_j (by omega)]; exact h0
      · show am_u3 M5 70 0 (3 + k) _ 70 0 1 = d
        rw [u3_j (by omega)]; exact h1
      · show am_u3 M5 70 0 (3 + k) _ 70 0 2 = nI b
        rw [u3_j (by omega)]; exact h2
      · show am_u3 M5 70 0 (3 + k) _ 70 0 (3 + i) = _
        by_cases hik : i = k
        · rw [hik, u3_e, hf 60 (by decide)]
        · rw [u3_j (by omega)]; exact h3 i (by omega)
    · rintro ⟨x5, M5⟩ ⟨rfl, hf, h0, h1, h2, h3⟩
      simp only at hf h0 h1 h2 h3
      unfold L_X12_isLawful_24
      refine ok_ifp (by decide) (ok_some ⟨hf, h0, h1, h2, ?_, ?_, ?_, ?_⟩)
      · rw [← hB.1]; exact h3 0 (by decide)
      · rw [← hB.2.1]; exact h3 1 (by decide)
      · rw [← hB.2.2.1]; exact h3 2 (by decide)
      · rw [← hB.2.2.2]; exact h3 3 (by decide)
  · rintro M5 ⟨hf, h0, h1, h2, h3, h4, h5, h6⟩
    have hf7 : fr [70] M (am_u3 M5 70 0 7 f) := fr_u3 hf (by decide)
    have he : ∀ i, i < 8 → am_u3 M5 70 0 7 f 70 0 i = fac h d (nI b) (M 4 0 b) (M 5 0 b) (M 6 0 b) (M 7 0 b) f i := by
      intro i hi
      have : i = 0 ∨ i = 1 ∨ i = 2 ∨ i = 3 ∨ i = 4 ∨ i = 5 ∨ i = 6 ∨ i = 7 := by omega
      rcases this with rfl | rfl | rfl | rfl | rfl | rfl | rfl | rfl
      · rw [u3_j (by omega)]; exact h0
      · rw [u3_j (by omega)]; exact h1
      · rw [u3_j (by omega)]; exact h2
      · rw [u3_j (by omega)]; exact h3
      · rw [u3_j (by omega)]; exact h4
      · rw [u3_j (by omega)]; exact h5
      · rw [u3_j (by omega)]; exact h6
      · rw [u3_e]; rfl
    generalize am_u3 M5 70 0 7 f = M6 at hf7 he
    have eq : M6 qc = M qc := hf7 qc (by rcases hq with rfl | rfl <;> decide)
    have eln : ln M6 = ln M := by unfold ln; rw [hf7 23 (by decide)]
    refine ok_bind (P := fun r => r.1 = lvb qc M b h d f ∧ fr [69, 70] M r.2) ?_ ?_
    · unfold f_X12_byLaw
      rcases hm with ⟨m1, m2⟩ | ⟨m1, m2, m3⟩
      · refine ok_ifn (by rw [hf7 54 (by decide), m1]; exact nI_ne0 hL.2.2.1 (by have := hL.2.1; omega)) ?_
        refine ok_bind (m_loop hq (cLaw_fr (hf7 23 (by decide)) eq hL) (by rw [eln, hf7 54 (by decide)]; exact m1) (by rw [eln, eq, hf7 65 (by decide)]; exact m2)) ?_
        rintro M7 ⟨z1, z2⟩
        refine ok_some ⟨?_, fr_tr (fr_mono hf7 (by decide)) (fr_mono z1 (by decide))⟩
        show M7 69 0 0 = _
        rw [z2, eq, eln]
        exact lv_cong (fun _ _ => rfl) (fun k hk => (hL.2.2.2.1.1 k hk).1) he
      · refine ok_ifp (by rw [hf7 54 (by decide), m1]) (ok_some ⟨?_, fr_mono hf7 (by decide)⟩)
        show 1 - f_X12_more _ _ = lv (M qc 0) _ (ln M)
        rw [m2, dfl_lv _ _ m3, he 0 (by decide)]
        rfl
    · rintro ⟨v, M7⟩ ⟨rfl, z⟩
      refine ok_if (fun hv => ok_some ⟨?_, z⟩) (fun hv => ok_some ⟨?_, z⟩)
      · rw [if_pos hv]
      · rw [if_neg hv]
