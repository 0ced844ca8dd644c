/-! THE HOUR OF BOTH SIDES -/
theorem m_isOpen {q1 : Nat} {M : Mem} {bits : Int32} {n : Nat} (hn : M 58 0 0 = nI n) (h16 : n ≤ 16) : ok (wh (L_X12_hourEnds_15 q1 bits) FU ((0 : Int32), M)) (fun M' => fr [74] M M' ∧ ∀ b, b < n → M' 74 0 b = if bt bits b = true then 1 else 0) := by
  refine ok_wh (fun k s => s.1 = nI k ∧ fr [74] M s.2 ∧ ∀ b, b < k → s.2 74 0 b = if bt bits b = true then 1 else 0) n ⟨rfl, fr_rfl, fun b hb => by cases hb⟩ (by omega) ?_ ?_
  · rintro k ⟨x3, M1⟩ hk ⟨rfl, hf, hr⟩
    simp only at hf hr
    unfold L_X12_hourEnds_15
    simp only [hf 58 (by decide), hn, nI_clamp (show k < 2 ^ 31 by omega)]
    refine ok_ifn (nI_ge hk (by omega)) (ok_ifp (inb_n (by omega) (by decide)) (ok_some ⟨nI_1 k, fr_u3 hf (by decide), fun b hb => ?_⟩))
    show am_u3 M1 74 0 k _ 74 0 b = _
    rw [u3_r, bit1_bt bits (by omega)]
    unfold upd1
    by_cases hbk : b = k
    · rw [if_pos hbk, hbk]
    · rw [if_neg hbk]; exact hr b (by omega)
  · rintro ⟨x3, M1⟩ ⟨rfl, hf, hr⟩
    simp only at hf hr
    unfold L_X12_hourEnds_15
    simp only [hf 58 (by decide), hn]
    exact ok_ifp (nI_le (Nat.le_refl _) (by omega)) (ok_some ⟨hf, hr⟩)
/-- the model's row behind an HOUR -/
def hrM (n v g : Nat) (lt : Nat → Nat → Bool) (cm : Nat → Int32) (fn : Nat → Bool) (b : Nat → Int32) : Nat → Int32 := fun i => if i = 63 then b 63 + 1 else brsM n v g lt cm 5 (finM n fn b) i
theorem finM_psd {n m : Nat} {fn : Nat → Bool} {r : Nat → Int32} (hm : m ≤ 16) (h : psdM n r) : psdM n (finM m fn r) := by
  intro x hx
  rw [finM_x, if_neg (by omega)]
  exact h x hx
theorem m_hourEnds {qc q1 : Nat} {M : Mem} (hq1 : q1 = 72 ∨ q1 = 73) (hb : base qc M) (hp : psdM (nB M) (M q1 0)) :
    ok (f_X12_hourEnds q1 M) (fun M' => fr [69, 70, 74, q1] M M' ∧ M' q1 0 = hrM (nB M) (vF M) (nG M) (fun k => lets M (mst q1 M k) (bitsN (opB qc M (M q1 0)) (nB M) &&& ((M 54 0 39) ^^^ (-1)))) (fun k => cms q1 M k) (fnM qc M (M 54 0 39) (M q1 0)) (M q1 0)) := by
  have h16 := hb.2.2.2.1.1.2
  have nq : q1 ∉ [69, 70] := by rcases hq1 with rfl | rfl <;> decide
  have nq' : q1 ∉ [74] := by rcases hq1 with rfl | rfl <;> decide
  have sq : ∀ c, c ∈ [69, 70, q1] → c ∉ bCells ∧ c ≠ 54 := by rcases hq1 with rfl | rfl <;> decide
  have s74 : ∀ c, c ∈ [74] → c ∉ bCells ∧ c ≠ 54 := by decide
  have i1 : ∀ c, c ∈ [69, 70] → c ∈ [69, 70, 74, q1] := by intro c hc; simp at hc ⊢; omega
  have i2 : ∀ c, c ∈ [74] → c ∈ [69, 70, 74, q1] := by intro c hc; simp at hc ⊢; omega
  have i3 : ∀ c, c ∈ [69, 70, q1] → c ∈ [69, 70, 74, q1] := by intro c hc; simp at hc ⊢; omega
  have i4 : ∀ c, c ∈ [q1] → c ∈ [69, 70, 74, q1] := by intro c hc; simp at hc ⊢; omega
  unfold f_X12_hourEnds
  refine ok_bind (m_openBits hq1 hb) ?_
  rintro ⟨v1, M1⟩ ⟨rfl, f1⟩
  simp only at f1
  have hb1 := base_f hb f1 s6970
  have e1 := fr_b f1 s6970
  have e13 : M1 3 = M 3 := e1 3 (by decide)
  refine ok_bind (m_isOpen (q1 := q1) (by rw [nb58 hb1, nB_fr e13]) h16) ?_
  rintro M2 ⟨f2, r2⟩
  have hb2 := base_f hb1 f2 s74
  have e2 : ∀ c, c ∈ bCells → M2 c = M c := fun c hc => (fr_b f2 s74 c hc).trans (e1 c hc)
  have e23 : M2 3 = M 3 := e2 3 (by decide)
  have q2 : M2 q1 = M q1 := (f2 q1 nq').trans (f1 q1 nq)
  have e254 : M2 54 = M 54 := (f2 54 (by decide)).trans (f1 54 (by decide))
  refine ok_bind (m_fine hq1 hb2) ?_
  rintro M3 ⟨f3, r3⟩
  have hb3 := base_f hb2 f3 sq
  have e3 : ∀ c, c ∈ bCells → M3 c = M c := fun c hc => (fr_b f3 sq c hc).trans (e2 c hc)
  have e33 : M3 3 = M 3 := e3 3 (by decide)
  have r3' : M3 q1 0 = finM (nB M) (fnM qc M (M 54 0 39) (M q1 0)) (M q1 0) := by
    rw [r3, nB_fr e23, q2, e254]
    unfold fnM
    funext i
    rw [finM_x, finM_x]
    simp only [lawB_c hb.1 e2]
  have hM3 : mHr M3 (nB M) (vF M) (nG M) (bitsN (opB qc M (M q1 0)) (nB M) &&& ((M 54 0 39) ^^^ (-1))) := by
    obtain ⟨hq, -, -, hcB, hmB⟩ := hb3
    obtain ⟨⟨c1, c2⟩, ⟨c3, c4⟩, ⟨c5, c6⟩, ⟨c7, c8, c9⟩, -⟩ := hcB
    obtain ⟨m1, m2, m3, m4, m5, m6, m7, m8⟩ := hmB
    rw [nB_fr e33] at c1 m6
    rw [nG_fr e33] at c3 c4 m7
    rw [vF_fr e33] at c7 c9
    refine ⟨by rw [m1, c1], h16, by rw [m4, c7], c9, by rw [m2, c3], c4, ?_, fun b hb => (m6 b hb).1, m7⟩
    intro b hbn
    have e74 : M3 74 = M2 74 := f3 74 (by rcases hq1 with rfl | rfl <;> decide)
    rw [e74, r2 b hbn, show M1 54 = M 54 from f1 54 (by decide)]
  refine ok_bind (m_bars hq1 hM3 (by rw [r3']; exact finM_psd h16 hp)) ?_
  rintro M4 ⟨f4, r4⟩
  refine ok_some ⟨fr_u3 (fr_tr (fr_tr (fr_tr (fr_mono f1 i1) (fr_mono f2 i2)) (fr_mono f3 i3)) (fr_mono f4 i4)) (by simp), ?_⟩
  have hk := brsM_k (n := nB M) (v := vF M) (g := nG M) (lt := fun k => lets M3 (mst q1 M3 k) (bitsN (opB qc M (M q1 0)) (nB M) &&& ((M 54 0 39) ^^^ (-1)))) (cm := fun k => cms q1 M3 k) (b := M3 q1 0) h16 (by rw [r3']; exact finM_psd h16 hp) 5 (Nat.le_refl _)
  have e63 : M3 q1 0 63 = M q1 0 63 := by rw [r3', finM_x, if_neg (by omega)]
  have e64 : M3 q1 0 64 = M q1 0 64 := by rw [r3', finM_x, if_neg (by omega)]
  have e65 : M3 q1 0 65 = M q1 0 65 := by rw [r3', finM_x, if_neg (by omega)]
  rw [u3_r]
  funext i
  unfold upd1 hrM
  by_cases h : i = 63
  · rw [if_pos h, if_pos h, r4, hk.1 63 (by omega), e63]
  · rw [if_neg h, if_neg h, r4]
    have el : (fun k => lets M3 (mst q1 M3 k) (bitsN (opB qc M (M q1 0)) (nB M) &&& ((M 54 0 39) ^^^ (-1)))) = (fun k => lets M (mst q1 M k) (bitsN (opB qc M (M q1 0)) (nB M) &&& ((M 54 0 39) ^^^ (-1)))) := by
      funext k b
      unfold lets mst
      rw [e3 4 (by decide), e3 8 (by decide), e65]
    have ec : (fun k => cms q1 M3 k) = (fun k => cms q1 M k) := by
      funext k
      unfold cms
      rw [e3 9 (by decide), e64]
    rw [el, ec, r3']
/-- what is due by the class -/
theorem c_dueBits {qc qd q1 : Nat} {M : Mem} {h : Int32} (hq1 : q1 = 30 ∨ q1 = 40) (hb : base qc M) : ok (f_X4_dueBits q1 qc qd h M) (fun r => r.1 = bitsN (fun b => lawB qc M b h (M q1 0 (3 + b))) (nB M) ∧ fr [26, 27] M r.2) := by
  have h16 := hb.2.2.2.1.1.2
  have nq : q1 ∉ [26, 27] := by rcases hq1 with rfl | rfl <;> decide
  have s2 : ∀ c, c ∈ [26, 27] → c ∉ bCells ∧ c ≠ 54 := by decide
  unfold f_X4_dueBits
  refine ok_bind (P := fun r => r.1 = bitsN (fun b => lawB qc M b h (M q1 0 (3 + b))) (nB M) ∧ fr [26, 27] M r.2) ?_ (fun a h => ok_some h)
  refine ok_wh (fun k s => s.1 = bitsN (fun b => lawB qc M b h (M q1 0 (3 + b))) k ∧ s.2.1 = nI k ∧ fr [26, 27] M s.2.2) (nB M) ⟨rfl, rfl, fr_rfl⟩ (by omega) ?_ ?_
  · rintro k ⟨x2, x3, M1⟩ hk ⟨rfl, rfl, hf⟩
    simp only at hf
    have e := fr_b hf s2
    have e3 : M1 3 = M 3 := e 3 (by decide)
    have hb1 := base_f hb hf s2
    unfold L_X4_dueBits_5 f_X8_finesOf
    simp only [hb1.2.2.2.1.1.1, nB_fr e3, ad3, nI_clamp (show 3 + k < 2 ^ 31 by omega)]
    refine ok_ifn (nI_ge hk (by omega)) (ok_bindE (if_pos (inb_n (by omega) (by decide))) (ok_bind (c_value hb.1 hb1.2.1 (by omega)) ?_))
    rintro ⟨v, M2⟩ ⟨rfl, hf2⟩
    rw [hf q1 nq]
    have hlw : lawB qc M1 k h (M q1 0 (3 + k)) = lawB qc M k h (M q1 0 (3 + k)) := lawB_c hb.1 e _ _ _
    by_cases hv : lvb qc M1 k (h - h / 24 * 24) (h / 24) (M q1 0 (3 + k)) ≤ 0
    · refine ok_ifp hv (ok_some ⟨(bitsN_sf _ _ ?_).symm, nI_1 k, fr_tr hf hf2⟩)
      rw [← hlw]; unfold lawB; simp [hv]
    · refine ok_ifn hv (ok_some ⟨(bitsN_st _ _ ?_).symm, nI_1 k, fr_tr hf hf2⟩)
      rw [← hlw]; unfold lawB; simp [hv]
  · rintro ⟨x2, x3, M1⟩ ⟨rfl, rfl, hf⟩
    simp only at hf
    unfold L_X4_dueBits_5
    simp only [(base_f hb hf s2).2.2.2.1.1.1, nB_fr (fr_b hf s2 3 (by decide))]
    exact ok_ifp (nI_le (Nat.le_refl _) (by omega)) (ok_some ⟨rfl, hf⟩)
