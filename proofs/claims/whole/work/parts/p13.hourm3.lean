/-! WHAT IS OPEN, AND THE MODEL'S HOUR -/
def bCells : List Nat := [3, 4, 5, 6, 7, 8, 9, 10, 11, 12, 23, 24, 25, 58, 60, 62, 64, 65]
/-- river and LAW: both sides tell the same -/
def base (qc : Nat) (M : Mem) : Prop := (qc = 24 ∨ qc = 25) ∧ cLaw qc M ∧ mLaw qc M ∧ cBed M ∧ mBed M
theorem nS_fr {M M' : Mem} (e : M' 3 = M 3) : nS M' = nS M := by unfold nS; rw [e]
theorem kS_fr {M M' : Mem} (e : M' 3 = M 3) : kS M' = kS M := by unfold kS; rw [e]
theorem base_c {qc : Nat} {M M' : Mem} (h : base qc M) (e : ∀ c, c ∈ bCells → M' c = M c) (e54 : M' 54 0 19 = M 54 0 19) : base qc M' := by
  obtain ⟨hq, h1, h2, h3, h4⟩ := h
  have e3 : M' 3 = M 3 := e 3 (by decide)
  have e23 : M' 23 = M 23 := e 23 (by decide)
  have eq : M' qc = M qc := by rcases hq with rfl | rfl <;> exact e _ (by decide)
  refine ⟨hq, cLaw_fr e23 eq h1, ?_, cBed_fr e3 h3, ?_⟩
  · unfold mLaw ln at *
    rw [e23, eq, e54, e 65 (by decide)]
    exact h2
  · unfold mBed mBoard at *
    rw [nB_fr e3, nG_fr e3, nS_fr e3, e 58 (by decide), e3, e 60 (by decide), e 62 (by decide), e 64 (by decide), e 4 (by decide), e 5 (by decide), e 6 (by decide), e 7 (by decide), e 8 (by decide), e 9 (by decide), e 10 (by decide), e 11 (by decide), e 12 (by decide)]
    exact h4
theorem base_f {qc : Nat} {M M' : Mem} {S : List Nat} (h : base qc M) (hf : fr S M M') (hS : ∀ c, c ∈ S → c ∉ bCells ∧ c ≠ 54) : base qc M' :=
  base_c h (fun c hc => hf c (fun z => (hS c z).1 hc)) (by rw [hf 54 (fun z => (hS 54 z).2 rfl)])
def lawB (qc : Nat) (M : Mem) (b : Nat) (h f : Int32) : Bool := decide (¬ lvb qc M b (h - h / 24 * 24) (h / 24) f ≤ 0)
theorem lawB_c {qc : Nat} {M M' : Mem} (hq : qc = 24 ∨ qc = 25) (e : ∀ c, c ∈ bCells → M' c = M c) (b : Nat) (h f : Int32) : lawB qc M' b h f = lawB qc M b h f := by
  unfold lawB
  rw [lvb_fr (e 23 (by decide)) (by rcases hq with rfl | rfl <;> exact e _ (by decide)) (e 4 (by decide)) (e 5 (by decide)) (e 6 (by decide)) (e 7 (by decide))]
theorem lawB_f {qc : Nat} {M M' : Mem} {S : List Nat} (hq : qc = 24 ∨ qc = 25) (hf : fr S M M') (hS : ∀ c, c ∈ S → c ∉ bCells ∧ c ≠ 54) (b : Nat) (h f : Int32) : lawB qc M' b h f = lawB qc M b h f :=
  lawB_c hq (fun c hc => hf c (fun z => (hS c z).1 hc)) b h f
theorem m_lawfulNow {qc q1 : Nat} {M : Mem} {b : Nat} (hb : base qc M) (hn : b < nB M) : ok (f_X12_isLawfulNow q1 (nI b) M) (fun r => r.1 = (if lawB qc M b (M q1 0 63) (M q1 0 (16 + b)) = true then 1 else 0) ∧ fr [69, 70] M r.2) := by
  obtain ⟨hq, h1, h2, h3, h4⟩ := hb
  have h16 := h3.1.2
  unfold f_X12_isLawfulNow
  rw [ad16, nI_clamp (show 16 + b < 2 ^ 31 by omega)]
  refine ok_ifp (inb_n (by omega) (by decide)) (ok_bind (m_isLawful hq h1 h2 (by omega) (h4.2.2.2.2.2.1 b hn)) ?_)
  rintro ⟨v, M1⟩ ⟨rfl, hf⟩
  unfold lawB
  by_cases hv : lvb qc M b (M q1 0 63 - M q1 0 63 / 24 * 24) (M q1 0 63 / 24) (M q1 0 (16 + b)) ≤ 0
  · simp only [hv, if_true, not_true_eq_false, decide_false]
    exact ok_ifp rfl (ok_some ⟨rfl, hf⟩)
  · simp only [hv, if_false, not_false_eq_true, decide_true]
    exact ok_ifp rfl (ok_some ⟨rfl, hf⟩)
/-- BOARD b is open by the model's row q1 -/
def opB (qc : Nat) (M : Mem) (r : Nat → Int32) (b : Nat) : Bool := decide (r b = 1) || (decide (r b = 0) && lawB qc M b (r 63) (r (16 + b)))
theorem m_opensIn {qc q1 : Nat} {M : Mem} {b : Nat} (hb : base qc M) (hn : b < nB M) : ok (f_X12_opensIn q1 (nI b) M) (fun r => r.1 = (if opB qc M (M q1 0) b = true then 1 else 0) ∧ fr [69, 70] M r.2) := by
  have h16 := hb.2.2.2.1.1.2
  unfold f_X12_opensIn opB
  rw [ad0, nI_clamp (show b < 2 ^ 31 by omega)]
  refine ok_ifp (inb_n (by omega) (by decide)) ?_
  by_cases h1 : M q1 0 b = 1
  · exact ok_ifp h1 (ok_some ⟨by simp [h1], fr_rfl⟩)
  · refine ok_ifn h1 ?_
    by_cases h0 : M q1 0 b = 0
    · refine ok_ifp h0 (ok_bind (m_lawfulNow hb hn) ?_)
      rintro ⟨v, M1⟩ ⟨rfl, hf⟩
      simp only [h0, decide_true, Bool.true_and]
      cases lawB qc M b (M q1 0 63) (M q1 0 (16 + b))
      · exact ok_ifp rfl (ok_some ⟨rfl, hf⟩)
      · exact ok_ifn (by decide) (ok_some ⟨rfl, hf⟩)
    · exact ok_ifn h0 (ok_some ⟨by simp [h0, h1], fr_rfl⟩)
theorem nb58 {qc : Nat} {M : Mem} (hb : base qc M) : M 58 0 0 = nI (nB M) := by rw [hb.2.2.2.2.1]; exact hb.2.2.2.1.1.1
theorem opB_c {qc : Nat} {M M' : Mem} (hq : qc = 24 ∨ qc = 25) (e : ∀ c, c ∈ bCells → M' c = M c) (r : Nat → Int32) (b : Nat) : opB qc M' r b = opB qc M r b := by
  unfold opB
  rw [lawB_c hq e]
theorem fr_b {M M' : Mem} {S : List Nat} (hf : fr S M M') (hS : ∀ c, c ∈ S → c ∉ bCells ∧ c ≠ 54) : ∀ c, c ∈ bCells → M' c = M c := fun c hc => hf c (fun z => (hS c z).1 hc)
theorem s6970 : ∀ c, c ∈ [69, 70] → c ∉ bCells ∧ c ≠ 54 := by decide
theorem m_openBits {qc q1 : Nat} {M : Mem} (hq1 : q1 = 72 ∨ q1 = 73) (hb : base qc M) : ok (f_X12_openBits q1 M) (fun r => r.1 = bitsN (opB qc M (M q1 0)) (nB M) ∧ fr [69, 70] M r.2) := by
  have h16 := hb.2.2.2.1.1.2
  have nq : q1 ∉ [69, 70] := by rcases hq1 with rfl | rfl <;> decide
  unfold f_X12_openBits
  refine ok_bind (P := fun r => r.1 = bitsN (opB qc M (M q1 0)) (nB M) ∧ fr [69, 70] M r.2) ?_ (fun a h => ok_some h)
  refine ok_wh (fun k s => s.1 = bitsN (opB qc M (M q1 0)) k ∧ s.2.1 = nI k ∧ fr [69, 70] M s.2.2) (nB M) ⟨rfl, rfl, fr_rfl⟩ (by omega) ?_ ?_
  · rintro k ⟨x2, x3, M1⟩ hk ⟨rfl, rfl, hf⟩
    simp only at hf
    have e := fr_b hf s6970
    have e3 : M1 3 = M 3 := e 3 (by decide)
    have hb1 := base_f hb hf s6970
    unfold L_X12_openBits_4
    simp only [nb58 hb1, nB_fr e3]
    refine ok_ifn (nI_ge hk (by omega)) (ok_bind (m_opensIn hb1 (by rw [nB_fr e3]; exact hk)) ?_)
    rintro ⟨v, M2⟩ ⟨rfl, hf2⟩
    rw [opB_c hb.1 e, hf q1 nq]
    cases ho : opB qc M (M q1 0) k
    · exact ok_ifp rfl (ok_some ⟨(bitsN_sf _ _ ho).symm, nI_1 k, fr_tr hf hf2⟩)
    · exact ok_ifn (by simp) (ok_some ⟨(bitsN_st _ _ ho).symm, nI_1 k, fr_tr hf hf2⟩)
  · rintro ⟨x2, x3, M1⟩ ⟨rfl, rfl, hf⟩
    simp only at hf
    unfold L_X12_openBits_4
    simp only [nb58 (base_f hb hf s6970), nB_fr (fr_b hf s6970 3 (by decide))]
    exact ok_ifp (nI_le (Nat.le_refl _) (by omega)) (ok_some ⟨rfl, hf⟩)
/-- who is fined in the model's row -/
def fnM (qc : Nat) (M : Mem) (frz : Int32) (r : Nat → Int32) (b : Nat) : Bool := !(bt frz b) && decide (r b ≠ 0) && (lawB qc M b (r 63) (r (16 + b)) != decide (r b = 1))
def finM (n : Nat) (fn : Nat → Bool) (r : Nat → Int32) : Nat → Int32 := fun i => if 16 ≤ i ∧ i < 16 + n then r i + (if fn (i - 16) = true then 1 else 0) else r i
theorem finM_x (n : Nat) (fn : Nat → Bool) (r : Nat → Int32) (i : Nat) : finM n fn r i = if 16 ≤ i ∧ i < 16 + n then r i + (if fn (i - 16) = true then 1 else 0) else r i := rfl
theorem add00 (x : Int32) : x + 0 = x := Int32.add_zero x
theorem m_fine {qc q1 : Nat} {M : Mem} (hq1 : q1 = 72 ∨ q1 = 73) (hb : base qc M) : ok (wh (L_X12_hourEnds_44 q1) FU ((0 : Int32), M)) (fun M' => fr [69, 70, q1] M M' ∧ M' q1 0 = finM (nB M) (fnM qc M (M 54 0 39) (M q1 0)) (M q1 0)) := by
  have h16 := hb.2.2.2.1.1.2
  have nq : q1 ∉ [69, 70] := by rcases hq1 with rfl | rfl <;> decide
  have sq : ∀ c, c ∈ [69, 70, q1] → c ∉ bCells ∧ c ≠ 54 := by rcases hq1 with rfl | rfl <;> decide
  have n54 : 54 ∉ [69, 70, q1] := by rcases hq1 with rfl | rfl <;> decide
  refine ok_wh (fun k s => s.1 = nI k ∧ fr [69, 70, q1] M s.2 ∧ s.2 q1 0 = finM k (fnM qc M (M 54 0 39) (M q1 0)) (M q1 0)) (nB M) ⟨rfl, fr_rfl, ?_⟩ (by omega) ?_ ?_
  · funext i
    unfold finM
    rw [if_neg (by omega)]
  · rintro k ⟨x3, M1⟩ hk ⟨rfl, hf, hr⟩
    simp only at hf hr
    have e := fr_b hf sq
    have e3 : M1 3 = M 3 := e 3 (by decide)
    have hb1 := base_f hb hf sq
    have r1 : M1 q1 0 k = M q1 0 k := by rw [hr]; unfold finM; rw [if_neg (by omega)]
    have r2 : M1 q1 0 (16 + k) = M q1 0 (16 + k) := by rw [hr]; unfold finM; rw [if_neg (by omega)]
    have r3 : M1 q1 0 63 = M q1 0 63 := by rw [hr]; unfold finM; rw [if_neg (by omega)]
    have done0 : ∀ M2 : Mem, M2 q1 0 = M1 q1 0 → fnM qc M (M 54 0 39) (M q1 0) k = false → M2 q1 0 = finM (k + 1) (fnM qc M (M 54 0 39) (M q1 0)) (M q1 0) := by
      intro M2 e2 hz
      rw [e2, hr]
      funext i
      rw [finM_x, finM_x]
      by_cases hi : i = 16 + k
      · subst hi
        rw [if_neg (by omega), if_pos (by omega), show 16 + k - 16 = k by omega, hz]
        exact (add00 _).symm
      · by_cases h2 : 16 ≤ i ∧ i < 16 + k
        · rw [if_pos h2, if_pos (show 16 ≤ i ∧ i < 16 + (k + 1) by omega)]
        · rw [if_neg h2, if_neg (show ¬ (16 ≤ i ∧ i < 16 + (k + 1)) by omega)]
    have done1 : ∀ (M2 : Mem) (w : Int32), M2 q1 0 = M1 q1 0 → w = (if fnM qc M (M 54 0 39) (M q1 0) k = true then 1 else 0) → am_u3 M2 q1 0 (16 + k) (M q1 0 (16 + k) + w) q1 0 = finM (k + 1) (fnM qc M (M 54 0 39) (M q1 0)) (M q1 0) := by
      intro M2 w e2 hz
      rw [u3_r, e2, hr]
      funext i
      rw [finM_x]
      unfold upd1
      rw [finM_x]
      by_cases hi : i = 16 + k
      · subst hi
        rw [if_pos rfl, if_pos (by omega), show 16 + k - 16 = k by omega, hz]
      · rw [if_neg hi]
        by_cases h2 : 16 ≤ i ∧ i < 16 + k
        · rw [if_pos h2, if_pos (show 16 ≤ i ∧ i < 16 + (k + 1) by omega)]
        · rw [if_neg h2, if_neg (show ¬ (16 ≤ i ∧ i < 16 + (k + 1)) by omega)]
    unfold L_X12_hourEnds_44
    simp only [nb58 hb1, nB_fr e3, ad0, ad16, nI_clamp (show k < 2 ^ 31 by omega), nI_clamp (show 16 + k < 2 ^ 31 by omega), r1, r2, hf 54 n54, has0 _ (show k < 32 by omega)]
    refine ok_ifn (nI_ge hk (by omega)) ?_
    cases hz : bt (M 54 0 39) k
    · refine ok_ifp rfl (ok_ifp (inb_n (by omega) (by decide)) ?_)
      by_cases h0 : M q1 0 k = 0
      · refine ok_ifp h0 (ok_some ⟨nI_1 k, hf, done0 _ rfl (by unfold fnM; simp [h0])⟩)
      · refine ok_ifn h0 (ok_ifp (inb_n (by omega) (by decide)) (ok_bind (m_lawfulNow hb1 (by rw [nB_fr e3]; exact hk)) ?_))
        rintro ⟨v, M2⟩ ⟨rfl, hf2⟩
        have hf' : fr [69, 70, q1] M M2 := fr_tr hf (fr_mono hf2 (fun c hc => by simp at hc ⊢; omega))
        rw [hf2 q1 nq, r1, r2, r3, lawB_c hb.1 e]
        by_cases h1 : M q1 0 k = 1
        · refine ok_ifp h1 ?_
          cases hl : lawB qc M k (M q1 0 63) (M q1 0 (16 + k))
          · exact ok_ifn (by simp) (ok_some ⟨nI_1 k, fr_u3 hf' (by simp), done1 _ _ (by rw [hf2 q1 nq]) (by unfold fnM; simp [hz, h1, hl])⟩)
          · exact ok_ifp rfl (ok_some ⟨nI_1 k, fr_u3 hf' (by simp), done1 _ _ (by rw [hf2 q1 nq]) (by unfold fnM; simp [hz, h1, hl])⟩)
        · refine ok_ifn h1 ?_
          cases hl : lawB qc M k (M q1 0 63) (M q1 0 (16 + k))
          · exact ok_ifp rfl (ok_some ⟨nI_1 k, fr_u3 hf' (by simp), done1 _ _ (by rw [hf2 q1 nq]) (by unfold fnM; simp [hz, h1, hl])⟩)
          · exact ok_ifn (by simp) (ok_some ⟨nI_1 k, fr_u3 hf' (by simp), done1 _ _ (by rw [hf2 q1 nq]) (by unfold fnM; simp [hz, h0, h1, hl])⟩)
    · exact ok_ifn (by decide) (ok_some ⟨nI_1 k, hf, done0 _ rfl (by unfold fnM; simp [hz])⟩)
  · rintro ⟨x3, M1⟩ ⟨rfl, hf, hr⟩
    simp only at hf hr
    unfold L_X12_hourEnds_44
    simp only [nb58 (base_f hb hf sq), nB_fr (fr_b hf sq 3 (by decide))]
    exact ok_ifp (nI_le (Nat.le_refl _) (by omega)) (ok_some ⟨hf, hr⟩)
