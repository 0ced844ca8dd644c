/-! nose -/
def mxU (f : Nat → Nat) : Nat → Nat
  | 0 => 0
  | k + 1 => if mxU f k < f k then f k else mxU f k
theorem mxU_s (f : Nat → Nat) (k : Nat) : mxU f (k + 1) = if mxU f k < f k then f k else mxU f k := rfl
theorem mxU_b {f : Nat → Nat} (h : ∀ s, f s ≤ 65536) : ∀ k, mxU f k ≤ 65536 ∧ (∀ s, s < k → f s ≤ mxU f k) ∧ (mxU f k = 0 ∨ ∃ s, s < k ∧ mxU f k = f s)
  | 0 => ⟨Nat.zero_le _, fun s hs => (by cases hs), Or.inl rfl⟩
  | k + 1 => by
    obtain ⟨a, b, c⟩ := mxU_b h k
    rw [mxU_s]
    have := h k
    split
    · rename_i hc
      refine ⟨this, fun s hs => ?_, Or.inr ⟨k, by omega, rfl⟩⟩
      by_cases e : s = k
      · rw [e]; exact Nat.le_refl _
      · have := b s (by omega); omega
    · rename_i hc
      refine ⟨a, fun s hs => ?_, ?_⟩
      · by_cases e : s = k
        · rw [e]; omega
        · exact b s (by omega)
      · rcases c with c | ⟨s, s1, s2⟩
        · exact Or.inl c
        · exact Or.inr ⟨s, by omega, s2⟩
def mxV (f : Nat → Nat) : Int32 := nI (mxU f 16)
theorem mxV_M {f : Nat → Nat} (h : ∀ s, f s ≤ 65536) : MX f (mxV f) := by
  obtain ⟨a, b, c⟩ := mxU_b h 16
  exact ⟨_, rfl, a, b, c⟩
theorem smB_le {K n b : Nat} {rg : Nat → Nat → Bool} (hn : n ≤ 16) (s : Nat) : smB K rg n b s ≤ 65536 := Nat.le_trans (cn_le _ _) (p16 hn)
def nsF (inB : Nat → Bool) (wv : Nat → Int32) (b : Nat) (s : Int32 × Int32) : Int32 × Int32 := if inB b = true then s else if s.1 = -1 then (nI b, wv b) else if wv b < s.2 then (nI b, wv b) else s
def inBk (qs : Nat) (M : Mem) (b : Nat) : Bool := decide (M qs 0 b ≠ -1)
def wvM (qs : Nat) (M : Mem) (b : Nat) : Int32 := mxV (smB (kS M) (rgM qs M) (nB M) b)
def noS (qs : Nat) (M : Mem) (k : Nat) : Int32 × Int32 := itr (nsF (inBk qs M) (wvM qs M)) (-1, -1) k
theorem noS_s (qs : Nat) (M : Mem) (k : Nat) : noS qs M (k + 1) = nsF (inBk qs M) (wvM qs M) k (noS qs M k) := rfl
theorem NW_50 {K n : Nat} {rg : Nat → Nat → Bool} {M M1 M2 : Mem} (nw : NW K n rg M M1) (f : fr [50] M1 M2) : NW K n rg M2 M2 := by
  obtain ⟨-, -, a, b, c⟩ := nw
  refine ⟨fr_rfl, fun _ _ => rfl, ?_, ?_, ?_⟩
  · rw [f 45 (by decide)]; exact a
  · rw [f 48 (by decide)]; exact b
  · rw [f 49 (by decide)]; exact c
theorem k_nose {qc qs qn : Nat} {M : Mem} {y : Nat} (h : Rel qc qs M) (hy : y ≤ 1) : ok (f_X11_nose qs qn (nI y) M) (fun r => r.1 = .inl (if y = 0 then (noS qs M (nB M)).1 else (noS qs M (nB M)).2) ∧ asks M r.2 ∧ cch qc r.2) := by
  have hn := R_n16 h
  unfold f_X11_nose
  refine ok_bindE (fitT (fit_n (n := 1) (by decide) hy)) (ok_bind (k_weigh h) ?_)
  intro M1 nw
  refine ok_bind (P := fun r => (r.1, r.2.1) = noS qs M (nB M) ∧ fr [50] M1 r.2.2) ?_ ?_
  · refine ok_wh (fun k s => (s.1, s.2.1) = noS qs M k ∧ s.2.2.1 = nI k ∧ fr [50] M1 s.2.2.2) (nB M) ⟨rfl, rfl, fr_rfl⟩ (by omega) ?_ ?_
    · rintro k ⟨x2, x3, y, M2⟩ hk ⟨e1, e2, f2⟩
      simp only at e1 e2 f2
      subst e2
      have e3 : M2 3 = M 3 := by rw [f2 3 (by decide), nw.1 3 (by decide)]
      have eq : M2 qs = M qs := by rcases h.2.1 with rfl | rfl <;> rw [f2 _ (by decide), nw.1 _ (by decide)]
      have eN : M2 3 0 0 = nI (nB M) := by rw [e3]; exact R_eB h
      have ei : f_X5_isInBook qs qn (nI k) M2 = some (if inBk qs M k = true then 1 else 0) := by
        unfold f_X5_isInBook inBk
        rw [if_pos (inb_n (by omega) (by decide)), nI_clamp (by omega), eq]
        by_cases hc : M qs 0 k = -1
        · rw [if_pos hc, decide_eq_false (fun z => z hc)]; rfl
        · rw [if_neg hc, decide_eq_true hc]; rfl
      unfold L_X11_nose_21
      simp only [eN]
      refine ok_ifn (nI_ge hk (by omega)) (ok_bindE ei ?_)
      have ns : noS qs M (k + 1) = nsF (inBk qs M) (wvM qs M) k (x2, x3) := by rw [noS_s, ← e1]
      cases hb : inBk qs M k
      · refine ok_ifp rfl (ok_bind (c_most (NW_50 nw f2) (by rw [e3]; exact R_eK h) (R_k4 h) hn hk) ?_)
        rintro ⟨v6, M6⟩ ⟨mx, f6⟩
        have ev : v6 = wvM qs M k := MX_u mx (mxV_M (smB_le hn))
        have hv1 : v6 ≠ -1 := by
          obtain ⟨u, e, b, -⟩ := mx
          simp only at e
          rw [e]; exact nI_m1 (by omega)
        have e5 : noS qs M (k + 1) = if x2 = -1 then (nI k, v6) else if v6 < x3 then (nI k, v6) else (x2, x3) := by
          rw [ns, ev]
          unfold nsF
          rw [hb]
          rfl
        refine ok_ifn hv1 ?_
        by_cases h1 : x2 = -1
        · exact ok_ifp h1 (ok_some ⟨by rw [e5, if_pos h1], nI_1 k, fr_tr f2 f6⟩)
        · refine ok_ifn h1 ?_
          by_cases h2 : x3 ≤ v6
          · exact ok_ifp h2 (ok_some ⟨by rw [e5, if_neg h1, if_neg (by rw [Int32.not_lt]; exact h2)], nI_1 k, fr_tr f2 f6⟩)
          · exact ok_ifn h2 (ok_some ⟨by rw [e5, if_neg h1, if_pos (by rw [← Int32.not_le]; exact h2)], nI_1 k, fr_tr f2 f6⟩)
      · refine ok_ifn (by decide) (ok_some ⟨?_, nI_1 k, f2⟩)
        show (x2, x3) = _
        rw [ns]
        unfold nsF
        rw [hb]
        rfl
    · rintro ⟨x2, x3, y, M2⟩ ⟨e1, e2, f2⟩
      simp only at e1 e2 f2
      subst e2
      unfold L_X11_nose_21
      simp only [f2 3 (by decide), nw.1 3 (by decide), R_eB h]
      exact ok_ifp (nI_le (Nat.le_refl _) (by omega)) (ok_some ⟨e1, f2⟩)
  · rintro ⟨x2, x3, M2⟩ ⟨e1, f2⟩
    simp only at e1 f2
    have fin : asks M M2 ∧ cch qc M2 := askN h (fr_tr (fr_mono nw.1 (by decide)) (fr_mono f2 (by decide))) (by rw [f2 45 (by decide)]; exact nw.2.1 3 (by decide))
    rw [← e1]
    have : y = 0 ∨ y = 1 := by omega
    rcases this with rfl | rfl
    · exact ok_ifp rfl (ok_some ⟨rfl, fin⟩)
    · exact ok_ifn (by decide) (ok_some ⟨rfl, fin⟩)
theorem m_nz {M : Mem} : ok (wh L_X12_nose_32 FU ((0 : Int32), M)) (fun M' => fr [78] M M' ∧ ∀ b, b < 16 → ∀ v, v < 16 → M' 78 (b + 1) v = 0) := by
  refine ok_wh (fun k s => s.1 = nI k ∧ fr [78] M s.2 ∧ ∀ b, b < k → ∀ v, v < 16 → s.2 78 (b + 1) v = 0) 16 ⟨rfl, fr_rfl, fun b hb => by cases hb⟩ (by decide) ?_ ?_
  · rintro k ⟨y, M1⟩ hk ⟨e1, f1, v1⟩
    simp only at e1 f1 v1
    subst e1
    unfold L_X12_nose_32
    refine ok_ifn (nI_ge (b := 16) hk (by decide)) (ok_bind (P := fun M' => fr [78] M1 M' ∧ (∀ r, r ≠ k + 1 → M' 78 r = M1 78 r) ∧ ∀ v, v < 16 → M' 78 (k + 1) v = 0) ?_ ?_)
    · refine ok_wh (fun i s => s.1 = nI i ∧ fr [78] M1 s.2 ∧ (∀ r, r ≠ k + 1 → s.2 78 r = M1 78 r) ∧ ∀ v, v < i → s.2 78 (k + 1) v = 0) 16 ⟨rfl, fr_rfl, fun _ _ => rfl, fun v hv => by cases hv⟩ (by decide) ?_ ?_
      · rintro i ⟨y, M2⟩ hi ⟨e2, f2, o2, v2⟩
        simp only at e2 f2 o2 v2
        subst e2
        unfold L_X12_nose_40
        simp only [nI_clamp (show k < 2 ^ 31 by omega), nI_clamp (show i < 2 ^ 31 by omega)]
        refine ok_ifn (nI_ge (b := 16) hi (by decide)) (ok_ifp (inb_n hk (by decide)) (ok_ifp (inb_n hi (by decide)) (ok_some ⟨nI_1 i, fr_u3 f2 (by decide), fun r hr => ?_, fun v hv => ?_⟩)))
        · show am_u3 M2 78 (k + 1) i 0 78 r = _
          rw [← o2 r hr]
          funext j
          exact u3_j (fun z => hr z.1)
        · show am_u3 M2 78 (k + 1) i 0 78 (k + 1) v = 0
          by_cases e : v = i
          · rw [e, u3_e]
          · rw [u3_j (fun z => e z.2)]; exact v2 v (by omega)
      · rintro ⟨y, M2⟩ ⟨e2, f2, o2, v2⟩
        simp only at e2 f2 o2 v2
        subst e2
        unfold L_X12_nose_40
        exact ok_ifp (by decide) (ok_some ⟨f2, o2, v2⟩)
    · rintro M2 ⟨f2, o2, v2⟩
      refine ok_some ⟨nI_1 k, fr_tr f1 f2, fun b hb v hv => ?_⟩
      show M2 78 (b + 1) v = 0
      by_cases e : b = k
      · rw [e]; exact v2 v hv
      · rw [o2 _ (by omega)]; exact v1 b (by omega) v hv
  · rintro ⟨y, M1⟩ ⟨e1, f1, v1⟩
    simp only at e1 f1 v1
    subst e1
    unfold L_X12_nose_32
    exact ok_ifp (by decide) (ok_some ⟨f1, v1⟩)
theorem R_78 {qc qs : Nat} {M M' : Mem} (h : Rel qc qs M) (f : fr [78] M M') : Rel qc qs M' ∧ asks M M' := by
  have m : mfr M M' := mfr_f f (by decide)
  exact ⟨Rel_q h asks_rfl (R_cch h) m, asks_m m⟩
theorem m_nb {qc qs : Nat} {M : Mem} {m : Nat} (h : Rel qc qs M) : ok (wh (L_X12_nose_94 (nI m)) FU ((0 : Int32), M)) (fun M' => fr [78] M M' ∧ ∀ b, b < nB M → ∀ v, v < 16 → M' 78 (b + 1) v = M 78 (b + 1) v + (if sw (kS M) b m = v then 1 else 0)) := by
  have hn := R_n16 h
  refine ok_wh (fun k s => s.1 = nI k ∧ fr [78] M s.2 ∧ ∀ b, b < nB M → ∀ v, v < 16 → s.2 78 (b + 1) v = M 78 (b + 1) v + (if b < k ∧ sw (kS M) b m = v then 1 else 0)) (nB M) ⟨rfl, fr_rfl, fun b _ v _ => by rw [if_neg (by omega), add00]⟩ (by omega) ?_ ?_
  · rintro k ⟨y, M1⟩ hk ⟨e1, f1, v1⟩
    simp only at e1 f1 v1
    subst e1
    have hs : sw (kS M) k m < 16 := sN_lt _
    unfold L_X12_nose_94
    simp only [f1 58 (by decide), R_mB h, nI_clamp (show k < 2 ^ 31 by omega)]
    refine ok_ifn (nI_ge hk (by omega)) (ok_ifp (inb_n (by omega) (by decide)) (ok_bindE (m_sw (K := kS M) (by rw [f1 58 (by decide)]; exact R_mK h) (R_k4 h) (by omega)) ?_))
    rw [nI_clamp (show sw (kS M) k m < 2 ^ 31 by omega)]
    refine ok_ifp (inb_n hs (by decide)) (ok_some ⟨nI_1 k, fr_u3 f1 (by decide), fun b hb v hv => ?_⟩)
    show am_u3 M1 78 (k + 1) (sw (kS M) k m) _ 78 (b + 1) v = _
    by_cases e : b = k
    · subst e
      by_cases e2 : v = sw (kS M) b m
      · subst e2
        rw [u3_e, v1 b hb _ hv, if_neg (by omega), if_pos ⟨by omega, rfl⟩, add00]
      · rw [u3_j (fun z => e2 z.2), v1 b hb v hv, if_neg (by omega), if_neg (fun z => e2 z.2.symm)]
    · rw [u3_j (fun z => e (by omega)), v1 b hb v hv]
      by_cases hc : b < k ∧ sw (kS M) b m = v
      · rw [if_pos hc, if_pos ⟨by omega, hc.2⟩]
      · rw [if_neg hc, if_neg (fun z => hc ⟨by omega, z.2⟩)]
  · rintro ⟨y, M1⟩ ⟨e1, f1, v1⟩
    simp only at e1 f1 v1
    subst e1
    unfold L_X12_nose_94
    simp only [f1 58 (by decide), R_mB h]
    refine ok_ifp (nI_le (Nat.le_refl _) (by omega)) (ok_some ⟨f1, fun b hb v hv => ?_⟩)
    rw [v1 b hb v hv]
    by_cases hc : sw (kS M) b m = v
    · rw [if_pos ⟨hb, hc⟩, if_pos hc]
    · rw [if_neg (fun z => hc z.2), if_neg hc]
theorem m_ns {qc qs : Nat} {M : Mem} (h : Rel qc qs M) (hz : ∀ b, b < 16 → ∀ v, v < 16 → M 78 (b + 1) v = 0) : ok (wh L_X12_nose_69 FU ((0 : Int32), M)) (fun M' => fr [78] M M' ∧ ∀ b, b < nB M → ∀ v, v < 16 → M' 78 (b + 1) v = nI (smB (kS M) (rgM qs M) (nB M) b v)) := by
  have hn := R_n16 h
  have hp := p16 hn
  refine ok_wh (fun k s => s.1 = nI k ∧ fr [78] M s.2 ∧ ∀ b, b < nB M → ∀ v, v < 16 → s.2 78 (b + 1) v = nI (cn (fun m => opM qs M m && decide (sw (kS M) b m = v)) k)) (2 ^ nB M) ⟨rfl, fr_rfl, fun b hb v hv => hz b (by omega) v hv⟩ (by omega) ?_ ?_
  · rintro k ⟨y, M1⟩ hk ⟨e1, f1, v1⟩
    simp only at e1 f1 v1
    subst e1
    obtain ⟨h1, a1⟩ := R_78 h f1
    unfold L_X12_nose_69
    simp only [f1 58 (by decide), R_mB h, shl1' (nB M) (by omega)]
    refine ok_ifn (nI_ge hk (by omega)) (ok_bindE (m_isOpener h1) ?_)
    rw [opM_a h.2.1 a1]
    cases ho : opM qs M k
    · refine ok_ifp rfl (ok_some ⟨nI_1 k, f1, fun b hb v hv => ?_⟩)
      rw [cn_s, ho]
      exact v1 b hb v hv
    · refine ok_ifn (by decide) (ok_bind (m_nb h1) ?_)
      rintro M2 ⟨f2, v2⟩
      refine ok_some ⟨nI_1 k, fr_tr f1 f2, fun b hb v hv => ?_⟩
      show M2 78 (b + 1) v = _
      rw [v2 b (by rw [a_nB a1]; exact hb) v hv, v1 b hb v hv, kS_a a1, cn_s, ho, ← nI_add]
      by_cases hc : sw (kS M) b k = v
      · rw [if_pos hc, decide_eq_true hc]; rfl
      · rw [if_neg hc, decide_eq_false hc]; rfl
  · rintro ⟨y, M1⟩ ⟨e1, f1, v1⟩
    simp only at e1 f1 v1
    subst e1
    unfold L_X12_nose_69
    simp only [f1 58 (by decide), R_mB h, shl1' (nB M) (by omega)]
    exact ok_ifp (nI_le (Nat.le_refl _) (by omega)) (ok_some ⟨f1, v1⟩)
theorem m_in {qc qs : Nat} {M : Mem} {b : Nat} (h : Rel qc qs M) (hb : b < nB M) : ok (wh (L_X12_nose_160 (nI b) M) FU ((0 : Int32), (0 : Int32))) (fun v => v = if inBk qs M b = true then 1 else 0) := by
  have hn := R_n16 h
  obtain ⟨l, l12, -, e34, h1, h2⟩ := h.2.2.2.2.2.2.2.1
  refine ok_wh (fun k s => s.2 = nI k ∧ ((s.1 = 1 ∧ ∃ i, i < l ∧ M 67 (i + 1) 0 = nI b) ∨ (s.1 = 0 ∧ ∀ i, i < k → M 67 (i + 1) 0 ≠ nI b))) l ⟨rfl, Or.inr ⟨rfl, fun i hi => by cases hi⟩⟩ (by omega) ?_ ?_
  · rintro k ⟨v, y⟩ hk ⟨e1, g⟩
    simp only at e1 g
    subst e1
    unfold L_X12_nose_160
    simp only [e34, nI_clamp (show k < 2 ^ 31 by omega)]
    refine ok_ifn (nI_ge hk (by omega)) ?_
    rcases g with ⟨rfl, g⟩ | ⟨rfl, g⟩
    · exact ok_ifn (by decide) (ok_some ⟨nI_1 k, Or.inl ⟨rfl, g⟩⟩)
    · refine ok_ifp rfl (ok_ifp (inb_n (by omega) (by decide)) ?_)
      by_cases hc : M 67 (k + 1) 0 = nI b
      · exact ok_ifp hc (ok_some ⟨nI_1 k, Or.inl ⟨rfl, k, hk, hc⟩⟩)
      · refine ok_ifn hc (ok_some ⟨nI_1 k, Or.inr ⟨rfl, fun i hi => ?_⟩⟩)
        by_cases e : i = k
        · rw [e]; exact hc
        · exact g i (by omega)
  · rintro ⟨v, y⟩ ⟨e1, g⟩
    simp only at e1 g
    subst e1
    unfold L_X12_nose_160
    simp only [e34]
    refine ok_ifp (nI_le (Nat.le_refl _) (by omega)) (ok_some ?_)
    show v = _
    unfold inBk
    rcases g with ⟨rfl, i, i1, i2⟩ | ⟨rfl, g⟩
    · obtain ⟨b', x, hb', hx, q1, q2, q3⟩ := h1 i i1
      rw [i2] at q1
      have : b = b' := (nI_eq (by omega) (by omega)).mp q1
      subst this
      rw [q3, decide_eq_true (nI_m1 (by omega))]; rfl
    · rw [h2 b hb g]; rfl
theorem m_wst {M : Mem} {f : Nat → Nat} {b : Nat} (hb : b < 16) (hf : ∀ s, f s ≤ 65536) (hv : ∀ v, v < 16 → M 78 (b + 1) v = nI (f v)) : wh (L_X12_nose_204 (nI b) M) FU ((0 : Int32), (0 : Int32)) = some (mxV f) := by
  refine wh_for (fun k => (nI (mxU f k), nI k)) 16 _ (by decide) ?_ ?_
  · intro k hk
    have b1 := (mxU_b hf k).1
    have b2 := hf k
    unfold L_X12_nose_204
    simp only []
    rw [if_neg (show ¬ (16 : Int32) ≤ nI k from nI_ge (b := 16) hk (by decide)), if_pos (inb_n hb (by decide)), if_pos (inb_n hk (by decide)), nI_clamp (by omega), nI_clamp (by omega), hv k hk, nI_1, mxU_s]
    unfold f_X12_more
    by_cases hc : mxU f k < f k
    · rw [if_pos (nI_le (by omega) (by omega)), if_pos hc]
    · rw [if_neg hc]
      by_cases he : mxU f k = f k
      · rw [if_pos (by rw [he]; exact nI_le (Nat.le_refl _) (by omega)), he]
      · rw [if_neg (nI_ge (by omega) (by omega))]
  · unfold L_X12_nose_204
    simp only []
    rw [if_pos (by decide)]
    rfl
theorem noS_a {qs : Nat} {M M' : Mem} (hq : qs = 46 ∨ qs = 47) (a : asks M M') (k : Nat) : noS qs M' k = noS qs M k := by
  have e1 : inBk qs M' = inBk qs M := by
    funext b
    unfold inBk
    rw [show M' qs = M qs by rcases hq with rfl | rfl <;> exact a.1 _ (by decide)]
  have e2 : wvM qs M' = wvM qs M := by
    funext b
    unfold wvM
    rw [rgM_a hq a, kS_a a, a_nB a]
  unfold noS
  rw [e1, e2]
theorem m_nose {qc qs : Nat} {M M1 : Mem} {y : Nat} (h : Rel qc qs M) (h1 : Rel qc qs M1) (a1 : asks M M1) (hy : y ≤ 1) : ok (f_X12_nose (nI y) M1) (fun r => r.1 = (if y = 0 then (noS qs M (nB M)).1 else (noS qs M (nB M)).2) ∧ r.2 54 0 0 = 0 ∧ mfr M1 r.2) := by
  have h0 := Rel_M0 h1
  have a0 : asks M (M0 M1) := asks_tr a1 (asks_m (mfr_M0 M1))
  have hn := R_n16 h
  unfold f_X12_nose
  refine ok_ifn (in_n (n := 1) (by decide) hy) (ok_bindE (badM0 _ _ _) (ok_ifp rfl (ok_bind m_nz ?_)))
  rintro M9 ⟨f9, z9⟩
  obtain ⟨h9, a9⟩ := R_78 h0 f9
  have A9 : asks M M9 := asks_tr a0 a9
  refine ok_bind (m_ns h9 z9) ?_
  rintro M18 ⟨f18, v18⟩
  obtain ⟨h18, a18⟩ := R_78 h9 f18
  have A18 : asks M M18 := asks_tr A9 a18
  have m18 : mfr M1 M18 := mfr_tr (mfr_M0 M1) (mfr_f (fr_tr f9 f18) (by decide))
  have t18 : M18 54 0 0 = 0 := by rw [f18 54 (by decide), f9 54 (by decide)]; exact M0_t M1
  have eB : nB M18 = nB M := a_nB A18
  have wv : ∀ b, b < nB M → wh (L_X12_nose_204 (nI b) M18) FU ((0 : Int32), (0 : Int32)) = some (wvM qs M18 b) := by
    intro b hb
    have e9 : nB M9 = nB M := a_nB A9
    refine m_wst (by omega) (smB_le (by omega)) (fun v hv => ?_)
    rw [v18 b (by rw [e9]; exact hb) v hv, rgM_a h.2.1 A9, rgM_a h.2.1 A18, kS_a A9, kS_a A18, e9, eB]
  rw [← noS_a h.2.1 A18]
  refine ok_bind (P := fun r => r = noS qs M18 (nB M)) ?_ ?_
  · refine ok_wh (fun k s => (s.1, s.2.1) = noS qs M18 k ∧ s.2.2 = nI k) (nB M) ⟨rfl, rfl⟩ (by omega) ?_ ?_
    · rintro k ⟨x2, x3, y⟩ hk ⟨e1, e2⟩
      simp only at e1 e2
      subst e2
      have ns : noS qs M18 (k + 1) = nsF (inBk qs M18) (wvM qs M18) k (x2, x3) := by rw [noS_s, ← e1]
      unfold L_X12_nose_140
      simp only [R_mB h18, eB]
      refine ok_ifn (nI_ge hk (by omega)) (ok_bind (m_in h18 (by rw [eB]; exact hk)) ?_)
      rintro v rfl
      refine ok_bindE (wv k hk) ?_
      cases hb : inBk qs M18 k
      · have e5 : noS qs M18 (k + 1) = if x2 = -1 then (nI k, wvM qs M18 k) else if wvM qs M18 k < x3 then (nI k, wvM qs M18 k) else (x2, x3) := by
          rw [ns]
          unfold nsF
          rw [hb]
          rfl
        refine ok_ifp rfl ?_
        by_cases c1 : x2 = -1
        · exact ok_ifp c1 (ok_some ⟨by rw [e5, if_pos c1], nI_1 k⟩)
        · refine ok_ifn c1 ?_
          by_cases c2 : wvM qs M18 k < x3
          · exact ok_ifp c2 (ok_some ⟨by rw [e5, if_neg c1, if_pos c2], nI_1 k⟩)
          · exact ok_ifn c2 (ok_some ⟨by rw [e5, if_neg c1, if_neg c2], nI_1 k⟩)
      · refine ok_ifn (by decide) (ok_some ⟨?_, nI_1 k⟩)
        show (x2, x3) = _
        rw [ns]
        unfold nsF
        rw [hb]
        rfl
    · rintro ⟨x2, x3, y⟩ ⟨e1, e2⟩
      simp only at e1 e2
      subst e2
      unfold L_X12_nose_140
      simp only [R_mB h18, eB]
      exact ok_ifp (nI_le (Nat.le_refl _) (by omega)) (ok_some e1)
  · rintro ⟨x2, x3⟩ e
    rw [← e]
    have : y = 0 ∨ y = 1 := by omega
    rcases this with rfl | rfl
    · exact ok_ifp rfl (ok_some ⟨rfl, t18, m18⟩)
    · exact ok_ifn (by decide) (ok_some ⟨rfl, t18, m18⟩)
theorem t_nose {qc qs qn : Nat} {x : Int32} {M : Mem} (h : Rel qc qs M) : ok (f_X11_nose qs qn x M) (fun r => ok (f_X12_nose x r.2) (fun r' => ans1 r.1 r'.1 (r'.2 54 0 0) ∧ Rel qc qs r'.2)) := by
  have hg := R_n16 h
  have em := R_mB h
  have h8 := R_s8 h
  have emS := R_mS h
  by_cases hx_0 : x < 0 ∨ 1 < x
  · unfold f_X11_nose
    refine ok_bindE (fitF hx_0) (ok_some ?_)
    unfold f_X12_nose
    exact ok_ifp ((in_eq _ _ _).mpr hx_0) (ok_bindE (bad14 M (by decide)) (ok_ifn (by decide) (ok_some ⟨⟨rfl, RM_t 14 1 M⟩, Rel_RM (k := 14) (Or.inr rfl) h⟩)))
  · skip
    obtain ⟨a_x, rfl, l_x⟩ := args (n := 1) rfl (by decide) hx_0
    exact t_of1 h (k_nose h l_x) (fun M1 h1 a1 => m_nose h h1 a1 l_x)
