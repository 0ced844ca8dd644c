/-! span -/
/-- knocks only grow -/
theorem brM_kn {n v x : Nat} {lt : Nat → Bool} {cm : Int32} {b : Nat → Int32} (hn : n ≤ 16) : ∃ c, c ≤ 1 ∧ vSum n (brM n v lt cm x b) 32 = vSum n b 32 + nI c := by
  by_cases hc : (b (53 + x) = 0 ∧ cm = b 63) ∨ b (53 + x) = 1
  · have e : ∀ j, j < n → brM n v lt cm x b (32 + j) = if j = pon n lt v (b (48 + x)).toNatClampNeg ∧ pon n lt v (b (48 + x)).toNatClampNeg < n ∧ pon n lt v (b (48 + x)).toNatClampNeg - (b (48 + x)).toNatClampNeg < v then b (32 + j) + 1 else b (32 + j) := by
      intro j hj
      unfold brM goR
      rw [if_pos hc]
      generalize pon n lt v (b (48 + x)).toNatClampNeg = P
      generalize (b (48 + x)).toNatClampNeg = p
      grind
    unfold vSum
    rw [sumN_cong e]
    generalize pon n lt v (b (48 + x)).toNatClampNeg = P
    generalize (b (48 + x)).toNatClampNeg = p
    by_cases hk : P < n ∧ P - p < v
    · refine ⟨1, by omega, ?_⟩
      rw [sumN_cong (g := upd1 (fun j => b (32 + j)) P (b (32 + P) + 1)) (fun j hj => ?_)]
      · exact sumN_upd (f := fun j => b (32 + j)) hk.1
      · by_cases hjP : j = P
        · rw [if_pos ⟨hjP, hk⟩, hjP, upd1_e]
        · rw [if_neg (fun z => hjP z.1), upd1_n hjP]
    · refine ⟨0, by omega, ?_⟩
      rw [sumN_cong (g := fun j => b (32 + j)) (fun j hj => if_neg (fun z => hk z.2))]
      exact (add00 _).symm
  · refine ⟨0, by omega, ?_⟩
    unfold brM
    rw [if_neg hc]
    exact (add00 _).symm
theorem brsM_kn {n v g : Nat} {lt : Nat → Nat → Bool} {cm : Nat → Int32} {b : Nat → Int32} (hn : n ≤ 16) : ∀ k, ∃ c, c ≤ k ∧ vSum n (brsM n v g lt cm k b) 32 = vSum n b 32 + nI c
  | 0 => ⟨0, Nat.le_refl _, (add00 _).symm⟩
  | k + 1 => by
    obtain ⟨c, h1, h2⟩ := brsM_kn (v := v) (g := g) (lt := lt) (cm := cm) (b := b) hn k
    rw [brsM]
    split
    · obtain ⟨d, h3, h4⟩ := brM_kn (v := v) (x := k) (lt := lt k) (cm := cm k) (b := brsM n v g lt cm k b) hn
      refine ⟨c + d, by omega, ?_⟩
      rw [h4, h2, Int32.add_assoc, nI_add]
    · exact ⟨c, by omega, h2⟩
theorem hM_kn {qc : Nat} {M : Mem} {fz : Int32} {b : Nat → Int32} (hn : nB M ≤ 16) : ∃ c, c ≤ 5 ∧ vSum (nB M) (hM qc M fz b) 32 = vSum (nB M) b 32 + nI c := by
  obtain ⟨c, h1, h2⟩ := brsM_kn (n := nB M) (v := vF M) (g := nG M) (lt := fun k => lets M (if k = 4 then b 65 else M 8 0 k) (bitsN (opB qc M b) (nB M) &&& (fz ^^^ (-1)))) (cm := fun k => if k = 4 then b 64 else M 9 0 k) (b := finM (nB M) (fnM qc M fz b) b) hn 5
  refine ⟨c, h1, ?_⟩
  have e1 : vSum (nB M) (hM qc M fz b) 32 = vSum (nB M) (brsM (nB M) (vF M) (nG M) (fun k => lets M (if k = 4 then b 65 else M 8 0 k) (bitsN (opB qc M b) (nB M) &&& (fz ^^^ (-1)))) (fun k => if k = 4 then b 64 else M 9 0 k) 5 (finM (nB M) (fnM qc M fz b) b)) 32 := by
    refine sumN_cong (fun j hj => ?_)
    unfold hM hrM
    rw [if_neg (by omega)]
  rw [e1, h2]
  congr 1
  refine sumN_cong (fun j hj => ?_)
  rw [finM_x, if_neg (by omega)]
theorem bK_kn {qc : Nat} {M : Mem} {F g : Nat → Int32} (hn : nB M ≤ 16) : ∀ k, ∃ c, c ≤ 5 * k ∧ vSum (nB M) (bK qc M F g k) 32 = vSum (nB M) (M 72 0) 32 + nI c
  | 0 => ⟨0, Nat.le_refl _, by
      refine Eq.trans ?_ (add00 _).symm
      refine sumN_cong (fun j hj => ?_)
      show b0 M g _ = _
      unfold b0
      rw [if_pos (by omega)]⟩
  | k + 1 => by
    obtain ⟨c, h1, h2⟩ := bK_kn (qc := qc) (F := F) (g := g) hn k
    obtain ⟨d, h3, h4⟩ := hM_kn (qc := qc) (fz := F k) (b := bK qc M F g k) hn
    refine ⟨c + d, by omega, ?_⟩
    show vSum (nB M) (hM qc M (F k) (bK qc M F g k)) 32 = _
    rw [h4, h2, Int32.add_assoc, nI_add]
theorem vKn_n {qc qs : Nat} {M : Mem} {q seed : Int32} {H : Nat} (h : Rel qc qs M) (hH : H ≤ 240) : ∃ c, c ≤ 1200 ∧ vKn qc M q seed H = nI c := by
  obtain ⟨c, h1, h2⟩ := bK_kn (qc := qc) (F := frz (nB M) q seed) (g := z0) (R_n16 h) H
  refine ⟨c, by omega, ?_⟩
  unfold vKn rowW
  rw [h2]
  grind
def spF (kn : Nat → Int32) (th : Nat → Bool) (k : Nat) (s : Int32 × Int32 × Int32) : Int32 × Int32 × Int32 := ((if k = 0 then kn k else if kn k < s.1 then kn k else s.1), (if s.2.1 < kn k then kn k else s.2.1), s.2.2 + (if th k = true then 1 else 0))
def spS (kn : Nat → Int32) (th : Nat → Bool) (k : Nat) : Int32 × Int32 × Int32 := itr (spF kn th) (0, 0, 0) k
theorem sp_inv {kn : Nat → Int32} {th : Nat → Bool} (h : ∀ k, ∃ c, c ≤ 1200 ∧ kn k = nI c) : ∀ k, ∃ c, c ≤ 1200 ∧ (spS kn th k).1 = nI c
  | 0 => ⟨0, by omega, rfl⟩
  | k + 1 => by
    obtain ⟨c, h1, h2⟩ := sp_inv (th := th) h k
    obtain ⟨d, h3, h4⟩ := h k
    show ∃ c, c ≤ 1200 ∧ (if k = 0 then kn k else if kn k < (spS kn th k).1 then kn k else (spS kn th k).1) = nI c
    split
    · exact ⟨d, h3, h4⟩
    · split
      · exact ⟨d, h3, h4⟩
      · exact ⟨c, h1, h2⟩
def knA (qc : Nat) (M : Mem) (q seed : Int32) (H k : Nat) : Int32 := vKn qc M q (seed + nI k) H
def thB (qc : Nat) (M : Mem) (q seed : Int32) (H k : Nat) : Bool := decide (vTh qc M q (seed + nI k) H = nI (nG M))
theorem k_span {qc qs qd : Nat} {M : Mem} {seed q : Int32} {N H y : Nat} (h : Rel qc qs M) (hN : N ≤ 20) (hN1 : 1 ≤ N) (hw : ¬ ((q < 0 ∨ 16 < q) ∨ (nI H < 1 ∨ 240 < nI H))) (hH : H ≤ 240) (hy : y ≤ 2) : ok (f_X11_span qc qd seed (nI N) q (nI H) (nI y) M) (fun r => r.1 = .inl (pick3 y (spS (knA qc M q seed H) (thB qc M q seed H) N)) ∧ asks M r.2 ∧ cch qc r.2) := by
  have hn := R_n16 h
  have hg := R_g4 h
  unfold f_X11_span
  refine ok_bindE (fitT (by
    rintro (z | z)
    · have : ∀ n, n < 21 → 1 ≤ n → ¬ nI n < 1 := by decide +kernel
      exact this N (by omega) hN1 z
    · exact nI_nlt (a := 20) hN (by decide) z)) (ok_bindE (winT hw) (ok_bindE (fitT (fit_n (n := 2) (by decide) hy)) ?_))
  refine ok_bind (P := fun r => (r.1, r.2.1, r.2.2.1) = spS (knA qc M q seed H) (thB qc M q seed H) N ∧ OF qc M r.2.2.2) ?_ ?_
  · refine ok_wh (fun k s => (s.1, s.2.1, s.2.2.1) = spS (knA qc M q seed H) (thB qc M q seed H) k ∧ s.2.2.2.1 = nI k ∧ OF qc M s.2.2.2.2) N ⟨rfl, rfl, OF_rfl h⟩ (by omega) ?_ ?_
    · rintro k ⟨x6, x7, x8, x9, M1⟩ hk ⟨e1, e2, o1⟩
      simp only at e1 e2 o1
      subst e2
      unfold L_X11_span_35
      refine ok_ifn (nI_ge hk (by omega)) (ok_bind (c_freeze h o1 hH) ?_)
      rintro M2 ⟨o2, hs⟩
      have s := (hs z0).1
      have eG : M2 3 0 5 = nI (nG M) := by rw [(OF_a o2).1 3 (by decide)]; exact R_eG h
      refine ok_bindE (c_knSince (q := q) (seed := seed + nI k) (H := H) h o2 s) ?_
      have eT : f_X8_bargesThrough 40 M2 = some (vTh qc M q (seed + nI k) H) := by rw [c_through, SR_thr hg s]; rfl
      have eS : spS (knA qc M q seed H) (thB qc M q seed H) (k + 1) = spF (knA qc M q seed H) (thB qc M q seed H) k (spS (knA qc M q seed H) (thB qc M q seed H) k) := rfl
      rw [eS, ← e1, eT, eG]
      show ok (if nI k = 0 then Option.bind (some (vTh qc M q (seed + nI k) H)) _ else _) _
      by_cases hk0 : k = 0
      · refine ok_ifp (by rw [hk0]; rfl) (ok_bindE rfl (ok_if (fun hc => ok_some ⟨?_, nI_1 k, o2⟩) (fun hc => ok_some ⟨?_, nI_1 k, o2⟩)))
        · unfold spF thB knA
          rw [if_pos hk0, decide_eq_true hc]; rfl
        · unfold spF thB knA
          rw [if_pos hk0, decide_eq_false hc]; rfl
      · refine ok_ifn (nI_ne0 (by omega) (by omega)) (ok_bindE rfl (ok_if (fun hc => ok_some ⟨?_, nI_1 k, o2⟩) (fun hc => ok_some ⟨?_, nI_1 k, o2⟩)))
        · unfold spF thB knA
          rw [if_neg hk0, decide_eq_true hc]; rfl
        · unfold spF thB knA
          rw [if_neg hk0, decide_eq_false hc]; rfl
    · rintro ⟨x6, x7, x8, x9, M1⟩ ⟨e1, e2, o1⟩
      simp only at e1 e2 o1
      subst e2
      unfold L_X11_span_35
      exact ok_ifp (nI_le (Nat.le_refl _) (by omega)) (ok_some ⟨e1, o1⟩)
  · rintro ⟨x6, x7, x8, M1⟩ ⟨e1, o1⟩
    simp only at e1 o1
    rw [← e1]
    have hy' : y = 0 ∨ y = 1 ∨ y = 2 := by omega
    rcases hy' with rfl | rfl | rfl
    · exact ok_ifp rfl (ok_some ⟨rfl, OF_end o1⟩)
    · exact ok_ifn (by decide) (ok_ifp rfl (ok_some ⟨rfl, OF_end o1⟩))
    · exact ok_ifn (by decide) (ok_ifn (by decide) (ok_some ⟨rfl, OF_end o1⟩))
theorem more_eq (a b : Int32) : f_X12_more a b = if a < b then b else a := by
  unfold f_X12_more
  by_cases h : a < b
  · rw [if_pos h, if_pos (Int32.le_of_lt h)]
  · rw [if_neg h]
    by_cases h2 : a ≤ b
    · rw [if_pos h2]
      have := Int32.not_lt.mp h
      exact Int32.le_antisymm this h2
    · rw [if_neg h2]
theorem less_eq (a b : Int32) : f_X12_less a b = if b < a then b else a := by
  unfold f_X12_less
  by_cases h : b < a
  · rw [if_pos h, if_pos (Int32.le_of_lt h)]
  · rw [if_neg h]
    by_cases h2 : b ≤ a
    · rw [if_pos h2]
      have := Int32.not_lt.mp h
      exact Int32.le_antisymm h2 this
    · rw [if_neg h2]
theorem m_span {qc qs : Nat} {M M1 : Mem} {seed q : Int32} {N H y : Nat} (h : Rel qc qs M) (h1 : Rel qc qs M1) (a1 : asks M M1) (hN : N ≤ 20) (hN1 : 1 ≤ N) (hw : ¬ ((q < 0 ∨ 16 < q) ∨ (nI H < 1 ∨ 240 < nI H))) (hH : H ≤ 240) (hy : y ≤ 2) : ok (f_X12_span seed (nI N) q (nI H) (nI y) M1) (fun r => r.1 = pick3 y (spS (knA qc M q seed H) (thB qc M q seed H) N) ∧ r.2 54 0 0 = 0 ∧ mfr M1 r.2) := by
  have hn := R_n16 h
  have hg := R_g4 h
  unfold f_X12_span
  refine ok_ifn (fun z => by
    rcases (in_eq _ _ _).mp z with z | z
    · have : ∀ n, n < 21 → 1 ≤ n → ¬ nI n < 1 := by decide +kernel
      exact this N (by omega) hN1 z
    · exact nI_nlt (a := 20) hN (by decide) z) (ok_ifn (fun z => hw (isW_eq.mp z)) (ok_ifn (in_n (n := 2) (by decide) hy) (ok_bindE (badM0 _ _ _) (ok_ifp rfl ?_))))
  refine ok_bind (P := fun r => (r.1, r.2.1, r.2.2.1) = spS (knA qc M q seed H) (thB qc M q seed H) N ∧ r.2.2.2 54 0 0 = 0 ∧ mfr M1 r.2.2.2) ?_ ?_
  · refine ok_wh (fun k s => ((if k = 0 then 0 else s.1), s.2.1, s.2.2.1) = spS (knA qc M q seed H) (thB qc M q seed H) k ∧ (k = 0 → s.1 = -1) ∧ s.2.2.2.1 = nI k ∧ s.2.2.2.2 54 0 0 = 0 ∧ mfr M1 s.2.2.2.2) N ⟨rfl, fun _ => rfl, rfl, M0_t M1, mfr_M0 M1⟩ (by omega) ?_ ?_
    · rintro k ⟨x6, x7, x8, x9, M2⟩ hk ⟨e1, e0, e2, t2, m2⟩
      simp only at e1 e0 e2 t2 m2
      subst e2
      unfold L_X12_span_62
      refine ok_ifn (nI_ge hk (by omega)) (ok_bind (m_winter h1 m2 t2 hH) ?_)
      rintro M3 ⟨m3, t3, g, r3, -⟩
      rw [bK_a h.1.1 a1, a_nB a1] at r3
      obtain ⟨g1, g2, g3, g4⟩ := bK_g (q := q) (seed := seed + nI k) h hH g z0
      have a3 : asks M M3 := asks_tr a1 (asks_m m3)
      have e72 : M3 72 = M 72 := a3.1 72 (by decide)
      have eG := a_mG h a3
      refine ok_bindE (m_sumOf (f := 32) rfl (a_mB h a3) hn (by decide)) (ok_bindE (m_sumOf (f := 32) rfl (a_mB h a3) hn (by decide)) ?_)
      have eK : sumN (fun j => M3 73 0 (32 + j)) (nB M) - sumN (fun j => M3 72 0 (32 + j)) (nB M) = knA qc M q seed H k := by
        rw [r3, e72]
        exact congrArg (fun z => z - vSum (nB M) (M 72 0) 32) g3
      have eT : f_X12_throughIn 73 M3 = some (vTh qc M q (seed + nI k) H) := by
        rw [m_through eG hg, r3]
        exact congrArg some g1
      rw [eK, eT, eG, more_eq, less_eq]
      have eS : spS (knA qc M q seed H) (thB qc M q seed H) (k + 1) = spF (knA qc M q seed H) (thB qc M q seed H) k (spS (knA qc M q seed H) (thB qc M q seed H) k) := rfl
      rw [eS, ← e1]
      unfold spF
      by_cases hk0 : k = 0
      · refine ok_ifp (e0 hk0) (ok_bindE rfl (ok_if (fun hc => ok_some ⟨?_, fun z => by omega, nI_1 k, t3, m3⟩) (fun hc => ok_some ⟨?_, fun z => by omega, nI_1 k, t3, m3⟩)))
        · rw [if_neg (show ¬ k + 1 = 0 by omega), if_pos hk0, show thB qc M q seed H k = true from decide_eq_true hc]; rfl
        · rw [if_neg (show ¬ k + 1 = 0 by omega), if_pos hk0, show thB qc M q seed H k = false from decide_eq_false hc]; rfl
      · obtain ⟨c, c1, c2⟩ := sp_inv (th := thB qc M q seed H) (fun k => vKn_n (q := q) (seed := seed + nI k) h hH) k
        have hx : x6 = nI c := by
          rw [← c2]
          show x6 = (spS (knA qc M q seed H) (thB qc M q seed H) k).1
          rw [← e1, if_neg hk0]
        refine ok_ifn (by rw [hx]; exact nI_m1 (by omega)) (ok_bindE rfl (ok_if (fun hc => ok_some ⟨?_, fun z => by omega, nI_1 k, t3, m3⟩) (fun hc => ok_some ⟨?_, fun z => by omega, nI_1 k, t3, m3⟩)))
        · rw [if_neg (show ¬ k + 1 = 0 by omega), if_neg hk0, if_neg hk0, show thB qc M q seed H k = true from decide_eq_true hc]; rfl
        · rw [if_neg (show ¬ k + 1 = 0 by omega), if_neg hk0, if_neg hk0, show thB qc M q seed H k = false from decide_eq_false hc]; rfl
    · rintro ⟨x6, x7, x8, x9, M2⟩ ⟨e1, e0, e2, t2, m2⟩
      simp only at e1 e0 e2 t2 m2
      subst e2
      rw [if_neg (show ¬ N = 0 by omega)] at e1
      unfold L_X12_span_62
      exact ok_ifp (nI_le (Nat.le_refl _) (by omega)) (ok_some ⟨e1, t2, m2⟩)
  · rintro ⟨x6, x7, x8, M2⟩ ⟨e1, t2, m2⟩
    simp only at e1 t2 m2
    rw [← e1]
    have hy' : y = 0 ∨ y = 1 ∨ y = 2 := by omega
    rcases hy' with rfl | rfl | rfl
    · exact ok_ifp rfl (ok_some ⟨rfl, t2, m2⟩)
    · exact ok_ifn (by decide) (ok_ifp rfl (ok_some ⟨rfl, t2, m2⟩))
    · exact ok_ifn (by decide) (ok_ifn (by decide) (ok_some ⟨rfl, t2, m2⟩))
theorem t_span {qc qs qd : Nat} {x y z w u : Int32} {M : Mem} (h : Rel qc qs M) : ok (f_X11_span qc qd x y z w u M) (fun r => ok (f_X12_span x y z w u r.2) (fun r' => ans1 r.1 r'.1 (r'.2 54 0 0) ∧ Rel qc qs r'.2)) := by
  have hg := R_n16 h
  have em := R_mB h
  have h8 := R_s8 h
  have emS := R_mS h
  by_cases hy_0 : y < 1 ∨ 20 < y
  · unfold f_X11_span
    refine ok_bindE (fitF hy_0) (ok_some ?_)
    unfold f_X12_span
    exact ok_ifp ((in_eq _ _ _).mpr hy_0) (ok_bindE (bad14 M (by decide)) (ok_ifn (by decide) (ok_some ⟨⟨rfl, RM_t 14 1 M⟩, Rel_RM (k := 14) (Or.inr rfl) h⟩)))
  · skip
    by_cases hz_1 : (z < 0 ∨ 16 < z) ∨ (w < 1 ∨ 240 < w)
    · unfold f_X11_span
      refine ok_bindE (fitT hy_0) (ok_bindE (winF hz_1) (ok_some ?_))
      unfold f_X12_span
      exact ok_ifn (fun z => hy_0 ((in_eq _ _ _).mp z)) (ok_ifp (isW_eq.mpr hz_1) (ok_bindE (bad14 M (by decide)) (ok_ifn (by decide) (ok_some ⟨⟨rfl, RM_t 14 1 M⟩, Rel_RM (k := 14) (Or.inr rfl) h⟩))))
    · skip
      by_cases hu_2 : u < 0 ∨ 2 < u
      · unfold f_X11_span
        refine ok_bindE (fitT hy_0) (ok_bindE (winT hz_1) (ok_bindE (fitF hu_2) (ok_some ?_)))
        unfold f_X12_span
        exact ok_ifn (fun z => hy_0 ((in_eq _ _ _).mp z)) (ok_ifn (fun z => hz_1 (isW_eq.mp z)) (ok_ifp ((in_eq _ _ _).mpr hu_2) (ok_bindE (bad14 M (by decide)) (ok_ifn (by decide) (ok_some ⟨⟨rfl, RM_t 14 1 M⟩, Rel_RM (k := 14) (Or.inr rfl) h⟩)))))
      · skip
        obtain ⟨a_y, rfl, l_y, g_y⟩ := args1 (n := 20) rfl (by decide) hy_0
        obtain ⟨a_w, rfl, l_w, g_w⟩ := args1 (n := 240) rfl (by decide) (fun z => hz_1 (Or.inr z))
        obtain ⟨a_u, rfl, l_u⟩ := args (n := 2) rfl (by decide) hu_2
        exact t_of1 h (k_span h l_y g_y hz_1 l_w l_u) (fun M1 h1 a1 => m_span h h1 a1 l_y g_y hz_1 l_w l_u)
