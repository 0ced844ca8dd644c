/-! openers -/
def sw (K b m : Nat) : Nat := sN (wd K (b + 1) (m % 2 ^ (b + 1)))
theorem m_sw {M : Mem} {K b m : Nat} (eK : M 58 0 4 = nI K) (hK : K ≤ 4) (hb : b < 16) : f_X12_smellAt (nI b) (nI m) M = some (nI (sw K b m)) := by
  rw [m_smellAt eK hK hb]
  unfold sw
  rw [← scN_n]
  congr 1
  unfold scN
  refine sumN_cong (fun i hi => ?_)
  rw [bt_nI _ (by omega), wd_b]
  have : wn K b (bt (nI m)) i = wn K b m.testBit i := by
    unfold wn
    rw [bt_nI _ (by omega)]
  rw [this]
/-- the sets that are right, of a state -/
def opM (qs : Nat) (M : Mem) : Nat → Bool := opP (kS M) (rgM qs M) (nB M)
theorem m_isOpener {qc qs : Nat} {M : Mem} {m : Nat} (h : Rel qc qs M) : f_X12_isOpener (nI m) M = some (if opM qs M m = true then 1 else 0) := by
  have hn := R_n16 h
  obtain ⟨l, l12, -, e34, h1, h2⟩ := h.2.2.2.2.2.2.2.1
  have key : ok (wh (L_X12_isOpener_2 (nI m) M) FU (0 : Int32)) (fun e => (e = Sum.inr () ∧ opM qs M m = true) ∨ (e = Sum.inl () ∧ opM qs M m = false)) := by
    refine ok_wh (fun k s => s = nI k ∧ ∀ i, i < k → ∀ b, b < nB M → M 67 (i + 1) 0 = nI b → rgM qs M b (wd (kS M) (b + 1) (m % 2 ^ (b + 1))) = true) l ⟨rfl, fun i hi => by cases hi⟩ (by omega) ?_ ?_
    · rintro k s hk ⟨rfl, hi⟩
      obtain ⟨b, x, hb, hx, q1, q2, q3⟩ := h1 k hk
      have hs : sw (kS M) b m < 16 := sN_lt _
      have erg : rgM qs M b (wd (kS M) (b + 1) (m % 2 ^ (b + 1))) = decide (sw (kS M) b m = x) := by
        unfold rgM
        rw [q3, scN_n, decide_eq_false (nI_m1 (by omega)), Bool.false_or]
        show decide (nI x = nI (sw (kS M) b m)) = _
        exact decide_eq_decide.mpr ⟨fun z => ((nI_eq (by omega) (by omega)).mp z).symm, fun z => by rw [z]⟩
      unfold L_X12_isOpener_2
      simp only [e34, nI_clamp (show k < 2 ^ 31 by omega), q1, q2]
      refine ok_ifn (nI_ge hk (by omega)) (ok_ifp (inb_n (by omega) (by decide)) (ok_bindE (m_sw (R_mK h) (R_k4 h) (by omega)) ?_))
      by_cases hc : sw (kS M) b m = x
      · refine ok_ifp (by rw [hc]) (ok_some ⟨nI_1 k, fun i hik b' hb' e' => ?_⟩)
        by_cases e : i = k
        · subst e
          rw [q1] at e'
          have : b = b' := (nI_eq (by omega) (by omega)).mp e'
          subst this
          rw [erg, decide_eq_true hc]
        · exact hi i (by omega) b' hb' e'
      · refine ok_ifn (fun z => hc ((nI_eq (by omega) (by omega)).mp z)) (ok_some (Or.inr ⟨rfl, ?_⟩))
        cases ho : opM qs M m
        · rfl
        · have := opP_iff.mp ho b hb
          rw [erg, decide_eq_false hc] at this
          cases this
    · rintro s ⟨rfl, hi⟩
      unfold L_X12_isOpener_2
      simp only [e34]
      refine ok_ifp (nI_le (Nat.le_refl _) (by omega)) (ok_some (Or.inl ⟨rfl, opP_iff.mpr (fun b hb => ?_)⟩))
      by_cases hx : ∃ i, i < l ∧ M 67 (i + 1) 0 = nI b
      · obtain ⟨i, i1, i2⟩ := hx
        exact hi i i1 b hb i2
      · have := h2 b hb (fun i hi z => hx ⟨i, hi, z⟩)
        unfold rgM
        rw [this]
        rfl
  unfold f_X12_isOpener
  obtain ⟨e, e1, (⟨e2, e3⟩ | ⟨e2, e3⟩)⟩ := key
  · rw [e1, e2, e3]; rfl
  · rw [e1, e2, e3]; rfl
theorem bits_1 : ∀ n, n < 17 → bitsN (fun _ => true) n = nI (2 ^ n - 1) := by decide +kernel
theorem fsb_cn {p : Nat → Bool} {k : Nat} (hk : k < 2 ^ 31) : fsb p k = -1 ↔ cn p k = 0 := by
  constructor
  · intro h
    rcases Nat.eq_zero_or_pos (cn p k) with z | z
    · exact z
    · obtain ⟨m, m1, m2, m3⟩ := exL (cn_pos.mp z)
      rw [fsb_at m1 hk m3 m2] at h
      exact absurd h (nI_m1 (by omega))
  · intro h
    exact fsb_no (cn_z.mp h)
theorem fsb_s (p : Nat → Bool) (k : Nat) : fsb p (k + 1) = if fsb p k = -1 ∧ p k = true then nI k else fsb p k := rfl
theorem m_opnrs {qc qs : Nat} {M : Mem} (h : Rel qc qs M) : wh (L_X12_openers_55 (nI (2 ^ nB M - 1)) M) FU ((0 : Int32), (-1 : Int32), nI (2 ^ nB M - 1), nI (2 ^ nB M - 1), (0 : Int32)) = some (nI (cn (opM qs M) (2 ^ nB M)), fsb (opM qs M) (2 ^ nB M), bitsN (fun b => decide (wtB (kS M) (rgM qs M) (nB M) b = cn (opM qs M) (2 ^ nB M))) (nB M), bitsN (fun b => decide (wtB (kS M) (rgM qs M) (nB M) b = 0)) (nB M)) := by
  have hn := R_n16 h
  have hp := p16 hn
  have hp1 : 1 ≤ 2 ^ nB M := Nat.one_le_two_pow
  have start : ((0 : Int32), (-1 : Int32), nI (2 ^ nB M - 1), nI (2 ^ nB M - 1), (0 : Int32)) = (nI (cn (opM qs M) 0), fsb (opM qs M) 0, bitsN (fun b => decide (cn (fun m => opM qs M m && m.testBit b) 0 = cn (opM qs M) 0)) (nB M), bitsN (fun b => decide (cn (fun m => opM qs M m && m.testBit b) 0 = 0)) (nB M), nI 0) := by
    rw [← bits_1 (nB M) (by omega)]
    rfl
  rw [start]
  refine wh_for (fun k => (nI (cn (opM qs M) k), fsb (opM qs M) k, bitsN (fun b => decide (cn (fun m => opM qs M m && m.testBit b) k = cn (opM qs M) k)) (nB M), bitsN (fun b => decide (cn (fun m => opM qs M m && m.testBit b) k = 0)) (nB M), nI k)) (2 ^ nB M) _ (by omega) ?_ ?_
  · intro k hk
    have hc := cn_le (opM qs M) k
    unfold L_X12_openers_55
    simp only []
    rw [if_neg (nI_nlt (show k ≤ 2 ^ nB M - 1 by omega) (by omega)), m_isOpener h, nI_1]
    simp only [Option.bind]
    cases ho : opM qs M k
    · have ef : fsb (opM qs M) (k + 1) = fsb (opM qs M) k := by rw [fsb_s, ho, if_neg (show ¬ (fsb (opM qs M) k = -1 ∧ false = true) from fun z => by cases z.2)]
      rw [ifb0, cn_s, ho, ef]
      congr 2
      refine Prod.ext rfl (Prod.ext rfl (Prod.ext ?_ (Prod.ext ?_ rfl)))
      · refine bitsN_cong (fun b hb => ?_)
        rw [cn_s, ho]
        rfl
      · refine bitsN_cong (fun b hb => ?_)
        rw [cn_s, ho]
        rfl
    · rw [ifb1, nI_1]
      have e5 : bitsN (fun b => decide (cn (fun m => opM qs M m && m.testBit b) k = cn (opM qs M) k)) (nB M) &&& nI k = bitsN (fun b => decide (cn (fun m => opM qs M m && m.testBit b) (k + 1) = cn (opM qs M) (k + 1))) (nB M) := by
        refine bitsN_eq (by omega) (fun i hi => ?_) (fun i hi h32 => ?_)
        · rw [b_and, bt_bitsN _ (by omega) (by omega), bt_nI _ (by omega), decide_eq_true hi, Bool.true_and, cn_s, cn_s, ho]
          have mo := cn_mono (p := fun m => opM qs M m && m.testBit i) (q := opM qs M) (N := k) (fun m _ z => (Bool.and_eq_true _ _ ▸ z).1)
          cases hb : k.testBit i
          · rw [Bool.and_false]
            symm
            apply decide_eq_false
            show ¬ cn _ k + 0 = cn (opM qs M) k + 1
            omega
          · rw [Bool.and_true]
            apply decide_eq_decide.mpr
            show _ ↔ cn _ k + 1 = cn (opM qs M) k + 1
            omega
        · rw [b_and, bt_bitsN _ (by omega) h32, decide_eq_false (by omega)]
          rfl
      have e6 : bitsN (fun b => decide (cn (fun m => opM qs M m && m.testBit b) k = 0)) (nB M) &&& (nI k ^^^ (-1)) = bitsN (fun b => decide (cn (fun m => opM qs M m && m.testBit b) (k + 1) = 0)) (nB M) := by
        refine bitsN_eq (by omega) (fun i hi => ?_) (fun i hi h32 => ?_)
        · rw [b_and, bt_bitsN _ (by omega) (by omega), b_not _ (by omega), bt_nI _ (by omega), decide_eq_true hi, Bool.true_and, cn_s, ho]
          cases hb : k.testBit i
          · rw [Bool.not_false, Bool.and_true]
            rfl
          · rw [Bool.not_true, Bool.and_false]
            symm
            apply decide_eq_false
            show ¬ cn _ k + 1 = 0
            omega
        · rw [b_and, bt_bitsN _ (by omega) h32, decide_eq_false (by omega)]
          rfl
      rw [e5, e6, cn_s, ho, fsb_s, ho, if_pos rfl]
      by_cases h0 : cn (opM qs M) k = 0
      · rw [if_pos (by rw [h0]; rfl), if_pos ⟨(fsb_cn (by omega)).mpr h0, rfl⟩]
      · rw [if_neg (nI_ne0 (by omega) (by omega)), if_neg (fun z => h0 ((fsb_cn (by omega)).mp z.1))]
  · unfold L_X12_openers_55
    simp only []
    rw [if_pos (nI_lt (by omega) (by omega))]
    rfl
def vOp (qs : Nat) (M : Mem) (y : Nat) : Int32 := if y = 0 then nI (cn (opM qs M) (2 ^ nB M)) else if y = 1 then fsb (opM qs M) (2 ^ nB M) else if cn (opM qs M) (2 ^ nB M) = 0 then 0 else if y = 2 then bitsN (fun b => decide (wtB (kS M) (rgM qs M) (nB M) b = cn (opM qs M) (2 ^ nB M))) (nB M) else bitsN (fun b => decide (wtB (kS M) (rgM qs M) (nB M) b = 0)) (nB M)
theorem rgM_a {qs : Nat} {M M' : Mem} (hq : qs = 46 ∨ qs = 47) (a : asks M M') : rgM qs M' = rgM qs M := by
  funext b w
  unfold rgM
  rw [show M' qs = M qs by rcases hq with rfl | rfl <;> exact a.1 _ (by decide)]
theorem kS_a {M M' : Mem} (a : asks M M') : kS M' = kS M := by unfold kS; rw [a.1 3 (by decide)]
theorem opM_a {qs : Nat} {M M' : Mem} (hq : qs = 46 ∨ qs = 47) (a : asks M M') : opM qs M' = opM qs M := by
  unfold opM
  rw [rgM_a hq a, kS_a a, a_nB a]
theorem vOp_a {qs : Nat} {M M' : Mem} (hq : qs = 46 ∨ qs = 47) (a : asks M M') (y : Nat) : vOp qs M' y = vOp qs M y := by
  unfold vOp
  rw [opM_a hq a, rgM_a hq a, kS_a a, a_nB a]
def cN : List Nat := [45, 48, 49, 50]
theorem askN {qc qs : Nat} {M M' : Mem} (h : Rel qc qs M) (f : fr cN M M') (e : M' 45 0 3 = M 45 0 3) : asks M M' ∧ cch qc M' := by
  refine ⟨⟨fun c hc => f c (by revert c; decide), fun j _ => by rw [f 54 (by decide)], e⟩, cch_s h.1.1 (fun c hc => f c (by revert c; decide)) (by rw [f 38 (by decide)]) (f 41 (by decide)) (by rw [f 30 (by decide)]) (R_cch h)⟩
theorem k_weigh {qc qs qn : Nat} {M : Mem} (h : Rel qc qs M) : ok (f_X5_weigh qs qn M) (NW (kS M) (nB M) (rgM qs M) M) := c_weigh h.2.1 (R_eK h) (R_k4 h) (R_eB h) (R_n16 h) rfl
theorem k_openers {qc qs qn : Nat} {M : Mem} {y : Nat} (h : Rel qc qs M) (hy : y ≤ 3) : ok (f_X11_openers qs qn (nI y) M) (fun r => r.1 = .inl (vOp qs M y) ∧ asks M r.2 ∧ cch qc r.2) := by
  have hn := R_n16 h
  have hp := p16 hn
  have hC : cn (opM qs M) (2 ^ nB M) ≤ 2 ^ nB M := cn_le _ _
  unfold f_X11_openers
  refine ok_bindE (fitT (fit_n (n := 3) (by decide) hy)) (ok_bind (k_weigh h) ?_)
  intro M1 nw
  have fin : asks M M1 ∧ cch qc M1 := askN h (fr_mono nw.1 (by decide)) (nw.2.1 3 (by decide))
  have : y = 0 ∨ y = 1 ∨ y = 2 ∨ y = 3 := by omega
  rcases this with rfl | rfl | rfl | rfl
  · refine ok_ifp rfl (ok_some ⟨?_, fin⟩)
    show Sum.inl (M1 45 0 7) = _
    rw [nw.2.2.1]
    rfl
  · refine ok_ifn (by decide) (ok_ifp rfl (ok_bind (c_first nw (R_eK h) (R_k4 h) (R_eB h) hn) ?_))
    rintro v rfl
    exact ok_some ⟨rfl, fin⟩
  · refine ok_ifn (by decide) (ok_ifn (by decide) (ok_ifp rfl ?_))
    unfold f_X5_boardsInAll
    rw [nw.2.2.1, c_boardsIn nw (R_eK h) (R_k4 h) (R_eB h) hn (show cn (opP (kS M) (rgM qs M) (nB M)) (2 ^ nB M) ≤ 65536 from Nat.le_trans hC hp)]
    exact ok_some ⟨rfl, fin⟩
  · refine ok_ifn (by decide) (ok_ifn (by decide) (ok_ifn (by decide) ?_))
    unfold f_X5_boardsInNone
    rw [show (0 : Int32) = nI 0 from rfl, c_boardsIn nw (R_eK h) (R_k4 h) (R_eB h) hn (by decide)]
    exact ok_some ⟨rfl, fin⟩
theorem m_openers {qc qs : Nat} {M M1 : Mem} {y : Nat} (h : Rel qc qs M) (h1 : Rel qc qs M1) (a1 : asks M M1) (hy : y ≤ 3) : ok (f_X12_openers (nI y) M1) (fun r => r.1 = vOp qs M y ∧ r.2 54 0 0 = 0 ∧ mfr M1 r.2) := by
  have h0 := Rel_M0 h1
  have a0 : asks M (M0 M1) := asks_tr a1 (asks_m (mfr_M0 M1))
  have hn := R_n16 h0
  have hp := p16 hn
  have hC : cn (opM qs (M0 M1)) (2 ^ nB (M0 M1)) ≤ 2 ^ nB (M0 M1) := cn_le _ _
  rw [← vOp_a h.2.1 a0]
  unfold f_X12_openers
  refine ok_ifn (in_n (n := 3) (by decide) hy) (ok_bindE (badM0 _ _ _) (ok_ifp rfl ?_))
  rw [R_mB h0, shl1 (nB (M0 M1)) (by omega)]
  refine ok_bindE (m_opnrs h0) ?_
  have : y = 0 ∨ y = 1 ∨ y = 2 ∨ y = 3 := by omega
  rcases this with rfl | rfl | rfl | rfl
  · exact ok_ifp rfl (ok_some ⟨rfl, M0_t M1, mfr_M0 M1⟩)
  · exact ok_ifn (by decide) (ok_ifp rfl (ok_some ⟨rfl, M0_t M1, mfr_M0 M1⟩))
  · refine ok_ifn (by decide) (ok_ifn (by decide) ?_)
    by_cases hz : cn (opM qs (M0 M1)) (2 ^ nB (M0 M1)) = 0
    · refine ok_ifp (by rw [hz]; rfl) (ok_some ⟨?_, M0_t M1, mfr_M0 M1⟩)
      unfold vOp
      rw [if_neg (by decide), if_neg (by decide), if_pos hz]
    · refine ok_ifn (nI_ne0 (by omega) (by omega)) (ok_ifp rfl (ok_some ⟨?_, M0_t M1, mfr_M0 M1⟩))
      unfold vOp
      rw [if_neg (by decide), if_neg (by decide), if_neg hz, if_pos rfl]
  · refine ok_ifn (by decide) (ok_ifn (by decide) ?_)
    by_cases hz : cn (opM qs (M0 M1)) (2 ^ nB (M0 M1)) = 0
    · refine ok_ifp (by rw [hz]; rfl) (ok_some ⟨?_, M0_t M1, mfr_M0 M1⟩)
      unfold vOp
      rw [if_neg (by decide), if_neg (by decide), if_pos hz]
    · refine ok_ifn (nI_ne0 (by omega) (by omega)) (ok_ifn (by decide) (ok_some ⟨?_, M0_t M1, mfr_M0 M1⟩))
      unfold vOp
      rw [if_neg (by decide), if_neg (by decide), if_neg hz, if_neg (by decide)]
theorem t_openers {qc qs qn : Nat} {x : Int32} {M : Mem} (h : Rel qc qs M) : ok (f_X11_openers qs qn x M) (fun r => ok (f_X12_openers x r.2) (fun r' => ans1 r.1 r'.1 (r'.2 54 0 0) ∧ Rel qc qs r'.2)) := by
  have hg := R_n16 h
  have em := R_mB h
  have h8 := R_s8 h
  have emS := R_mS h
  by_cases hx_0 : x < 0 ∨ 3 < x
  · unfold f_X11_openers
    refine ok_bindE (fitF hx_0) (ok_some ?_)
    unfold f_X12_openers
    exact ok_ifp ((in_eq _ _ _).mpr hx_0) (ok_bindE (bad14 M (by decide)) (ok_ifn (by decide) (ok_some ⟨⟨rfl, RM_t 14 1 M⟩, Rel_RM (k := 14) (Or.inr rfl) h⟩)))
  · skip
    obtain ⟨a_x, rfl, l_x⟩ := args (n := 3) rfl (by decide) hx_0
    exact t_of1 h (k_openers h l_x) (fun M1 h1 a1 => m_openers h h1 a1 l_x)
