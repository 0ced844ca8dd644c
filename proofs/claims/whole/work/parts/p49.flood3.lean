/-! flood -/
def HH (ns : Nat) (dr f t : Nat → Nat) (la : Nat → Int) (n m : Nat) : Prop := ∀ s, s < ns → la s ≤ (wN dr (f s) (t s) m n : Int)
def lxl (n m m' : Nat) : Prop := pcN m n < pcN m' n ∨ (pcN m n = pcN m' n ∧ m ≤ m')
def FV (ns : Nat) (dr f t : Nat → Nat) (la : Nat → Int) (n : Nat) (v : Int32) : Prop := (v = -1 ∧ ∀ m, m < 2 ^ n → ¬ HH ns dr f t la n m) ∨ ∃ m, m < 2 ^ n ∧ v = nI m ∧ HH ns dr f t la n m ∧ ∀ m', m' < 2 ^ n → HH ns dr f t la n m' → lxl n m m'
theorem FV_u {ns : Nat} {dr f t : Nat → Nat} {la : Nat → Int} {n : Nat} {v v' : Int32} (h : FV ns dr f t la n v) (h' : FV ns dr f t la n v') : v = v' := by
  rcases h with ⟨e, h⟩ | ⟨m, m1, e, m2, m3⟩
  · rcases h' with ⟨e', h'⟩ | ⟨m', n1, e', n2, n3⟩
    · rw [e, e']
    · exact absurd n2 (h m' n1)
  · rcases h' with ⟨e', h'⟩ | ⟨m', n1, e', n2, n3⟩
    · exact absurd m2 (h' m m1)
    · have a := m3 m' n1 n2
      have b := n3 m m1 m2
      have : m = m' := by unfold lxl at a b; omega
      rw [e, e', this]
def drM (M : Mem) (b : Nat) : Nat := if b < nB M then (M 6 0 b).toNatClampNeg else 0
def fS (M : Mem) (s : Nat) : Nat := (M 10 0 s).toNatClampNeg
def tS (M : Mem) (s : Nat) : Nat := (M 11 0 s).toNatClampNeg
def ndS (M : Mem) (s : Nat) : Nat := (M 12 0 s).toNatClampNeg
def la0 (M : Mem) (x : Int32) (s : Nat) : Int := if bt x s = true then (ndS M s : Int) else 0
theorem R_dr {qc qs : Nat} {M : Mem} (h : Rel qc qs M) : (∀ b, b < nB M → M 6 0 b = nI (drM M b)) ∧ ∀ b, drM M b ≤ 9 := by
  have k : ∀ b, b < nB M → M 6 0 b = nI (drM M b) ∧ drM M b ≤ 9 := by
    intro b hb
    obtain ⟨-, -, ⟨x, hx, e⟩, -⟩ := h.2.2.1.1 b hb
    unfold drM
    rw [if_pos hb, e, nI_clamp (by omega)]
    exact ⟨rfl, hx⟩
  refine ⟨fun b hb => (k b hb).1, fun b => ?_⟩
  by_cases hb : b < nB M
  · exact (k b hb).2
  · unfold drM; rw [if_neg hb]; omega
theorem R_sS {qc qs : Nat} {M : Mem} (h : Rel qc qs M) {s : Nat} (hs : s < nS M) : M 10 0 s = nI (fS M s) ∧ M 11 0 s = nI (tS M s) ∧ M 12 0 s = nI (ndS M s) ∧ fS M s ≤ tS M s ∧ tS M s < nB M ∧ ndS M s ≤ 40 := by
  have h16 := R_n16 h
  obtain ⟨f, t, x, e1, e2, e3, ft, tn, x1, x2⟩ := h.2.2.1.2.2 s hs
  unfold fS tS ndS
  rw [e1, e2, e3, nI_clamp (by omega), nI_clamp (by omega), nI_clamp (by omega)]
  exact ⟨rfl, rfl, rfl, ft, tn, x2⟩
theorem R_FB {qc qs : Nat} {M : Mem} (h : Rel qc qs M) : FB (nB M) (nS M) (drM M) (fS M) (tS M) M :=
  ⟨R_eB h, R_eS h, (R_dr h).1, fun s hs => ⟨(R_sS h hs).1, (R_sS h hs).2.1, (R_sS h hs).2.2.2.1, (R_sS h hs).2.2.2.2.1⟩⟩
theorem c_fewest {qc qs : Nat} {M : Mem} {x : Int32} (h : Rel qc qs M) : ok (f_X2_fewest x M) (fun r => fr [43, 44] M r.2 ∧ FV (nS M) (drM M) (fS M) (tS M) (la0 M x) (nB M) r.1) := by
  have hn := R_n16 h
  have h8 := R_s8 h
  have hB := R_FB h
  unfold f_X2_fewest
  refine ok_bind (P := fun M5 => fr [44] M M5 ∧ ∀ s, s < nS M → M5 44 0 s = if bt x s = true then M 12 0 s else 0) ?_ ?_
  · refine ok_wh (fun k s => s.1 = nI k ∧ fr [44] M s.2 ∧ ∀ j, j < k → s.2 44 0 j = if bt x j = true then M 12 0 j else 0) (nS M) ⟨rfl, fr_rfl, fun j hj => by cases hj⟩ (by omega) ?_ ?_
    · rintro k ⟨y, M1⟩ hk ⟨e1, f1, o1⟩
      simp only at e1 f1 o1
      subst e1
      unfold L_X2_fewest_2
      simp only [f1 3 (by decide), f1 12 (by decide), R_eS h, nI_clamp (show k < 2 ^ 31 by omega)]
      refine ok_ifn (nI_ge hk (by omega)) ?_
      cases hb : bt x k
      · refine ok_ifp ((isBit0 _ (by omega)).mpr hb) (ok_ifp (inb_n (by omega) (by decide)) (ok_some ⟨nI_1 k, fr_u3 f1 (by decide), fun j hj => ?_⟩))
        show am_u3 M1 44 0 k 0 44 0 j = _
        by_cases e : j = k
        · rw [e, u3_e, hb]; rfl
        · rw [u3_j (by omega)]; exact o1 j (by omega)
      · refine ok_ifn (fun z => by rw [(isBit0 _ (by omega)).mp z] at hb; cases hb) (ok_ifp (inb_n (by omega) (by decide)) (ok_some ⟨nI_1 k, fr_u3 f1 (by decide), fun j hj => ?_⟩))
        show am_u3 M1 44 0 k (M 12 0 k) 44 0 j = _
        by_cases e : j = k
        · rw [e, u3_e, hb]; rfl
        · rw [u3_j (by omega)]; exact o1 j (by omega)
    · rintro ⟨y, M1⟩ ⟨e1, f1, o1⟩
      simp only at e1 f1 o1
      subst e1
      unfold L_X2_fewest_2
      simp only [f1 3 (by decide), R_eS h]
      exact ok_ifp (nI_le (Nat.le_refl _) (by omega)) (ok_some ⟨f1, o1⟩)
  · rintro M5 ⟨f5, o5⟩
    have hB5 := FB_fr hB (fr_mono f5 (by decide))
    have l5 : ∀ s, s < nS M → laM M5 s = la0 M x s := by
      intro s hs
      unfold laM la0
      rw [o5 s hs, (R_sS h hs).2.2.1]
      have := (R_sS h hs).2.2.2.2.2
      cases bt x s
      · rfl
      · show (nI (ndS M s)).toInt = _
        rw [nI_toInt (by omega)]; rfl
    have b5 : ∀ s, s < nS M → 0 ≤ la0 M x s ∧ la0 M x s ≤ 40 := by
      intro s hs
      have := (R_sS h hs).2.2.2.2.2
      unfold la0
      split <;> omega
    refine ok_bind (P := fun e => (∃ M7 k m, e = Sum.inl M7 ∧ fr [43, 44] M M7 ∧ M7 43 0 2 = nI m ∧ Bst (nS M) (drM M) (fS M) (tS M) (la0 M x) (nB M) k m ∧ ∀ k', k' < k → ∀ m, ¬ Gd (nS M) (drM M) (fS M) (tS M) (la0 M x) (nB M) k' m) ∨ (∃ M7, e = Sum.inr M7 ∧ fr [43, 44] M M7 ∧ ∀ k', k' < nB M + 1 → ∀ m, ¬ Gd (nS M) (drM M) (fS M) (tS M) (la0 M x) (nB M) k' m)) ?_ ?_
    · refine ok_wh (fun k s => s.1 = nI k ∧ fr [43, 44] M s.2 ∧ (∀ j, s.2 44 0 j = M5 44 0 j) ∧ ∀ k', k' < k → ∀ m, ¬ Gd (nS M) (drM M) (fS M) (tS M) (la0 M x) (nB M) k' m) (nB M + 1) ⟨rfl, fr_mono f5 (by decide), fun _ => rfl, fun k' hk' => by cases hk'⟩ (by omega) ?_ ?_
      · rintro k ⟨y, M1⟩ hk ⟨e1, f1, o1, g1⟩
        simp only at e1 f1 o1 g1
        subst e1
        have l1 : ∀ s, s < nS M → laM (am_u3 M1 43 0 2 0) s = la0 M x s := by
          intro s hs
          rw [← l5 s hs]
          unfold laM
          rw [u3_c (by decide), o1 s]
        unfold L_X2_fewest_48
        simp only [f1 3 (by decide), R_eB h]
        refine ok_ifn (nI_nlt (by omega) (by omega)) ?_
        unfold f_X2_choose
        refine ok_bind (c_choose hn h8 (R_dr h).2 (nB M) 30 k (am_u3 M1 43 0 2 0) (by omega) (Nat.le_refl _) (by omega) (FB_fr hB (fr_u3 f1 (by decide))) (fun s hs => by rw [l1 s hs]; have := b5 s hs; omega) (u3_e _ _ _ _ _)) ?_
        rintro ⟨v, M7⟩ (⟨q1, q2, m, q3, q4⟩ | ⟨q1, q2, q3, q4, q5⟩)
        · simp only at q1 q2 q4
          subst q1
          exact ok_ifn (show ¬ (1 : Int32) = 0 by decide) (ok_some (Or.inl ⟨M7, k, m, rfl, fr_tr (fr_u3 f1 (by decide)) q2, q4, Bst_c l1 q3, g1⟩))
        · simp only at q1 q2 q4 q5
          subst q1
          refine ok_ifp rfl (ok_some ⟨nI_1 k, fr_tr (fr_u3 f1 (by decide)) q2, fun j => ?_, fun k' hk' m => ?_⟩)
          · show M7 44 0 j = _
            rw [q5 j, u3_c (by decide)]; exact o1 j
          · by_cases e : k' = k
            · rw [e]; exact fun z => q3 m ((Gd_c l1).mpr z)
            · exact g1 k' (by omega) m
      · rintro ⟨y, M1⟩ ⟨e1, f1, o1, g1⟩
        simp only at e1 f1 o1 g1
        subst e1
        unfold L_X2_fewest_48
        simp only [f1 3 (by decide), R_eB h]
        exact ok_ifp (nI_lt (by omega) (by omega)) (ok_some (Or.inr ⟨M1, rfl, f1, g1⟩))
    · have toG : ∀ m, m < 2 ^ nB M → HH (nS M) (drM M) (fS M) (tS M) (la0 M x) (nB M) m → Gd (nS M) (drM M) (fS M) (tS M) (la0 M x) (nB M) (pcN m (nB M)) m := fun m h1 h2 => ⟨h1, rfl, h2⟩
      rintro e (⟨M7, k, m, rfl, f7, q1, q2, q3⟩ | ⟨M7, rfl, f7, q3⟩)
      · refine ok_some ⟨f7, Or.inr ⟨m, q2.1.1, q1, q2.1.2.2, fun m' h1 h2 => ?_⟩⟩
        have hp := q2.1.2.1
        unfold lxl
        rcases Nat.lt_trichotomy (pcN m' (nB M)) k with z | z | z
        · exact absurd (toG m' h1 h2) (q3 _ z m')
        · right
          refine ⟨by omega, q2.2 m' ?_⟩
          rw [← z]; exact toG m' h1 h2
        · left; omega
      · refine ok_some ⟨f7, Or.inl ⟨rfl, fun m h1 h2 => ?_⟩⟩
        have := pc_d m (nB M)
        exact q3 _ (by omega) m (toG m h1 h2)
theorem hol_w {qc qs : Nat} {M : Mem} (h : Rel qc qs M) {s m : Nat} (hs : s < nS M) : hol M (nI m) s = decide (ndS M s ≤ wN (drM M) (fS M s) (tS M s) m (nB M)) := by
  have hn := R_n16 h
  obtain ⟨e1, e2, e3, ft, tn, x2⟩ := R_sS h hs
  have w0 : wN (drM M) (fS M s) (tS M s) m (fS M s) = 0 := by
    have := wN_out (dr := drM M) (f := fS M s) (t := tS M s) (m := m) (lo := 0) (fS M s) (fun b _ hb => by omega)
    rw [Nat.zero_add] at this
    exact this
  have key : ∀ j, fS M s + j ≤ tS M s + 1 → sumN (fun i => if bt (nI m) (fS M s + i) = true then M 6 0 (fS M s + i) else 0) j = nI (wN (drM M) (fS M s) (tS M s) m (fS M s + j)) := by
    intro j
    induction j with
    | zero => intro _; rw [Nat.add_zero, w0]; rfl
    | succ j ih =>
      intro hj
      rw [sumN_s, ih (by omega), show fS M s + (j + 1) = fS M s + j + 1 by omega, wN_s, ← nI_add, bt_nI _ (by omega)]
      cases hb : m.testBit (fS M s + j)
      · rw [if_neg (by decide), if_neg (fun z => by cases z.2.2)]; rfl
      · rw [if_pos rfl, if_pos ⟨by omega, by omega, rfl⟩, (R_dr h).1 _ (by omega)]
  have b := aN_b (dr := drM M) (f := fS M s) (t := tS M s) (R_dr h).2 (nB M)
  have b2 := wN_a (drM M) (fS M s) (tS M s) m (nB M)
  have w1 := wN_out (dr := drM M) (f := fS M s) (t := tS M s) (m := m) (lo := tS M s + 1) (nB M - (tS M s + 1)) (fun b hb _ => by omega)
  rw [show tS M s + 1 + (nB M - (tS M s + 1)) = nB M by omega] at w1
  unfold hol
  show decide (¬ sumN (fun i => if bt (nI m) (fS M s + i) = true then M 6 0 (fS M s + i) else 0) (tS M s + 1 - fS M s) < M 12 0 s) = _
  rw [key _ (by omega), show fS M s + (tS M s + 1 - fS M s) = tS M s + 1 by omega, ← w1, e3]
  apply decide_eq_decide.mpr
  rw [Int32.not_lt, nI_leI (by omega) (by omega)]
theorem ones_n (m : Nat) : f_X12_ones (nI m) = some (nI (pcN m 16)) := by
  rw [ones_eq]
  congr 1
  have : ∀ k, k ≤ 16 → sumN (fun j => if bt (nI m) j = true then 1 else 0) k = nI (pcN m k) := by
    intro k
    induction k with
    | zero => intro _; rfl
    | succ k ih =>
      intro hk
      rw [sumN_s, ih (by omega), pc_s, bt_nI _ (by omega), ← nI_add]
      cases m.testBit k <;> rfl
  exact this 16 (Nat.le_refl _)
theorem shl1' : ∀ n, n < 17 → (1 : Int32) <<< (nI n &&& 31) = nI (2 ^ n) := by decide +kernel
theorem m_flood1 {qc qs : Nat} {M : Mem} {x : Int32} {m : Nat} (h : Rel qc qs M) : ok (wh (L_X12_flood_80 x (nI m) M) FU ((1 : Int32), (0 : Int32))) (fun v => (v = 1 ∧ HH (nS M) (drM M) (fS M) (tS M) (la0 M x) (nB M) m) ∨ (v = 0 ∧ ¬ HH (nS M) (drM M) (fS M) (tS M) (la0 M x) (nB M) m)) := by
  have h8 := R_s8 h
  refine ok_wh (fun k st => st.2 = nI k ∧ ((st.1 = 1 ∧ ∀ s, s < k → la0 M x s ≤ (wN (drM M) (fS M s) (tS M s) m (nB M) : Int)) ∨ (st.1 = 0 ∧ ¬ HH (nS M) (drM M) (fS M) (tS M) (la0 M x) (nB M) m))) (nS M) ⟨rfl, Or.inl ⟨rfl, fun s hs => by cases hs⟩⟩ (by omega) ?_ ?_
  · rintro k ⟨v, y⟩ hk ⟨e1, g⟩
    simp only at e1 g
    subst e1
    unfold L_X12_flood_80
    simp only [R_mS h]
    refine ok_ifn (nI_ge hk (by omega)) ?_
    rcases g with ⟨rfl, g⟩ | ⟨rfl, g⟩
    · refine ok_ifn (by decide) ?_
      have ext : la0 M x k ≤ (wN (drM M) (fS M k) (tS M k) m (nB M) : Int) → ∀ s, s < k + 1 → la0 M x s ≤ (wN (drM M) (fS M s) (tS M s) m (nB M) : Int) := by
        intro hc s hs
        by_cases e : s = k
        · rw [e]; exact hc
        · exact g s (by omega)
      cases hb : bt x k
      · refine ok_ifp ((has0 _ (by omega)).mpr hb) (ok_some ⟨nI_1 k, Or.inl ⟨rfl, ext ?_⟩⟩)
        unfold la0
        rw [hb, if_neg (by decide)]
        omega
      · refine ok_ifn (fun z => by rw [(has0 _ (by omega)).mp z] at hb; cases hb) (ok_bindE (m_holding h hk) ?_)
        rw [hol_w h hk]
        by_cases hc : ndS M k ≤ wN (drM M) (fS M k) (tS M k) m (nB M)
        · rw [decide_eq_true hc]
          refine ok_ifn (by decide) (ok_some ⟨nI_1 k, Or.inl ⟨rfl, ext ?_⟩⟩)
          unfold la0
          rw [hb, if_pos rfl]
          omega
        · rw [decide_eq_false hc]
          refine ok_ifp rfl (ok_some ⟨nI_1 k, Or.inr ⟨rfl, fun z => ?_⟩⟩)
          have := z k hk
          unfold la0 at this
          rw [hb, if_pos rfl] at this
          omega
    · exact ok_ifp rfl (ok_some (Or.inr ⟨rfl, g⟩))
  · rintro ⟨v, y⟩ ⟨e1, g⟩
    simp only at e1 g
    subst e1
    unfold L_X12_flood_80
    simp only [R_mS h]
    refine ok_ifp (nI_le (Nat.le_refl _) (by omega)) (ok_some ?_)
    rcases g with ⟨rfl, g⟩ | ⟨rfl, g⟩
    · exact Or.inl ⟨rfl, g⟩
    · exact Or.inr ⟨rfl, g⟩
theorem m_flood2 {qc qs : Nat} {M : Mem} {x : Int32} (h : Rel qc qs M) : ok (wh (L_X12_flood_43 x M) FU ((-1 : Int32), (0 : Int32))) (FV (nS M) (drM M) (fS M) (tS M) (la0 M x) (nB M)) := by
  have hn := R_n16 h
  have hp : 2 ^ nB M ≤ 2 ^ 16 := Nat.pow_le_pow_right (by decide) hn
  have p16 : (2 : Nat) ^ 16 = 65536 := by decide
  refine ok_wh (fun k st => st.2 = nI k ∧ ((st.1 = -1 ∧ ∀ m, m < k → ¬ HH (nS M) (drM M) (fS M) (tS M) (la0 M x) (nB M) m) ∨ ∃ m, m < k ∧ st.1 = nI m ∧ HH (nS M) (drM M) (fS M) (tS M) (la0 M x) (nB M) m ∧ ∀ m', m' < k → HH (nS M) (drM M) (fS M) (tS M) (la0 M x) (nB M) m' → lxl (nB M) m m')) (2 ^ nB M) ⟨rfl, Or.inl ⟨rfl, fun s hs => by cases hs⟩⟩ (by omega) ?_ ?_
  · rintro k ⟨v, y⟩ hk ⟨e1, g⟩
    simp only at e1 g
    subst e1
    unfold L_X12_flood_43
    simp only [R_mB h, shl1' (nB M) (by omega)]
    refine ok_ifn (nI_ge hk (by omega)) ?_
    have pk : pcN k 16 = pcN k (nB M) := by
      have := pc_ge hk (16 - nB M)
      rw [show nB M + (16 - nB M) = 16 by omega] at this
      exact this
    rcases g with ⟨rfl, g⟩ | ⟨m, m1, rfl, m2, m3⟩
    · refine ok_ifp rfl (ok_bind (m_flood1 h) ?_)
      rintro v (⟨rfl, q⟩ | ⟨rfl, q⟩)
      · refine ok_ifn (by decide) (ok_some ⟨nI_1 k, Or.inr ⟨k, by omega, rfl, q, fun m' h1 h2 => ?_⟩⟩)
        by_cases e : m' = k
        · rw [e]; exact Or.inr ⟨rfl, Nat.le_refl _⟩
        · exact absurd h2 (g m' (by omega))
      · refine ok_ifp rfl (ok_some ⟨nI_1 k, Or.inl ⟨rfl, fun m' h1 => ?_⟩⟩)
        by_cases e : m' = k
        · rw [e]; exact q
        · exact g m' (by omega)
    · have pm : pcN m 16 = pcN m (nB M) := by
        have := pc_ge (show m < 2 ^ nB M by omega) (16 - nB M)
        rw [show nB M + (16 - nB M) = 16 by omega] at this
        exact this
      have d1 := pc_d k (nB M)
      have d2 := pc_d m (nB M)
      refine ok_ifn (nI_m1 (by omega)) (ok_bindE (ones_n k) (ok_bindE (ones_n m) ?_))
      rw [pk, pm]
      by_cases hc : pcN k (nB M) < pcN m (nB M)
      · refine ok_ifp (nI_lt hc (by omega)) (ok_bind (m_flood1 h) ?_)
        rintro v (⟨rfl, q⟩ | ⟨rfl, q⟩)
        · refine ok_ifn (by decide) (ok_some ⟨nI_1 k, Or.inr ⟨k, by omega, rfl, q, fun m' h1 h2 => ?_⟩⟩)
          by_cases e : m' = k
          · rw [e]; exact Or.inr ⟨rfl, Nat.le_refl _⟩
          · have := m3 m' (by omega) h2
            unfold lxl at this ⊢
            omega
        · refine ok_ifp rfl (ok_some ⟨nI_1 k, Or.inr ⟨m, by omega, rfl, m2, fun m' h1 h2 => ?_⟩⟩)
          by_cases e : m' = k
          · rw [e] at h2; exact absurd h2 q
          · exact m3 m' (by omega) h2
      · refine ok_ifn (nI_nlt (by omega) (by omega)) (ok_some ⟨nI_1 k, Or.inr ⟨m, by omega, rfl, m2, fun m' h1 h2 => ?_⟩⟩)
        by_cases e : m' = k
        · rw [e]
          unfold lxl
          omega
        · exact m3 m' (by omega) h2
  · rintro ⟨v, y⟩ ⟨e1, g⟩
    simp only at e1 g
    subst e1
    unfold L_X12_flood_43
    simp only [R_mB h, shl1' (nB M) (by omega)]
    exact ok_ifp (nI_le (Nat.le_refl _) (by omega)) (ok_some g)
theorem FV_a {M M' : Mem} {x v : Int32} (a : asks M M') (h : FV (nS M') (drM M') (fS M') (tS M') (la0 M' x) (nB M') v) : FV (nS M) (drM M) (fS M) (tS M) (la0 M x) (nB M) v := by
  have e0 : M' 3 = M 3 := a.1 3 (by decide)
  have e1 : drM M' = drM M := by funext b; unfold drM; rw [a_nB a, a.1 6 (by decide)]
  have e2 : fS M' = fS M := by funext b; unfold fS; rw [a.1 10 (by decide)]
  have e3 : tS M' = tS M := by funext b; unfold tS; rw [a.1 11 (by decide)]
  have e4 : la0 M' x = la0 M x := by funext b; unfold la0 ndS; rw [a.1 12 (by decide)]
  rw [nS_fr e0, e1, e2, e3, e4, a_nB a] at h
  exact h
theorem t_flood {qc qs : Nat} {x : Int32} {M : Mem} (h : Rel qc qs M) : ok (f_X11_flood x M) (fun r => ok (f_X12_flood x r.2) (fun r' => ans1 r.1 r'.1 (r'.2 54 0 0) ∧ Rel qc qs r'.2)) := by
  have h8 := R_s8 h
  have emS := R_mS h
  by_cases hx : x < 0 ∨ ((1 : Int32) <<< (nI (nS M) &&& 31)) - 1 < x
  · unfold f_X11_flood
    rw [R_eS h]
    refine ok_bindE (nbF hx) (ok_some ?_)
    unfold f_X12_flood
    exact ok_ifp ((in_eq _ _ _).mpr (by rw [show (Sum.inr (α := Int32) IAE, am_u3 M 0 0 14 (M 0 0 14 + 1)).2 58 0 2 = nI (nS M) from emS]; exact hx)) (ok_bindE (bad14 M (by decide)) (ok_ifn (by decide) (ok_some ⟨⟨rfl, RM_t 14 1 M⟩, Rel_RM (k := 14) (Or.inr rfl) h⟩)))
  · have kc : ok (f_X11_flood x M) (fun r => ∃ v, r.1 = .inl v ∧ FV (nS M) (drM M) (fS M) (tS M) (la0 M x) (nB M) v ∧ asks M r.2 ∧ cch qc r.2) := by
      unfold f_X11_flood
      rw [R_eS h]
      refine ok_bindE (nbT hx) (ok_bind (c_fewest h) ?_)
      rintro ⟨v, M1⟩ ⟨f1, fv⟩
      exact ok_some ⟨v, rfl, fv, ask2 h (fr_mono f1 (by decide))⟩
    obtain ⟨⟨y, M1⟩, e, v, e1, fv, a1, c1⟩ := kc
    refine t_of1 h (V := v) ⟨(y, M1), e, e1, a1, c1⟩ (fun M1 h1 a1 => ?_)
    have a0 : asks M (M0 M1) := asks_tr a1 (asks_m (mfr_M0 M1))
    unfold f_X12_flood
    refine ok_ifn (fun z => hx (by have z' := (in_eq _ _ _).mp z; rw [show M1 58 0 2 = nI (nS M) by rw [a1.1 58 (by decide)]; exact emS] at z'; exact z')) (ok_bindE (badM0 _ _ _) (ok_ifp rfl (ok_bind (m_flood2 (Rel_M0 h1)) ?_)))
    intro v' fv'
    exact ok_some ⟨FV_u (FV_a a0 fv') fv, M0_t M1, mfr_M0 M1⟩
