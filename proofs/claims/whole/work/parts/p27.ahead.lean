/-! HOURS TO COME: opens, often, peak, busiest -/
theorem t_of1 {qc qs : Nat} {M : Mem} {C : Option ((Int32 ⊕ String) × Mem)} {D : Mem → Option (Int32 × Mem)} {V : Int32} (h : Rel qc qs M) (hc : ok C (fun r => r.1 = .inl V ∧ asks M r.2 ∧ cch qc r.2)) (hm : ∀ M1, Rel qc qs M1 → asks M M1 → ok (D M1) (fun r => r.1 = V ∧ r.2 54 0 0 = 0 ∧ mfr M1 r.2)) : ok C (fun r => ok (D r.2) (fun r' => ans1 r.1 r'.1 (r'.2 54 0 0) ∧ Rel qc qs r'.2)) := by
  refine ok_mono hc ?_
  rintro ⟨y, M1⟩ ⟨e1, a1, c1⟩
  simp only at e1 a1 c1
  have h1 := Rel_a h a1 c1
  refine ok_mono (hm M1 h1 a1) ?_
  rintro ⟨v, M2⟩ ⟨e2, t2, m2⟩
  simp only at e2 t2 m2
  exact ⟨by rw [e1, e2]; exact ⟨t2, rfl⟩, Rel_q h1 asks_rfl c1 m2⟩
theorem t_of2 {qc qs : Nat} {M : Mem} {C : Option ((Int32 ⊕ String) × Mem)} {D : Mem → Option (Int32 × Mem)} {V : Int32} (h : Rel qc qs M) (hc : ok C (fun r => r.1 = .inl V ∧ asks M r.2 ∧ cch qc r.2)) (hm : ∀ M1, Rel qc qs M1 → asks M M1 → ok (D M1) (fun r => r.1 = V ∧ r.2 54 0 0 = 0 ∧ mfr M1 r.2)) : ok C (fun r => ok (D r.2) (fun r' => ans2 r.1 r'.1 (r'.2 54 0 0) ∧ Rel qc qs r'.2)) := by
  refine ok_mono hc ?_
  rintro ⟨y, M1⟩ ⟨e1, a1, c1⟩
  simp only at e1 a1 c1
  have h1 := Rel_a h a1 c1
  refine ok_mono (hm M1 h1 a1) ?_
  rintro ⟨v, M2⟩ ⟨e2, t2, m2⟩
  simp only at e2 t2 m2
  exact ⟨by rw [e1, e2]; exact ⟨t2, rfl⟩, Rel_q h1 asks_rfl c1 m2⟩
theorem t_ofN {qc qs : Nat} {M : Mem} {C : Option ((Int32 ⊕ String) × Mem)} {D : Mem → Option (Int32 × Mem)} {V : Int32} (h : Rel qc qs M) (hc : ok C (fun r => r.1 = .inl V ∧ asks M r.2 ∧ cch qc r.2)) (hm : ∀ M1, Rel qc qs M1 → asks M M1 → ok (D M1) (fun r => r.1 = V ∧ r.2 54 0 0 = 0 ∧ mfr M1 r.2)) : ok C (fun r => ok (D r.2) (fun r' => ansN r.1 r'.1 (r'.2 54 0 0) ∧ Rel qc qs r'.2)) := by
  refine ok_mono hc ?_
  rintro ⟨y, M1⟩ ⟨e1, a1, c1⟩
  simp only at e1 a1 c1
  have h1 := Rel_a h a1 c1
  refine ok_mono (hm M1 h1 a1) ?_
  rintro ⟨v, M2⟩ ⟨e2, t2, m2⟩
  simp only at e2 t2 m2
  exact ⟨by rw [e1, e2]; exact ⟨t2, rfl⟩, Rel_q h1 asks_rfl c1 m2⟩
theorem bd_n {M : Mem} {b n : Nat} (e : M 3 0 0 = nI n) (hn : n < 2 ^ 31) (hb : b < n) : ¬ (nI b < 0 ∨ M 3 0 0 ≤ nI b) := by
  rw [e]
  rintro (z | z)
  · exact nI_pos (by omega) z
  · exact nI_ge hb hn z
theorem fit_n {a n : Nat} (hn : n < 2 ^ 31) (h : a ≤ n) : ¬ (nI a < 0 ∨ nI n < nI a) := by
  rintro (z | z)
  · exact nI_pos (by omega) z
  · exact nI_nlt h hn z
theorem in_n {a n : Nat} (hn : n < 2 ^ 31) (h : a ≤ n) : ¬ f_X12_in (nI a) 0 (nI n) = 0 := fun z => fit_n hn h ((in_eq _ _ _).mp z)
theorem a_mB {qc qs : Nat} {M M1 : Mem} (h : Rel qc qs M) (a : asks M M1) : M1 58 0 0 = nI (nB M) := by rw [a.1 58 (by decide)]; exact R_mB h
theorem a_mV {qc qs : Nat} {M M1 : Mem} (h : Rel qc qs M) (a : asks M M1) : M1 58 0 3 = nI (vF M) := by rw [a.1 58 (by decide)]; exact R_mV h
theorem a_mG {qc qs : Nat} {M M1 : Mem} (h : Rel qc qs M) (a : asks M M1) : M1 58 0 1 = nI (nG M) := by rw [a.1 58 (by decide)]; exact R_mG h
theorem a_nB {M M1 : Mem} (a : asks M M1) : nB M1 = nB M := nB_fr (a.1 3 (by decide))
/-- the class has asked for hours to come -/
def OL (qc : Nat) (M M' : Mem) : Prop := olk M M' ∧ cch qc M'
theorem OL_rfl {qc qs : Nat} {M : Mem} (h : Rel qc qs M) : OL qc M M := ⟨olk_rfl, R_cch h⟩
theorem OL_e3 {qc : Nat} {M M' : Mem} (o : OL qc M M') : M' 3 = M 3 := o.1.1 3 (by decide)
theorem OL_end {qc : Nat} {M M' : Mem} (o : OL qc M M') : asks M M' ∧ cch qc M' := ⟨asks_ol o.1, o.2⟩
theorem OL_open {qc qs qd : Nat} {M M' : Mem} {k : Nat} (h : Rel qc qs M) (o : OL qc M M') (hk : k ≤ 240) : ok (f_X6_openIn qc qd (nI k) M') (fun r => r.1 = openA qc M (M 30 0) k ∧ OL qc M r.2) := by
  refine ok_mono (c_openIn (base_ol h.1 o.1) o.2 hk) ?_
  rintro ⟨v, M1⟩ ⟨rfl, f1, c1⟩
  exact ⟨openA_a h.1.1 (asks_ol o.1) k, olk_tr o.1 f1, c1⟩
/-- the model tries: k hours on -/
def TR (M : Mem) (k : Nat) (M' : Mem) : Prop := mfr M M' ∧ M' 54 0 39 = 0 ∧ M' 54 0 0 = 0 ∧ tK (nB M) (M 72 0) (M' 73 0) k
theorem m_copy {M : Mem} : ok (f_X12_tries M) (fun M' => fr [54, 73] M M' ∧ (∀ j, j < 66 → M' 73 0 j = M 72 0 j) ∧ M' 54 0 39 = 0 ∧ ∀ j, j ≠ 39 → M' 54 0 j = M 54 0 j) := by
  unfold f_X12_tries f_X12_copies_t
  refine ok_bind (P := fun M' => fr [73] M M' ∧ ∀ j, j < 66 → M' 73 0 j = M 72 0 j) (ok_bind (P := fun M' => fr [73] M M' ∧ ∀ j, j < 66 → M' 73 0 j = M 72 0 j) ?_ (fun _ h => ok_some h)) ?_
  · refine ok_wh (fun k s => s.1 = nI k ∧ fr [73] M s.2 ∧ ∀ j, j < k → s.2 73 0 j = M 72 0 j) 66 ⟨rfl, fr_rfl, fun j hj => by cases hj⟩ (by decide) ?_ ?_
    · rintro k ⟨x, M1⟩ hk ⟨rfl, f1, h1⟩
      simp only at f1 h1
      unfold L_X12_copies_t_2
      simp only []
      rw [nI_clamp (show k < 2 ^ 31 by omega)]
      refine ok_ifn (nI_ge (b := 66) hk (by decide)) (ok_ifp (inb_n hk (by decide)) (ok_some ⟨nI_1 k, fr_u3 f1 (by decide), fun j hj => ?_⟩))
      show am_u3 M1 73 0 k _ 73 0 j = _
      by_cases hjk : j = k
      · rw [hjk, u3_e, f1 72 (by decide)]
      · rw [u3_j (by omega)]; exact h1 j (by omega)
    · rintro ⟨x, M1⟩ ⟨rfl, f1, h1⟩
      unfold L_X12_copies_t_2
      exact ok_ifp (by decide) (ok_some ⟨f1, h1⟩)
  · rintro M1 ⟨f1, h1⟩
    refine ok_some ⟨fr_u3 (fr_mono f1 (by decide)) (by decide), fun j hj => ?_, u3_e _ _ _ _ _, fun j hj => ?_⟩
    · rw [u3_c (by decide)]; exact h1 j hj
    · rw [u3_j (by omega), f1 54 (by decide)]
theorem TR_0 {qc qs : Nat} {M : Mem} (h : Rel qc qs M) : ok (f_X12_tries (M0 M)) (TR M 0) := by
  refine ok_mono m_copy ?_
  rintro M' ⟨f, r, e39, e54⟩
  have hs := R_SR h
  refine ⟨?_, e39, ?_, ?_⟩
  · refine mfr_tr (mfr_M0 M) ⟨fr_mono f (by decide), fun j hj => e54 j (by rintro rfl; revert hj; decide)⟩
  · rw [e54 0 (by decide)]; exact M0_t M
  · refine ⟨?_, fun j hj => r j (by have := R_n16 h; omega), fun j hj _ => r _ (by have := R_n16 h; omega), fun x hx => ?_⟩
    · rw [r 63 (by decide)]; exact (add00 _).symm
    · rw [r _ (by omega)]
      exact hs.2.2.2.2.2.2.1 x hx
theorem TR_base {qc qs : Nat} {M M' : Mem} {k : Nat} (h : Rel qc qs M) (t : TR M k M') : base qc M' := base_a h.1 (asks_m t.1)
theorem TR_fr {M M' M2 : Mem} {k : Nat} (t : TR M k M') (f : fr [69, 70] M' M2) : TR M k M2 := by
  obtain ⟨t1, t2, t3, t4⟩ := t
  refine ⟨mfr_tr t1 (mfr_f f (by decide)), by rw [f 54 (by decide)]; exact t2, by rw [f 54 (by decide)]; exact t3, by rw [f 73 (by decide)]; exact t4⟩
theorem TR_open {qc qs : Nat} {M M' : Mem} {k b : Nat} (h : Rel qc qs M) (t : TR M k M') (hb : b < nB M) : ok (f_X12_opensIn 73 (nI b) M') (fun r => r.1 = (if bt (openA qc M (M 30 0) k) b = true then 1 else 0) ∧ TR M k r.2) := by
  have e3 : M' 3 = M 3 := (asks_m t.1).1 3 (by decide)
  refine ok_mono (m_opensIn (qc := qc) (TR_base h t) (by rw [nB_fr e3]; exact hb)) ?_
  rintro ⟨v, M2⟩ ⟨rfl, f2⟩
  refine ⟨?_, TR_fr t f2⟩
  rw [opB_c h.1.1 (asks_b (asks_m t.1)), tK_open (R_n16 h) (R_SR h) t.2.2.2 hb]
theorem TR_bits {qc qs : Nat} {M M' : Mem} {k : Nat} (h : Rel qc qs M) (t : TR M k M') : ok (f_X12_openBits 73 M') (fun r => r.1 = openA qc M (M 30 0) k ∧ TR M k r.2) := by
  have e3 : M' 3 = M 3 := (asks_m t.1).1 3 (by decide)
  refine ok_mono (m_openBits (qc := qc) (Or.inr rfl) (TR_base h t)) ?_
  rintro ⟨v, M2⟩ ⟨rfl, f2⟩
  refine ⟨?_, TR_fr t f2⟩
  rw [nB_fr e3, ← tK_bits (R_n16 h) (R_SR h) t.2.2.2]
  exact bitsN_cong (fun j _ => opB_c h.1.1 (asks_b (asks_m t.1)) _ _)
theorem TR_hour {qc qs : Nat} {M M' : Mem} {k : Nat} (h : Rel qc qs M) (t : TR M k M') : ok (f_X12_hourEnds 73 M') (TR M (k + 1)) := by
  have e3 : M' 3 = M 3 := (asks_m t.1).1 3 (by decide)
  refine ok_mono (m_hourEnds' (qc := qc) (Or.inr rfl) (TR_base h t) (by rw [nB_fr e3]; exact t.2.2.2.2.2.2)) ?_
  rintro M2 ⟨f2, r2⟩
  obtain ⟨t1, t2, t3, t4⟩ := t
  refine ⟨mfr_tr t1 (mfr_f f2 (by decide)), by rw [f2 54 (by decide)]; exact t2, by rw [f2 54 (by decide)]; exact t3, ?_⟩
  rw [r2, hM_c h.1.1 (asks_b (asks_m t1))]
  exact tK_s (R_n16 h) t4
theorem TR_end {M M' : Mem} {k : Nat} (t : TR M k M') : M' 54 0 0 = 0 ∧ mfr M M' := ⟨t.2.2.1, t.1⟩
theorem openA_1 {qc qs : Nat} {M M1 : Mem} (h : Rel qc qs M) (a1 : asks M M1) (k : Nat) : openA qc M1 (M1 30 0) k = openA qc M (M 30 0) k := openA_a h.1.1 a1 k
/-- the first for which it holds, or -1 -/
def fsF (p : Nat → Bool) (k : Nat) (s : Int32) : Int32 := if s = -1 ∧ p k = true then nI k else s
def fsb (p : Nat → Bool) (n : Nat) : Int32 := itr (fsF p) (-1) n
theorem fsb_no {p : Nat → Bool} : ∀ {n : Nat}, (∀ j, j < n → p j = false) → fsb p n = -1
  | 0, _ => rfl
  | n + 1, h => by
    unfold fsb
    rw [itr_s, show itr (fsF p) (-1) n = -1 from fsb_no (fun j hj => h j (by omega)), fsF, h n (by omega)]
    rfl
theorem fsb_at {p : Nat → Bool} {k n : Nat} (hk : k < n) (hn : n < 2 ^ 31) (h : ∀ j, j < k → p j = false) (hp : p k = true) : fsb p n = nI k := by
  have : ∀ m, k < m → m ≤ n → fsb p m = nI k := by
    intro m
    induction m with
    | zero => omega
    | succ m ih =>
      intro h1 h2
      unfold fsb
      rw [itr_s]
      by_cases hm : m = k
      · subst hm
        rw [show itr (fsF p) (-1) m = -1 from fsb_no h, fsF, if_pos ⟨rfl, hp⟩]
      · rw [show itr (fsF p) (-1) m = nI k from ih (by omega) (by omega), fsF, if_neg]
        rintro ⟨z, -⟩
        have z2 : (nI k).toInt = -1 := by rw [z]; rfl
        rw [nI_toInt (by omega)] at z2
        omega
  exact this n hk (Nat.le_refl _)
def vOpens (qc : Nat) (M : Mem) (b : Nat) : Int32 := fsb (fun k => bt (openA qc M (M 30 0) k) b) 241
theorem k_opens {qc qs qd : Nat} {M : Mem} {b : Nat} (h : Rel qc qs M) (hb : b < nB M) : ok (f_X11_opens qc qd (nI b) M) (fun r => r.1 = .inl (vOpens qc M b) ∧ asks M r.2 ∧ cch qc r.2) := by
  have hn := R_n16 h
  unfold f_X11_opens
  refine ok_bindE (bdT (bd_n (R_eB h) (by omega) hb)) ?_
  refine ok_bind (P := fun e => match e with
    | Sum.inl (x, M') => x = vOpens qc M b ∧ OL qc M M'
    | Sum.inr M' => -1 = vOpens qc M b ∧ OL qc M M') ?_ ?_
  · refine ok_wh (fun k s => s.1 = nI k ∧ OL qc M s.2 ∧ ∀ j, j < k → bt (openA qc M (M 30 0) j) b = false) 241 ⟨rfl, OL_rfl h, fun j hj => by cases hj⟩ (by decide) ?_ ?_
    · rintro k ⟨x, M1⟩ hk ⟨rfl, o1, h1⟩
      simp only at o1 h1
      unfold L_X11_opens_7
      refine ok_ifn (nI_nlt (a := 240) (by omega) (by decide)) (ok_bind (OL_open h o1 (by omega)) ?_)
      rintro ⟨v, M2⟩ ⟨rfl, o2⟩
      simp only [isBit_bt _ (show b < 32 by omega)]
      cases hh : bt (openA qc M (M 30 0) k) b
      · refine ok_ifp rfl (ok_some ⟨nI_1 k, o2, fun j hj => ?_⟩)
        by_cases hjk : j = k
        · rw [hjk]; exact hh
        · exact h1 j (by omega)
      · exact ok_ifn (by decide) (ok_some ⟨(fsb_at hk (by decide) h1 hh).symm, o2⟩)
    · rintro ⟨x, M1⟩ ⟨rfl, o1, h1⟩
      unfold L_X11_opens_7
      exact ok_ifp (by decide) (ok_some ⟨(fsb_no h1).symm, o1⟩)
  · rintro (⟨x, M1⟩ | M1) ⟨e, o⟩
    · exact ok_some ⟨by rw [e], OL_end o⟩
    · exact ok_some ⟨by rw [e], OL_end o⟩
theorem m_opens {qc qs : Nat} {M M1 : Mem} {b : Nat} (h : Rel qc qs M) (h1 : Rel qc qs M1) (a1 : asks M M1) (hb : b < nB M) : ok (f_X12_opens (nI b) M1) (fun r => r.1 = vOpens qc M b ∧ r.2 54 0 0 = 0 ∧ mfr M1 r.2) := by
  have hn := R_n16 h
  have em := a_mB h a1
  have hb1 : b < nB M1 := by rw [a_nB a1]; exact hb
  unfold f_X12_opens
  refine ok_ifn (inT em (by omega) hb) (ok_bindE (badM0 _ _ _) (ok_ifp rfl (ok_bind (TR_0 h1) ?_)))
  intro M2 t2
  refine ok_bind (P := fun e => match e with
    | Sum.inl (x, M') => x = vOpens qc M b ∧ ∃ k, TR M1 k M'
    | Sum.inr M' => -1 = vOpens qc M b ∧ ∃ k, TR M1 k M') ?_ ?_
  · refine ok_wh (fun k s => s.1 = nI k ∧ TR M1 k s.2 ∧ ∀ j, j < k → bt (openA qc M (M 30 0) j) b = false) 241 ⟨rfl, t2, fun j hj => by cases hj⟩ (by decide) ?_ ?_
    · rintro k ⟨x, M3⟩ hk ⟨rfl, t3, h3⟩
      simp only at t3 h3
      unfold L_X12_opens_35
      refine ok_ifn (nI_nlt (a := 240) (by omega) (by decide)) (ok_bind (TR_open h1 t3 hb1) ?_)
      rintro ⟨v, M4⟩ ⟨rfl, t4⟩
      simp only [openA_1 h a1] at t4 ⊢
      cases hh : bt (openA qc M (M 30 0) k) b
      · refine ok_ifp rfl (ok_bind (TR_hour h1 t4) ?_)
        intro M5 t5
        refine ok_some ⟨nI_1 k, t5, fun j hj => ?_⟩
        by_cases hjk : j = k
        · rw [hjk]; exact hh
        · exact h3 j (by omega)
      · exact ok_ifn (by decide) (ok_some ⟨(fsb_at hk (by decide) h3 hh).symm, k, t4⟩)
    · rintro ⟨x, M3⟩ ⟨rfl, t3, h3⟩
      unfold L_X12_opens_35
      exact ok_ifp (by decide) (ok_some ⟨(fsb_no h3).symm, 241, t3⟩)
  · rintro (⟨x, M3⟩ | M3) ⟨e, k, t⟩
    · exact ok_some ⟨e, TR_end t⟩
    · exact ok_some ⟨e, TR_end t⟩
def vOften (qc : Nat) (M : Mem) (b n : Nat) : Int32 := sumN (fun k => if bt (openA qc M (M 30 0) k) b = true then 1 else 0) n
theorem k_often {qc qs qd : Nat} {M : Mem} {b n : Nat} (h : Rel qc qs M) (hb : b < nB M) (hn2 : n ≤ 240) : ok (f_X11_often qc qd (nI b) (nI n) M) (fun r => r.1 = .inl (vOften qc M b n) ∧ asks M r.2 ∧ cch qc r.2) := by
  have hn := R_n16 h
  unfold f_X11_often
  refine ok_bindE (bdT (bd_n (R_eB h) (by omega) hb)) (ok_bindE (fitT (fit_n (n := 240) (by decide) hn2)) ?_)
  refine ok_bind (P := fun r => r.1 = vOften qc M b n ∧ OL qc M r.2) ?_ ?_
  · refine ok_wh (fun k s => s.1 = vOften qc M b k ∧ s.2.1 = nI k ∧ OL qc M s.2.2) n ⟨rfl, rfl, OL_rfl h⟩ (by omega) ?_ ?_
    · rintro k ⟨x, y, M1⟩ hk ⟨rfl, rfl, o1⟩
      simp only at o1
      unfold L_X11_often_19
      refine ok_ifn (nI_ge hk (by omega)) (ok_bind (OL_open h o1 (by omega)) ?_)
      rintro ⟨v, M2⟩ ⟨rfl, o2⟩
      refine ok_some ⟨?_, nI_1 k, o2⟩
      show _ + _ = _
      rw [bit1_bt _ (by omega)]
      rfl
    · rintro ⟨x, y, M1⟩ ⟨rfl, rfl, o1⟩
      unfold L_X11_often_19
      exact ok_ifp (nI_le (Nat.le_refl _) (by omega)) (ok_some ⟨rfl, o1⟩)
  · rintro ⟨x, M1⟩ ⟨e, o⟩
    simp only at e
    exact ok_some ⟨by rw [e], OL_end o⟩
theorem m_often {qc qs : Nat} {M M1 : Mem} {b n : Nat} (h : Rel qc qs M) (h1 : Rel qc qs M1) (a1 : asks M M1) (hb : b < nB M) (hn2 : n ≤ 240) : ok (f_X12_often (nI b) (nI n) M1) (fun r => r.1 = vOften qc M b n ∧ r.2 54 0 0 = 0 ∧ mfr M1 r.2) := by
  have hn := R_n16 h
  have em := a_mB h a1
  have hb1 : b < nB M1 := by rw [a_nB a1]; exact hb
  unfold f_X12_often
  refine ok_ifn (inT em (by omega) hb) (ok_bindE (badM0 _ _ _) (ok_ifp rfl (ok_ifn (in_n (n := 240) (by decide) hn2) (ok_bindE (badM0 _ _ _) (ok_ifp rfl (ok_bind (TR_0 h1) ?_))))))
  intro M2 t2
  refine ok_bind (P := fun r => r.1 = vOften qc M b n ∧ TR M1 n r.2) ?_ ?_
  · refine ok_wh (fun k s => s.1 = vOften qc M b k ∧ s.2.1 = nI k ∧ TR M1 k s.2.2) n ⟨rfl, rfl, t2⟩ (by omega) ?_ ?_
    · rintro k ⟨x, y, M3⟩ hk ⟨rfl, rfl, t3⟩
      simp only at t3
      unfold L_X12_often_63
      refine ok_ifn (nI_ge hk (by omega)) (ok_bind (TR_open h1 t3 hb1) ?_)
      rintro ⟨v, M4⟩ ⟨rfl, t4⟩
      simp only [openA_1 h a1] at t4 ⊢
      have es : vOften qc M b (k + 1) = vOften qc M b k + (if bt (openA qc M (M 30 0) k) b = true then 1 else 0) := rfl
      cases hh : bt (openA qc M (M 30 0) k) b
      · refine ok_ifp rfl (ok_bind (TR_hour h1 t4) ?_)
        intro M5 t5
        exact ok_some ⟨by rw [es, hh]; rfl, nI_1 k, t5⟩
      · refine ok_ifn (by decide) (ok_bind (TR_hour h1 t4) ?_)
        intro M5 t5
        exact ok_some ⟨by rw [es, hh]; rfl, nI_1 k, t5⟩
    · rintro ⟨x, y, M3⟩ ⟨rfl, rfl, t3⟩
      unfold L_X12_often_63
      exact ok_ifp (nI_le (Nat.le_refl _) (by omega)) (ok_some ⟨rfl, t3⟩)
  · rintro ⟨x, M3⟩ ⟨e, t⟩
    exact ok_some ⟨e, TR_end t⟩
theorem t_opens {qc qs qd : Nat} {x : Int32} {M : Mem} (h : Rel qc qs M) : ok (f_X11_opens qc qd x M) (fun r => ok (f_X12_opens x r.2) (fun r' => ansN r.1 r'.1 (r'.2 54 0 0) ∧ Rel qc qs r'.2)) := by
  have hg := R_n16 h
  have em := R_mB h
  have h8 := R_s8 h
  have emS := R_mS h
  by_cases hx_0 : x < 0 ∨ M 3 0 0 ≤ x
  · unfold f_X11_opens
    refine ok_bindE (bdF hx_0) (ok_some ?_)
    rw [R_eB h] at hx_0
    unfold f_X12_opens
    exact ok_ifp (inF em (by omega) hx_0) (ok_bindE (bad13 M (by decide)) (ok_ifn (by decide) (ok_some ⟨⟨rfl, RM_t 13 1 M⟩, Rel_RM (k := 13) (Or.inl rfl) h⟩)))
  · skip
    rw [R_eB h] at hx_0
    obtain ⟨a_x, rfl, l_x⟩ := there_arg (by omega) hx_0
    exact t_ofN h (k_opens h l_x) (fun M1 h1 a1 => m_opens h h1 a1 l_x)
theorem t_often {qc qs qd : Nat} {x y : Int32} {M : Mem} (h : Rel qc qs M) : ok (f_X11_often qc qd x y M) (fun r => ok (f_X12_often x y r.2) (fun r' => ans2 r.1 r'.1 (r'.2 54 0 0) ∧ Rel qc qs r'.2)) := by
  have hg := R_n16 h
  have em := R_mB h
  have h8 := R_s8 h
  have emS := R_mS h
  by_cases hx_0 : x < 0 ∨ M 3 0 0 ≤ x
  · unfold f_X11_often
    refine ok_bindE (bdF hx_0) (ok_some ?_)
    rw [R_eB h] at hx_0
    unfold f_X12_often
    exact ok_ifp (inF em (by omega) hx_0) (ok_bindE (bad13 M (by decide)) (ok_ifn (by decide) (ok_some ⟨Or.inl ⟨rfl, RM_t 13 1 M⟩, Rel_RM (k := 13) (Or.inl rfl) h⟩)))
  · skip
    by_cases hy_1 : y < 0 ∨ 240 < y
    · unfold f_X11_often
      refine ok_bindE (bdT hx_0) (ok_bindE (fitF hy_1) (ok_some ?_))
      rw [R_eB h] at hx_0
      obtain ⟨b_0, rfl, hb_0⟩ := there_arg (by omega) hx_0
      unfold f_X12_often
      exact ok_ifn (inT em (by omega) hb_0) (ok_bindE (badM0 _ _ _) (ok_ifp rfl (ok_ifp ((in_eq _ _ _).mpr hy_1) (ok_bindE (bad14 M (by decide)) (ok_ifn (by decide) (ok_some ⟨Or.inr ⟨rfl, RM_t 14 2 M⟩, Rel_RM (k := 14) (Or.inr rfl) h⟩))))))
    · skip
      rw [R_eB h] at hx_0
      obtain ⟨a_x, rfl, l_x⟩ := there_arg (by omega) hx_0
      obtain ⟨a_y, rfl, l_y⟩ := args (n := 240) rfl (by decide) hy_1
      exact t_of2 h (k_often h l_x l_y) (fun M1 h1 a1 => m_often h h1 a1 l_x l_y)
