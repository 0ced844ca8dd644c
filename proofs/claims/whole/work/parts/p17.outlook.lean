/-! WHAT IS OPEN IN HOURS TO COME -/
theorem c_passHour' {q1 : Nat} {M : Mem} {due frz : Int32} (hq : q1 = 30 ∨ q1 = 40) (hB : cBed M) (hp : psd (nB M) (M q1 0)) : ok (f_X4_passHour q1 due frz M) (fun M' => fr [q1] M M' ∧ M' q1 0 = hC M frz due (M q1 0)) := c_passHour hq hB hp
theorem m_hourEnds' {qc q1 : Nat} {M : Mem} (hq1 : q1 = 72 ∨ q1 = 73) (hb : base qc M) (hp : psdM (nB M) (M q1 0)) : ok (f_X12_hourEnds q1 M) (fun M' => fr [69, 70, 74, q1] M M' ∧ M' q1 0 = hM qc M (M 54 0 39) (M q1 0)) := m_hourEnds hq1 hb hp
def dueA (qc : Nat) (M : Mem) (a : Nat → Int32) (k : Nat) : Int32 := bitsN (fun b => lawB qc M b (a 0 + nI k) (a (3 + b))) (nB M)
def openA (qc : Nat) (M : Mem) (a : Nat → Int32) (k : Nat) : Int32 := a 1 ||| (dueA qc M a k &&& (a 2 ^^^ (-1)))
theorem dueA_c {qc : Nat} {M M' : Mem} (hq : qc = 24 ∨ qc = 25) (e : ∀ c, c ∈ bCells → M' c = M c) (a : Nat → Int32) (k : Nat) : dueA qc M' a k = dueA qc M a k := by
  unfold dueA
  rw [nB_fr (e 3 (by decide))]
  exact bitsN_cong (fun k _ => lawB_c hq e _ _ _)
theorem openA_c {qc : Nat} {M M' : Mem} (hq : qc = 24 ∨ qc = 25) (e : ∀ c, c ∈ bCells → M' c = M c) (a : Nat → Int32) (k : Nat) : openA qc M' a k = openA qc M a k := by
  unfold openA
  rw [dueA_c hq e]
/-- what is known of hours to come is right -/
def cch (qc : Nat) (M : Mem) : Prop := ∃ kn, M 38 0 5 = nI kn ∧ kn ≤ 241 ∧ ∀ k, k < kn → M 41 0 k = dueA qc M (M 30 0) k
/-- only the outlook's scratch has changed -/
def olk (M M' : Mem) : Prop := fr [26, 27, 38, 41] M M' ∧ ∀ j, j ≠ 5 → M' 38 0 j = M 38 0 j
theorem olk_rfl {M : Mem} : olk M M := ⟨fr_rfl, fun _ _ => rfl⟩
theorem olk_tr {M M1 M2 : Mem} (a : olk M M1) (b : olk M1 M2) : olk M M2 := ⟨fr_tr a.1 b.1, fun j hj => (b.2 j hj).trans (a.2 j hj)⟩
theorem sol : ∀ c, c ∈ [26, 27, 38, 41] → c ∉ bCells ∧ c ≠ 54 := by decide
theorem base_ol {qc : Nat} {M M' : Mem} (h : base qc M) (hf : olk M M') : base qc M' := base_f h hf.1 sol
theorem e_ol {M M' : Mem} (hf : olk M M') : ∀ c, c ∈ bCells → M' c = M c := fr_b hf.1 sol
theorem c_dueIn {qc qd : Nat} {M : Mem} {k : Nat} (hb : base qc M) (hc : cch qc M) (hk : k ≤ 240) : ok (f_X6_dueIn qc qd (nI k) M) (fun r => r.1 = dueA qc M (M 30 0) k ∧ olk M r.2 ∧ cch qc r.2) := by
  obtain ⟨kn, c1, c2, c3⟩ := hc
  unfold f_X6_dueIn
  refine ok_ifn (nI_pos (by omega)) (ok_ifp (nI_lt (b := 241) (by omega) (by decide)) ?_)
  refine ok_bind (P := fun M' => olk M M' ∧ ∃ kn', k < kn' ∧ M' 38 0 5 = nI kn' ∧ kn' ≤ 241 ∧ ∀ i, i < kn' → M' 41 0 i = dueA qc M (M 30 0) i) ?_ ?_
  · refine ok_wh (fun j M' => olk M M' ∧ M' 38 0 5 = nI (kn + j) ∧ kn + j ≤ 241 ∧ ∀ i, i < kn + j → M' 41 0 i = dueA qc M (M 30 0) i) (k + 1 - kn) ⟨olk_rfl, c1, c2, c3⟩ (by omega) ?_ ?_
    · rintro j M1 hj ⟨f1, h2, h3, h4⟩
      unfold L_X6_dueIn_15
      rw [h2, nI_clamp (show kn + j < 2 ^ 31 by omega)]
      refine ok_ifn (nI_nlt (by omega) (by omega)) (ok_bind (c_dueBits (q1 := 30) (Or.inl rfl) (base_ol hb f1)) ?_)
      rintro ⟨v, M2⟩ ⟨rfl, f2⟩
      simp only at f2
      have e30 : M1 30 = M 30 := f1.1 30 (by decide)
      have e38 : M2 38 = M1 38 := f2 38 (by decide)
      refine ok_ifp (inb_n (by omega) (by decide)) (ok_some ⟨⟨?_, fun i hi => ?_⟩, ?_, by omega, fun i hi => ?_⟩)
      · exact fr_u3 (fr_u3 (fr_tr f1.1 (fr_mono f2 (by decide))) (by decide)) (by decide)
      · rw [u3_j (by omega), u3_c (by decide), e38]; exact f1.2 i hi
      · rw [u3_e, e38, h2, nI_1]; rfl
      · rw [u3_c (by decide), u3_r]
        unfold upd1
        by_cases hik : i = kn + j
        · rw [if_pos hik, hik, e30]
          exact dueA_c hb.1 (e_ol f1) (M 30 0) (kn + j)
        · rw [if_neg hik, f2 41 (by decide)]
          exact h4 i (by omega)
    · rintro M1 ⟨f1, h2, h3, h4⟩
      unfold L_X6_dueIn_15
      rw [h2]
      exact ok_ifp (nI_lt (by omega) (by omega)) (ok_some ⟨f1, _, by omega, h2, h3, h4⟩)
  · rintro M1 ⟨f1, kn', h1, h2, h3, h4⟩
    refine ok_ifp (inb_n (by omega) (by decide)) (ok_some ⟨?_, f1, kn', h2, h3, fun i hi => ?_⟩)
    · show M1 41 0 _ = _
      rw [nI_clamp (by omega)]
      exact h4 k h1
    · show M1 41 0 i = dueA qc M1 (M1 30 0) i
      rw [h4 i hi, dueA_c hb.1 (e_ol f1), f1.1 30 (by decide)]
theorem c_openIn {qc qd : Nat} {M : Mem} {k : Nat} (hb : base qc M) (hc : cch qc M) (hk : k ≤ 240) : ok (f_X6_openIn qc qd (nI k) M) (fun r => r.1 = openA qc M (M 30 0) k ∧ olk M r.2 ∧ cch qc r.2) := by
  unfold f_X6_openIn
  refine ok_bind (c_dueIn hb hc hk) ?_
  rintro ⟨v, M1⟩ ⟨rfl, f1, h1⟩
  refine ok_some ⟨?_, f1, h1⟩
  show M1 30 0 1 ||| _ = _
  rw [show M1 30 = M 30 from f1.1 30 (by decide)]
  rfl
theorem c_openNow {qc qd : Nat} {M : Mem} (hb : base qc M) (hc : cch qc M) : ok (f_X11_openNow qc qd M) (fun r => r.1 = openA qc M (M 30 0) 0 ∧ olk M r.2 ∧ cch qc r.2) := by
  unfold f_X11_openNow
  refine ok_bind (c_openIn (k := 0) hb hc (by decide)) ?_
  rintro ⟨v, M1⟩ h
  exact ok_some h
theorem bt_openA {qc : Nat} {M : Mem} {a : Nat → Int32} (hn : nB M ≤ 16) {k j : Nat} (hj : j < 32) : bt (openA qc M a k) j = (bt (a 1) j || ((decide (j < nB M) && lawB qc M j (a 0 + nI k) (a (3 + j))) && !(bt (a 2) j))) := by
  unfold openA dueA
  rw [b_or, b_and, b_not _ hj, bt_bitsN _ (by omega) hj]
/-- rows that the model tries: k HOURS on -/
def tK (n : Nat) (b bk : Nat → Int32) (k : Nat) : Prop := bk 63 = b 63 + nI k ∧ (∀ j, j < n → bk j = b j) ∧ (∀ j, j < n → b j = 0 → bk (16 + j) = b (16 + j)) ∧ psdM n bk
theorem brM_lo {n v : Nat} {lt : Nat → Bool} {cm : Int32} {x : Nat} {b : Nat → Int32} {i : Nat} (hi : i < 32) : brM n v lt cm x b i = b i := by
  unfold brM goR
  split <;> grind
theorem brsM_lo {n v g : Nat} {lt : Nat → Nat → Bool} {cm : Nat → Int32} {b : Nat → Int32} {i : Nat} (hi : i < 32) : ∀ k, brsM n v g lt cm k b i = b i
  | 0 => rfl
  | k + 1 => by
    rw [brsM]
    split
    · rw [brM_lo hi, brsM_lo hi k]
    · rw [brsM_lo hi k]
theorem hM_k {qc : Nat} {M : Mem} {frz : Int32} {b : Nat → Int32} (hn : nB M ≤ 16) (hp : psdM (nB M) b) : psdM (nB M) (hM qc M frz b) ∧ hM qc M frz b 63 = b 63 + 1 ∧ (∀ i, 64 ≤ i → hM qc M frz b i = b i) ∧ (∀ i, i < 16 → hM qc M frz b i = b i) ∧ (∀ j, j < nB M → hM qc M frz b (16 + j) = b (16 + j) + (if fnM qc M frz b j = true then 1 else 0)) := by
  have h5 := brsM_k (n := nB M) (v := vF M) (g := nG M) (lt := fun k => lets M (if k = 4 then b 65 else M 8 0 k) (bitsN (opB qc M b) (nB M) &&& (frz ^^^ (-1)))) (cm := fun k => if k = 4 then b 64 else M 9 0 k) hn (finM_psd (fn := fnM qc M frz b) hn hp) 5 (Nat.le_refl _)
  have lo := fun i (hi : i < 32) => brsM_lo (n := nB M) (v := vF M) (g := nG M) (lt := fun k => lets M (if k = 4 then b 65 else M 8 0 k) (bitsN (opB qc M b) (nB M) &&& (frz ^^^ (-1)))) (cm := fun k => if k = 4 then b 64 else M 9 0 k) (b := finM (nB M) (fnM qc M frz b) b) hi 5
  have x : ∀ i, i ≠ 63 → hM qc M frz b i = brsM (nB M) (vF M) (nG M) (fun k => lets M (if k = 4 then b 65 else M 8 0 k) (bitsN (opB qc M b) (nB M) &&& (frz ^^^ (-1)))) (fun k => if k = 4 then b 64 else M 9 0 k) 5 (finM (nB M) (fnM qc M frz b) b) i := by
    intro i hi
    unfold hM hrM
    rw [if_neg hi]
  refine ⟨fun y hy => ?_, ?_, fun i hi => ?_, fun i hi => ?_, fun j hj => ?_⟩
  · rw [x _ (by omega)]; exact h5.2 y hy
  · unfold hM hrM; rw [if_pos rfl]
  · rw [x _ (by omega), h5.1 i (by omega), finM_x, if_neg (by omega)]
  · rw [x _ (by omega), lo i (by omega), finM_x, if_neg (by omega)]
  · rw [x _ (by omega), lo _ (by omega), finM_x, if_pos (by omega), show 16 + j - 16 = j by omega]
theorem tK_s {qc : Nat} {M : Mem} {b bk : Nat → Int32} {k : Nat} {frz : Int32} (hn : nB M ≤ 16) (h : tK (nB M) b bk k) : tK (nB M) b (hM qc M frz bk) (k + 1) := by
  obtain ⟨h1, h2, h3, h4⟩ := h
  obtain ⟨z1, z2, z3, z4, z5⟩ := hM_k (qc := qc) (frz := frz) hn h4
  refine ⟨?_, fun j hj => ?_, fun j hj hb => ?_, z1⟩
  · rw [z2, h1, Int32.add_assoc, nI_1]
  · rw [z4 j (by omega)]; exact h2 j hj
  · rw [z5 j hj, h3 j hj hb]
    have : fnM qc M frz bk j = false := by unfold fnM; rw [h2 j hj, hb]; simp
    rw [this]
    exact add00 _
theorem tK_open {qc : Nat} {M : Mem} {a b bk : Nat → Int32} {k j : Nat} (hn : nB M ≤ 16) (hs : SR (nB M) (nG M) a b) (h : tK (nB M) b bk k) (hj : j < nB M) : opB qc M bk j = bt (openA qc M a k) j := by
  obtain ⟨h1, h2, h3, h4⟩ := h
  obtain ⟨t1, t2, t3, -⟩ := hs
  rw [bt_openA hn (by omega), decide_eq_true hj, Bool.true_and, t1, t3.1 j hj]
  unfold opB
  rw [h1, h2 j hj]
  rcases t2.1 j hj with ⟨s1, s2, s3⟩ | ⟨s1, s2, s3⟩ | ⟨s1, s2, s3⟩
  · rw [s1, s2, s3]; simp
  · rw [s1, s2, s3]; simp
  · rw [h3 j hj s3, s1, s2, s3]; simp
theorem openA_hi {qc : Nat} {M : Mem} {a b : Nat → Int32} {k j : Nat} (hn : nB M ≤ 16) (hs : SR (nB M) (nG M) a b) (hj : nB M ≤ j) (hj2 : j < 32) : bt (openA qc M a k) j = false := by
  rw [bt_openA hn hj2, hs.2.1.2 j hj hj2, decide_eq_false (by omega)]
  simp
theorem tK_bits {qc : Nat} {M : Mem} {a b bk : Nat → Int32} {k : Nat} (hn : nB M ≤ 16) (hs : SR (nB M) (nG M) a b) (h : tK (nB M) b bk k) : bitsN (opB qc M bk) (nB M) = openA qc M a k := by
  symm
  exact bitsN_eq (by omega) (fun i hi => (tK_open hn hs h hi).symm) (fun i h1 h2 => openA_hi hn hs h1 h2)
