/-! WORKS: a STEP is done -/
theorem bit1 {v j : Nat} (hv : v < 32) (hj : j < 32) : bt ((1 : Int32) <<< (nI v &&& 31)) j = decide (j = v) := by
  rw [b_shl v hv 1 hj, b_1]
  by_cases h : j = v
  · rw [h, Nat.sub_self, decide_eq_true (Nat.le_refl v)]; simp
  · rw [decide_eq_false h]
    by_cases h2 : v ≤ j
    · rw [decide_eq_true h2, decide_eq_false (show ¬ j - v = 0 by omega)]; rfl
    · rw [decide_eq_false h2]; rfl
theorem hM_0 {qc : Nat} {M : Mem} {frz : Int32} {b : Nat → Int32} (hn : nB M ≤ 16) (hg : nG M ≤ 4) (hps : psdM (nB M) b) (h64 : b 64 = -1) : hM qc M frz b 52 = b 52 ∧ hM qc M frz b 57 = b 57 := by
  have pre : ∀ i, i = 52 ∨ i = 57 ∨ 63 ≤ i → ∀ k, k ≤ 4 → brsM (nB M) (vF M) (nG M) (fun k => lets M (if k = 4 then b 65 else M 8 0 k) (bitsN (opB qc M b) (nB M) &&& (frz ^^^ (-1)))) (fun k => if k = 4 then b 64 else M 9 0 k) k (finM (nB M) (fnM qc M frz b) b) i = b i := by
    intro i hi k
    induction k with
    | zero => intro _; rw [brsM, finM_x, if_neg (by omega)]
    | succ k ih =>
      intro hk
      have hps2 := (brsM_k (v := vF M) (g := nG M) (lt := fun k => lets M (if k = 4 then b 65 else M 8 0 k) (bitsN (opB qc M b) (nB M) &&& (frz ^^^ (-1)))) (cm := fun k => if k = 4 then b 64 else M 9 0 k) hn (finM_psd (fn := fnM qc M frz b) hn hps) k (by omega)).2
      have ih' := ih (by omega)
      rw [brsM]
      split
      · rw [brM_oth hn (by omega) hps2 (by omega) (by omega) (by omega) (by omega)]; exact ih'
      · exact ih'
  have x : ∀ i, i ≠ 63 → hM qc M frz b i = brsM (nB M) (vF M) (nG M) (fun k => lets M (if k = 4 then b 65 else M 8 0 k) (bitsN (opB qc M b) (nB M) &&& (frz ^^^ (-1)))) (fun k => if k = 4 then b 64 else M 9 0 k) 4 (finM (nB M) (fnM qc M frz b) b) i := by
    intro i hi
    unfold hM hrM
    rw [if_neg hi, brsM, if_neg]
    unfold isb5
    rw [finM_x, if_neg (by omega)]
    simp [h64]
    omega
  exact ⟨(x 52 (by decide)).trans (pre 52 (by omega) 4 (by omega)), (x 57 (by decide)).trans (pre 57 (by omega) 4 (by omega))⟩
theorem SRk_hr {qc h : Nat} {M : Mem} {a b : Nat → Int32} (hb : base qc M) (hs : SRk (nB M) (nG M) a b) (e : a 0 = nI h) (hh : h < 960) : SRk (nB M) (nG M) (hC M 0 (dueR qc M a) a) (hM qc M 0 b) := by
  obtain ⟨s1, -, s3, s4⟩ := hs
  have h5 := hM_0 (qc := qc) (frz := 0) hb.2.2.2.1.1.2 hb.2.2.2.1.2.1.2 s1.2.2.2.2.2.2.1 s1.2.2.2.2.2.2.2
  refine ⟨SR_step hb s1, ⟨h + 1, by omega, ?_⟩, h5.1.trans s3, h5.2.trans s4⟩
  show hrC _ _ _ _ _ _ a 0 = _
  unfold hrC
  rw [if_pos rfl, e, nI_1]
theorem SRk_set {n g v : Nat} {a b a' b' : Nat → Int32} {l s : Bool} (hn : n ≤ 16) (h : SRk n g a b) (hv : v < n) (ha : ∀ i, i ≠ 1 → i ≠ 2 → a' i = a i) (hb : ∀ i, i ≠ v → b' i = b i) (h1 : ∀ j, j < 32 → bt (a' 1) j = if j = v then l else bt (a 1) j) (h2 : ∀ j, j < 32 → bt (a' 2) j = if j = v then s else bt (a 2) j) (ht : (l = true ∧ s = false ∧ b' v = 1) ∨ (l = false ∧ s = true ∧ b' v = 2) ∨ (l = false ∧ s = false ∧ b' v = 0)) : SRk n g a' b' := by
  obtain ⟨⟨q1, ⟨q2, q3⟩, ⟨q4, q5⟩, ⟨q6, q7⟩, ⟨q8, q9⟩, q10, q11, q12⟩, ⟨hh, g1, g2⟩, s3, s4⟩ := h
  refine ⟨⟨?_, ⟨fun j hj => ?_, fun j hj hj2 => ?_⟩, ⟨fun j hj => ?_, fun j hj hj2 => ?_⟩, ⟨fun j hj => ?_, fun j hj hj2 => ?_⟩, ⟨fun k hk => ?_, fun k hk hk2 => ?_⟩, fun k hk => ?_, fun k hk => ?_, ?_⟩, ⟨hh, g1, ?_⟩, ?_, ?_⟩
  · rw [ha 0 (by decide) (by decide), hb 63 (by omega)]; exact q1
  · rw [h1 j (by omega), h2 j (by omega)]
    by_cases e : j = v
    · rw [if_pos e, if_pos e, e]; exact ht
    · rw [if_neg e, if_neg e, hb j e]; exact q2 j hj
  · rw [h1 j hj2, if_neg (by omega)]; exact q3 j hj hj2
  · rw [ha _ (by omega) (by omega), hb _ (by omega)]; exact q4 j hj
  · rw [ha _ (by omega) (by omega)]; exact q5 j hj hj2
  · rw [ha _ (by omega) (by omega), hb _ (by omega)]; exact q6 j hj
  · rw [ha _ (by omega) (by omega)]; exact q7 j hj hj2
  · rw [ha _ (by omega) (by omega), ha _ (by omega) (by omega), ha _ (by omega) (by omega), hb _ (by omega), hb _ (by omega), hb _ (by omega)]; exact q8 k hk
  · rw [ha _ (by omega) (by omega)]; exact q9 k hk hk2
  · rw [ha _ (by omega) (by omega)]; exact q10 k hk
  · rw [hb _ (by omega)]; exact q11 k hk
  · rw [hb _ (by omega)]; exact q12
  · rw [ha 0 (by decide) (by decide)]; exact g2
  · rw [hb _ (by omega)]; exact s3
  · rw [hb _ (by omega)]; exact s4
theorem mode_eq {n g v : Nat} {M N : Mem} (hn : n ≤ 16) (h : SRk n g (M 30 0) (N 72 0)) (hv : v < n) : f_X8_modeOf 30 (nI v) M = N 72 0 v := by
  unfold f_X8_modeOf
  rw [isBit_bt _ (show v < 32 by omega), isBit_bt _ (show v < 32 by omega)]
  rcases h.1.2.1.1 v hv with ⟨a, b, c⟩ | ⟨a, b, c⟩ | ⟨a, b, c⟩
  · rw [a, b, c]; rfl
  · rw [a, b, c]; rfl
  · rw [a, b, c]; rfl
theorem set_eq {n g v : Nat} {M N : Mem} {t : Int32} (hn : n ≤ 16) (h : SRk n g (M 30 0) (N 72 0)) (hv : v < n) (ht : t = 0 ∨ t = 1 ∨ t = 2) : SRk n g ((f_X8_setMode 30 (nI v) t M) 30 0) ((am_u3 N 72 0 v t) 72 0) ∧ fr [30] M (f_X8_setMode 30 (nI v) t M) := by
  have hb : ∀ i, i ≠ v → (am_u3 N 72 0 v t) 72 0 i = N 72 0 i := fun i hi => u3_j (fun z => hi z.2)
  have hbv : (am_u3 N 72 0 v t) 72 0 v = t := u3_e _ _ _ _ _
  have key : ∀ (x y : Int32) (l s : Bool), (∀ j, j < 32 → bt x j = if j = v then l else bt (M 30 0 1) j) → (∀ j, j < 32 → bt y j = if j = v then s else bt (M 30 0 2) j) → ((l = true ∧ s = false ∧ t = 1) ∨ (l = false ∧ s = true ∧ t = 2) ∨ (l = false ∧ s = false ∧ t = 0)) → SRk n g ((am_u3 (am_u3 M 30 0 1 x) 30 0 2 y) 30 0) ((am_u3 N 72 0 v t) 72 0) ∧ fr [30] M (am_u3 (am_u3 M 30 0 1 x) 30 0 2 y) := by
    intro x y l s h1 h2 h3
    refine ⟨SRk_set (l := l) (s := s) hn h hv (fun i i1 i2 => ?_) hb (fun j hj => ?_) (fun j hj => ?_) ?_, fr_u3 (fr_u3 fr_rfl (by decide)) (by decide)⟩
    · rw [u3_j (fun z => i2 z.2), u3_j (fun z => i1 z.2)]
    · rw [u3_j (by omega), u3_e]; exact h1 j hj
    · rw [u3_e]; exact h2 j hj
    · rw [hbv]; exact h3
  have or1 : ∀ (z : Int32) j, j < 32 → bt (z ||| ((1 : Int32) <<< (nI v &&& 31))) j = if j = v then true else bt z j := by
    intro z j hj
    rw [b_or, bit1 (by omega) hj]
    by_cases e : j = v
    · rw [if_pos e, decide_eq_true e, Bool.or_true]
    · rw [if_neg e, decide_eq_false e, Bool.or_false]
  have an1 : ∀ (z : Int32) j, j < 32 → bt (z &&& (((1 : Int32) <<< (nI v &&& 31)) ^^^ (-1))) j = if j = v then false else bt z j := by
    intro z j hj
    rw [b_and, b_not _ hj, bit1 (by omega) hj]
    by_cases e : j = v
    · rw [if_pos e, decide_eq_true e]; simp
    · rw [if_neg e, decide_eq_false e]; simp
  have e12 : ∀ x : Int32, (am_u3 M 30 0 1 x) 30 0 2 = M 30 0 2 := fun x => u3_j (by omega)
  unfold f_X8_setMode
  rcases ht with rfl | rfl | rfl
  · rw [if_neg (by decide), if_neg (by decide), e12]
    exact key _ _ false false (an1 _) (an1 _) (Or.inr (Or.inr ⟨rfl, rfl, rfl⟩))
  · rw [if_pos rfl, if_neg (by decide), e12]
    exact key _ _ true false (or1 _) (an1 _) (Or.inl ⟨rfl, rfl, rfl⟩)
  · rw [if_neg (by decide), if_pos rfl, e12]
    exact key _ _ false true (an1 _) (or1 _) (Or.inr (Or.inl ⟨rfl, rfl, rfl⟩))
/-- both do one STEP -/
def WB2 (qc : Nat) (M N : Mem) : Prop := base qc M ∧ (∀ c, c ∈ bCells → N c = M c) ∧ N 54 0 19 = M 54 0 19 ∧ N 54 0 39 = 0 ∧ SRk (nB M) (nG M) (M 30 0) (N 72 0)
theorem both1 {qc qd i k v : Nat} {M N : Mem} (h : WB2 qc M N) (hi : i < 150) (c1 : M 35 0 i = nI k) (c2 : M 36 0 i = nI v) (m1 : N 71 (i + 1) 0 = nI k) (m2 : k ≠ 3 → N 71 (i + 1) 1 = nI v) (hk : (k < 3 ∧ v < nB M) ∨ k = 3) : ∃ x M5 y N5, f_X9_isDone qc qd (nI i) M = some (x, M5) ∧ f_X12_does (i + 1) N = some (y, N5) ∧ (x = 0 ↔ y = 0) ∧ fr [26, 27, 30] M M5 ∧ fr [69, 70, 72, 74] N N5 ∧ SRk (nB M) (nG M) (M5 30 0) (N5 72 0) := by
  obtain ⟨hb, e, e19, e39, hs⟩ := h
  have hbN : base qc N := base_c hb e e19
  have h16 := hb.2.2.2.1.1.2
  have eB : nB N = nB M := nB_fr (e 3 (by decide))
  unfold f_X9_isDone f_X12_does
  rw [if_pos (inb_n hi (by decide)), nI_clamp (show i < 2 ^ 31 by omega), c1, m1]
  rcases hk with ⟨k3, hv⟩ | rfl
  · have hv16 : v < 16 := by omega
    rw [c2, m2 (by omega)]
    have nk3 : ¬ nI k = 3 := fun z => by have := (nI_eq (b := 3) (by omega) (by decide)).mp z; omega
    have z0 : (0 : Int32) + nI v = nI v := by rw [Int32.zero_add]
    rw [if_neg nk3, if_neg nk3, mode_eq h16 hs hv, z0, nI_clamp (show v < 2 ^ 31 by omega), if_pos (inb_n (show v < 66 by omega) (by decide)), if_pos (inb_n (show v < 66 by omega) (by decide))]
    have step : ∀ t : Int32, (t = 0 ∨ t = 1 ∨ t = 2) → ∃ x M5 y N5, (if N 72 0 v = t then some ((0 : Int32), M) else some ((1 : Int32), f_X8_setMode 30 (nI v) t M)) = some (x, M5) ∧ (if N 72 0 v = t then some ((0 : Int32), N) else some ((1 : Int32), am_u3 N 72 0 v t)) = some (y, N5) ∧ (x = 0 ↔ y = 0) ∧ fr [26, 27, 30] M M5 ∧ fr [69, 70, 72, 74] N N5 ∧ SRk (nB M) (nG M) (M5 30 0) (N5 72 0) := by
      intro t ht
      by_cases et : N 72 0 v = t
      · rw [if_pos et, if_pos et]
        exact ⟨0, M, 0, N, rfl, rfl, Iff.rfl, fr_rfl, fr_rfl, hs⟩
      · rw [if_neg et, if_neg et]
        have := set_eq h16 hs hv ht
        exact ⟨1, _, 1, _, rfl, rfl, Iff.rfl, fr_mono this.2 (by decide), fr_u3 fr_rfl (by decide), this.1⟩
    have kk : k = 0 ∨ k = 1 ∨ k = 2 := by omega
    rcases kk with rfl | rfl | rfl
    · exact step 1 (Or.inr (Or.inl rfl))
    · exact step 2 (Or.inr (Or.inr rfl))
    · exact step 0 (Or.inl rfl)
  · have e33 : nI 3 = (3 : Int32) := rfl
    rw [if_pos e33, if_pos e33]
    obtain ⟨hh, g1, g2⟩ := hs.2.1
    have e63 : N 72 0 63 = nI hh := by rw [← hs.1.1]; exact g2
    rw [g2, e63]
    by_cases hl : hh < 960
    · have l1 : nI hh < 960 := nI_lt (b := 960) hl (by decide)
      rw [if_pos l1, if_pos l1]
      obtain ⟨⟨d, M3⟩, ed, dd, fd⟩ := c_dueBits (qc := qc) (qd := qd) (q1 := 30) (h := nI hh) (Or.inl rfl) hb
      simp only at dd fd
      have e30 : M3 30 = M 30 := fd 30 (by decide)
      have eM3 : ∀ c, c ∈ bCells → M3 c = M c := fun c hc => fd c (by revert c; decide)
      have ps3 : psd (nB M3) (M3 30 0) := by rw [nB_fr (eM3 3 (by decide)), e30]; exact hs.1.2.2.2.2.2.1
      obtain ⟨M4, e4, f4, r4⟩ := c_passHour' (q1 := 30) (due := d) (frz := 0) (Or.inl rfl) (cBed_fr (eM3 3 (by decide)) hb.2.2.2.1) ps3
      obtain ⟨N4, en, fn, rn⟩ := m_hourEnds' (qc := qc) (q1 := 72) (M := N) (Or.inl rfl) hbN (by rw [eB]; exact hs.1.2.2.2.2.2.2.1)
      refine ⟨1, M4, 1, N4, ?_, ?_, Iff.rfl, fr_tr (fr_mono fd (by decide)) (fr_mono f4 (by decide)), fr_mono fn (by decide), ?_⟩
      · rw [ed]
        show Option.bind (f_X4_passHour 30 d 0 M3) _ = _
        rw [e4]; rfl
      · rw [en]; rfl
      · rw [r4, rn, e39, e30, hC_c eM3, hM_c hb.1 e]
        have : d = dueR qc M (M 30 0) := by rw [dd]; unfold dueR; rw [g2]
        rw [this]
        exact SRk_hr hb hs g2 hl
    · have l1 : ¬ nI hh < 960 := nI_nlt (b := 960) (by omega) (by omega)
      rw [if_neg l1, if_neg l1]
      exact ⟨0, M, 0, N, rfl, rfl, Iff.rfl, fr_rfl, fr_rfl, hs⟩
