/-! TRIPS -/
/-- a TRIP: passed, through, knocks -/
def tpF (n v t : Nat) (lt : Nat → Nat → Bool) (k : Nat) (s : Nat × Int32 × (Nat → Int32)) : Nat × Int32 × (Nat → Int32) :=
  if k < t ∨ s.2.1 ≠ -1 then s else
    (pon n (lt k) v s.1, (if pon n (lt k) v s.1 = n then nI k else -1), (if pon n (lt k) v s.1 < n ∧ pon n (lt k) v s.1 - s.1 < v then upd1 s.2.2 (pon n (lt k) v s.1) (s.2.2 (pon n (lt k) v s.1) + 1) else s.2.2))
def tpS (n v t : Nat) (lt : Nat → Nat → Bool) (k : Nat) : Nat × Int32 × (Nat → Int32) := itr (tpF n v t lt) (0, -1, fun _ => 0) k
theorem tpS_s (n v t : Nat) (lt : Nat → Nat → Bool) (k : Nat) : tpS n v t lt (k + 1) = tpF n v t lt k (tpS n v t lt k) := rfl
theorem tpS_t (n v t : Nat) (lt : Nat → Nat → Bool) : ∀ k, k ≤ t → tpS n v t lt k = (0, -1, fun _ => 0)
  | 0, _ => rfl
  | k + 1, h => by rw [tpS_s, tpS_t n v t lt k (by omega), tpF, if_pos (Or.inl (by omega))]
theorem tpS_p (n v t : Nat) (lt : Nat → Nat → Bool) : ∀ k, (tpS n v t lt k).1 ≤ n
  | 0 => Nat.zero_le _
  | k + 1 => by
    have := tpS_p n v t lt k
    rw [tpS_s, tpF]
    split
    · exact this
    · exact (pon_b n (lt k) v _ this).2.1
theorem tpS_st (n v t : Nat) (lt : Nat → Nat → Bool) (k : Nat) (h : (tpS n v t lt k).2.1 ≠ -1) : ∀ j, tpS n v t lt (k + j) = tpS n v t lt k
  | 0 => rfl
  | j + 1 => by rw [← Nat.add_assoc, tpS_s, tpS_st n v t lt k h j, tpF, if_pos (Or.inr h)]
theorem nI_m1 {k : Nat} (h : k < 2 ^ 31) : nI k ≠ -1 := by
  intro z
  have z2 : (nI k).toInt = -1 := by rw [z]; rfl
  rw [nI_toInt h] at z2
  omega
theorem sumN_upd {f : Nat → Int32} {j : Nat} : ∀ {n : Nat}, j < n → sumN (upd1 f j (f j + 1)) n = sumN f n + 1
  | 0, h => by omega
  | n + 1, h => by
    rw [sumN_s, sumN_s]
    by_cases hj : j = n
    · subst hj
      rw [upd1_e, sumN_cong (g := f) (fun k hk => upd1_n (by omega)), Int32.add_assoc]
    · rw [sumN_upd (by omega), upd1_n (by omega), Int32.add_assoc, Int32.add_comm 1, ← Int32.add_assoc]
/-- what MAST m passes k hours on -/
def ltA (qc : Nat) (M : Mem) (m : Int32) (k j : Nat) : Bool := lets M m (openA qc M (M 30 0) k) j
def tpA (qc : Nat) (M : Mem) (m : Int32) (t : Nat) : Nat → Nat × Int32 × (Nat → Int32) := tpS (nB M) (vF M) t (ltA qc M m)
theorem ltA_a {qc : Nat} {M M1 : Mem} (hq : qc = 24 ∨ qc = 25) (a : asks M M1) (m : Int32) : ltA qc M1 m = ltA qc M m := by
  funext k j
  unfold ltA lets
  rw [openA_a hq a, a.1 4 (by decide)]
theorem tpA_a {qc : Nat} {M M1 : Mem} (hq : qc = 24 ∨ qc = 25) (a : asks M M1) (m : Int32) (t : Nat) : tpA qc M1 m t = tpA qc M m t := by
  unfold tpA
  rw [ltA_a hq a, nB_fr (a.1 3 (by decide)), vF_fr (a.1 3 (by decide))]
/-- the class has sailed -/
def OS (qc : Nat) (M M' : Mem) : Prop := fr [26, 27, 38, 41, 42] M M' ∧ cch qc M'
theorem OS_a {qc : Nat} {M M' : Mem} (o : OS qc M M') : asks M M' := asks_c (fr_mono o.1 (by decide))
theorem OS_end {qc : Nat} {M M' : Mem} (o : OS qc M M') : asks M M' ∧ cch qc M' := ⟨OS_a o, o.2⟩
theorem OS_rfl {qc qs : Nat} {M : Mem} (h : Rel qc qs M) : OS qc M M := ⟨fr_rfl, R_cch h⟩
theorem OS_u {qc qs : Nat} {M M' : Mem} {c j : Nat} {v : Int32} (h : Rel qc qs M) (o : OS qc M M') (hc : (c = 38 ∧ j ≠ 5) ∨ c = 42) : OS qc M (am_u3 M' c 0 j v) := by
  have f : fr cS M' (am_u3 M' c 0 j v) := fr_u3 fr_rfl (by rcases hc with ⟨rfl, -⟩ | rfl <;> decide)
  refine ⟨fr_u3 o.1 (by rcases hc with ⟨rfl, -⟩ | rfl <;> decide), cch_ol h.1.1 f ?_ ?_ o.2⟩
  · rcases hc with ⟨rfl, hj⟩ | rfl
    · rw [u3_j (by omega)]
    · rw [u3_c (by decide)]
  · rcases hc with ⟨rfl, -⟩ | rfl
    · exact u3_c (by decide)
    · exact u3_c (by decide)
theorem OS_fill {qc qs : Nat} {M M' : Mem} (h : Rel qc qs M) (o : OS qc M M') : OS qc M (fillM M' 42 16 0) := by
  have e : ∀ c, c ≠ 42 → fillM M' 42 16 0 c = M' c := by
    intro c hc
    funext r j
    unfold fillM
    rw [if_neg (fun z => hc z.1)]
  have f : fr [42] M' (fillM M' 42 16 0) := fun c hc => e c (by simpa using hc)
  exact ⟨fr_tr o.1 (fr_mono f (by decide)), cch_ol h.1.1 (fr_mono f (by decide)) (by rw [e 38 (by decide)]) (e 41 (by decide)) o.2⟩
theorem OS_open {qc qs qd : Nat} {M M' : Mem} {k : Nat} (h : Rel qc qs M) (o : OS qc M M') (hk : k ≤ 240) : ok (f_X6_openIn qc qd (nI k) M') (fun r => r.1 = openA qc M (M 30 0) k ∧ OS qc M r.2 ∧ r.2 42 = M' 42 ∧ ∀ j, j ≠ 5 → r.2 38 0 j = M' 38 0 j) := by
  refine ok_mono (c_openIn (base_a h.1 (OS_a o)) o.2 hk) ?_
  rintro ⟨v, M1⟩ ⟨rfl, f1, c1⟩
  exact ⟨openA_a h.1.1 (OS_a o) k, ⟨fr_tr o.1 (fr_mono f1.1 (by decide)), c1⟩, f1.1 42 (by decide), f1.2⟩
/-- the outlook shows a TRIP -/
def shw (n : Nat) (s : Nat × Int32 × (Nat → Int32)) (M' : Mem) : Prop := M' 38 0 7 = s.2.1 ∧ M' 38 0 8 = sumN s.2.2 n ∧ ∀ i, i < 16 → M' 42 0 i = s.2.2 i
theorem c_sail {qc qs qd : Nat} {M M' : Mem} {m : Int32} {t : Nat} (h : Rel qc qs M) (o : OS qc M M') (ht : t ≤ 48) : ok (f_X6_sail qc qd m (nI t) M') (fun M2 => OS qc M M2 ∧ shw (nB M) (tpA qc M m t 240) M2) := by
  have hn := R_n16 h
  obtain ⟨v1, v2⟩ := R_v h
  unfold f_X6_sail
  refine ok_bind (P := fun M2 => OS qc M M2 ∧ shw (nB M) (tpA qc M m t 240) M2) ?_ (fun _ h => ok_some h)
  have fin : ∀ k, k ≤ 240 → (tpA qc M m t k).2.1 ≠ -1 → tpA qc M m t 240 = tpA qc M m t k := by
    intro k hk hs
    have := tpS_st (nB M) (vF M) t (ltA qc M m) k hs (240 - k)
    rw [show k + (240 - k) = 240 by omega] at this
    exact this
  refine ok_wh (fun j s => s.1 = nI (tpA qc M m t (t + j)).1 ∧ s.2.1 = nI (t + j) ∧ OS qc M s.2.2 ∧ shw (nB M) (tpA qc M m t (t + j)) s.2.2) (240 - t) ⟨?_, rfl, OS_fill h (OS_u h (OS_u h o (Or.inl ⟨rfl, by decide⟩)) (Or.inl ⟨rfl, by decide⟩)), ?_⟩ (by omega) ?_ ?_
  · unfold tpA
    rw [Nat.add_zero, tpS_t _ _ _ _ t (Nat.le_refl _)]
    rfl
  · unfold tpA
    rw [Nat.add_zero, tpS_t _ _ _ _ t (Nat.le_refl _)]
    refine ⟨rfl, (sumN_0 (fun _ _ => rfl)).symm, fun i hi => ?_⟩
    show fillM _ 42 16 0 42 0 i = 0
    unfold fillM
    rw [if_pos ⟨rfl, rfl, hi⟩]
  · rintro j ⟨x3, x4, M1⟩ hj ⟨e1, e2, o1, s1, s2, s3⟩
    simp only at e1 e2 o1 s1 s2 s3
    subst e1 e2
    have hp := tpS_p (nB M) (vF M) t (ltA qc M m) (t + j)
    have hp' : (tpA qc M m t (t + j)).1 ≤ nB M := hp
    unfold L_X6_sail_23
    refine ok_ifn (nI_ge (b := 240) (by omega) (by decide)) ?_
    rw [s1]
    by_cases hth : (tpA qc M m t (t + j)).2.1 = -1
    · refine ok_ifp hth (ok_bind (OS_open h o1 (by omega)) ?_)
      rintro ⟨w, M2⟩ ⟨rfl, o2, k42, k38⟩
      simp only at o2 k42 k38
      have eB : cBed M2 := cBed_fr ((OS_a o2).1 3 (by decide)) h.1.2.2.2.1
      have e3 : M2 3 = M 3 := (OS_a o2).1 3 (by decide)
      have e4 : M2 4 = M 4 := (OS_a o2).1 4 (by decide)
      have el : lets M2 m (openA qc M (M 30 0) (t + j)) = ltA qc M m (t + j) := by
        funext b
        unfold ltA lets
        rw [e4]
      have hpn : (tpA qc M m t (t + j)).1 ≤ nB M2 := by rw [nB_fr e3]; exact hp'
      obtain ⟨b1, b2, b3, -, -⟩ := pon_b (nB M) (ltA qc M m (t + j)) (vF M) _ hp'
      refine ok_bindE (c_passedOn eB hpn) ?_
      rw [el, nB_fr e3, vF_fr e3]
      rw [c_knocked eB b1 (by rw [nB_fr e3]; exact b2), nB_fr e3, vF_fr e3, e3, R_eB h]
      have eS : tpA qc M m t (t + (j + 1)) = tpF (nB M) (vF M) t (ltA qc M m) (t + j) (tpA qc M m t (t + j)) := by rw [← Nat.add_assoc]; rfl
      rw [eS, tpF, if_neg (show ¬ (t + j < t ∨ (tpA qc M m t (t + j)).2.1 ≠ -1) by rintro (z | z); omega; exact z hth)]
      generalize pon (nB M) (ltA qc M m (t + j)) (vF M) (tpA qc M m t (t + j)).1 = P at b1 b2 b3 ⊢
      generalize tpA qc M m t (t + j) = S at s1 s2 s3 hth b1 ⊢
      by_cases hk : P < nB M ∧ P - S.1 < vF M
      · have hPn : ¬ P = nB M := by omega
        have hPI : ¬ nI P = nI (nB M) := fun z => hPn ((nI_eq (by omega) (by omega)).mp z)
        rw [nI_clamp (show P < 2 ^ 31 by omega)]
        refine ok_ifn (by rw [if_pos hk]; decide) (ok_ifp (inb_n (by omega) (by decide)) (ok_ifn hPI (ok_some ⟨rfl, nI_1 _, OS_u h (OS_u h o2 (Or.inl ⟨rfl, by decide⟩)) (Or.inr rfl), ?_, ?_, fun i hi => ?_⟩)))
        · show M2 38 0 7 = _
          rw [k38 7 (by decide), s1, if_neg hPn]; exact hth
        · show M2 38 0 8 + 1 = _
          rw [k38 8 (by decide), s2, if_pos hk, sumN_upd hk.1]
        · show am_u3 _ 42 0 P _ 42 0 i = _
          rw [u3_r, u3_c (by decide), k42, if_pos hk]
          show upd1 _ _ _ i = upd1 _ _ _ i
          by_cases hiP : i = P
          · rw [hiP, upd1_e, upd1_e, s3 P (by omega)]
          · rw [upd1_n hiP, upd1_n hiP, s3 i hi]
      · refine ok_ifp (by rw [if_neg hk]) ?_
        by_cases hPn : P = nB M
        · refine ok_ifp (by rw [hPn]) (ok_some ⟨rfl, nI_1 _, OS_u h o2 (Or.inl ⟨rfl, by decide⟩), ?_, ?_, fun i hi => ?_⟩)
          · show nI (t + j) = _
            rw [if_pos hPn]
          · show M2 38 0 8 = _
            rw [k38 8 (by decide), s2, if_neg hk]
          · show M2 42 0 i = _
            rw [k42, if_neg hk]; exact s3 i hi
        · have hPI : ¬ nI P = nI (nB M) := fun z => hPn ((nI_eq (by omega) (by omega)).mp z)
          refine ok_ifn hPI (ok_some ⟨rfl, nI_1 _, o2, ?_, ?_, fun i hi => ?_⟩)
          · show M2 38 0 7 = _
            rw [k38 7 (by decide), s1, if_neg hPn]; exact hth
          · show M2 38 0 8 = _
            rw [k38 8 (by decide), s2, if_neg hk]
          · show M2 42 0 i = _
            rw [k42, if_neg hk]; exact s3 i hi
    · refine ok_ifn hth (ok_some ⟨o1, ?_⟩)
      rw [fin (t + j) (by omega) hth]
      exact ⟨s1, s2, s3⟩
  · rintro ⟨x3, x4, M1⟩ ⟨e1, e2, o1, s⟩
    simp only at e1 e2 o1 s
    rw [show t + (240 - t) = 240 by omega] at e2 s
    unfold L_X6_sail_23
    exact ok_ifp (by rw [e2]; decide) (ok_some ⟨o1, s⟩)
theorem brM_oth {n v : Nat} {lt : Nat → Bool} {cm : Int32} {x i : Nat} {b : Nat → Int32} (hn : n ≤ 16) (hx : x < 5) (hp : psdM n b) (hi : 48 ≤ i) (h1 : i ≠ 53 + x) (h2 : i ≠ 58 + x) (h3 : i ≠ 48 + x) : brM n v lt cm x b i = b i := by
  obtain ⟨p, hp1, hp2⟩ := hp x hx
  have b2 := (pon_b n lt v p hp1).2.1
  have cl : (b (48 + x)).toNatClampNeg = p := cl_of hp2 (by omega)
  unfold brM
  split
  · unfold goR
    rw [cl]
    grind
  · rfl
/-- the fifth BARGE in an HOUR of the model -/
theorem hM_5 {qc : Nat} {M : Mem} {frz : Int32} {b : Nat → Int32} {p : Nat} (hn : nB M ≤ 16) (hg : nG M ≤ 4) (hps : psdM (nB M) b) (h64 : b 64 ≠ -1) (hp : p ≤ nB M) (h52 : b 52 = nI p) :
    ((b 57 = 0 ∧ b 64 = b 63) ∨ b 57 = 1 → hM qc M frz b 52 = nI (pon (nB M) (lets M (b 65) (bitsN (opB qc M b) (nB M) &&& (frz ^^^ (-1)))) (vF M) p) ∧ hM qc M frz b 57 = (if pon (nB M) (lets M (b 65) (bitsN (opB qc M b) (nB M) &&& (frz ^^^ (-1)))) (vF M) p = nB M then 2 else 1)) ∧
    (¬ ((b 57 = 0 ∧ b 64 = b 63) ∨ b 57 = 1) → hM qc M frz b 52 = b 52 ∧ hM qc M frz b 57 = b 57) := by
  have pre : ∀ i, i = 52 ∨ i = 57 ∨ 63 ≤ i → ∀ k, k ≤ 4 → brsM (nB M) (vF M) (nG M) (fun k => lets M (if k = 4 then b 65 else M 8 0 k) (bitsN (opB qc M b) (nB M) &&& (frz ^^^ (-1)))) (fun k => if k = 4 then b 64 else M 9 0 k) k (finM (nB M) (fnM qc M frz b) b) i = b i := by
    intro i hi k
    induction k with
    | zero => intro _; rw [brsM, finM_x, if_neg (by omega)]
    | succ k ih =>
      intro hk
      have hps2 := (brsM_k (v := vF M) (g := nG M) (lt := fun k => lets M (if k = 4 then b 65 else M 8 0 k) (bitsN (opB qc M b) (nB M) &&& (frz ^^^ (-1)))) (cm := fun k => if k = 4 then b 64 else M 9 0 k) hn (finM_psd (fn := fnM qc M frz b) hn hps) k (by omega)).2
      have ih' := ih (by omega)
      rw [brsM]
      split
      · rw [brM_oth hn (by omega) hps2 (by omega) (by omega) (by omega) (by omega)]; exact ih'
      · exact ih'
  have x : ∀ i, i ≠ 63 → hM qc M frz b i = brM (nB M) (vF M) (lets M (b 65) (bitsN (opB qc M b) (nB M) &&& (frz ^^^ (-1)))) (b 64) 4 (brsM (nB M) (vF M) (nG M) (fun k => lets M (if k = 4 then b 65 else M 8 0 k) (bitsN (opB qc M b) (nB M) &&& (frz ^^^ (-1)))) (fun k => if k = 4 then b 64 else M 9 0 k) 4 (finM (nB M) (fnM qc M frz b) b)) i := by
    intro i hi
    unfold hM hrM
    rw [if_neg hi, brsM, if_pos]
    · rfl
    · unfold isb5
      rw [finM_x, if_neg (by omega)]
      simp [h64]
  have r52 := pre 52 (by omega) 4 (by omega)
  have r57 := pre 57 (by omega) 4 (by omega)
  have r63 := pre 63 (by omega) 4 (by omega)
  rw [x 52 (by omega), x 57 (by omega)]
  generalize brsM (nB M) (vF M) (nG M) (fun k => lets M (if k = 4 then b 65 else M 8 0 k) (bitsN (opB qc M b) (nB M) &&& (frz ^^^ (-1)))) (fun k => if k = 4 then b 64 else M 9 0 k) 4 (finM (nB M) (fnM qc M frz b) b) = B at r52 r57 r63 ⊢
  have cl : (B (48 + 4)).toNatClampNeg = p := cl_of (r52.trans h52) (by omega)
  unfold brM
  rw [show (53 + 4 : Nat) = 57 from rfl, r57, r63]
  constructor
  · intro hc
    have hb := (pon_b (nB M) (lets M (b 65) (bitsN (opB qc M b) (nB M) &&& (frz ^^^ (-1)))) (vF M) p hp).2.1
    rw [if_pos hc]
    unfold goR
    rw [cl]
    exact ⟨rfl, rfl⟩
  · intro hc
    rw [if_neg hc]
    exact ⟨r52, r57⟩
