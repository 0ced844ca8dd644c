/-! AN HOUR, THE MODEL'S SIDE -/
def mBed (M : Mem) : Prop := M 58 0 0 = M 3 0 0 ∧ M 58 0 1 = M 3 0 5 ∧ M 58 0 2 = M 3 0 8 ∧ M 58 0 3 = M 3 0 12 ∧ M 58 0 4 = M 3 0 13 ∧ (∀ b, b < nB M → mBoard M b) ∧ (∀ k, k < nG M → M 62 (k + 1) 0 = M 8 0 k ∧ M 62 (k + 1) 1 = M 9 0 k) ∧ (∀ s, s < nS M → M 64 (s + 1) 0 = M 10 0 s ∧ M 64 (s + 1) 1 = M 11 0 s ∧ M 64 (s + 1) 2 = M 12 0 s)
/-- who has which MAST: the model's fifth is the one that is asked for -/
def mst (q1 : Nat) (M : Mem) (x : Nat) : Int32 := if x = 4 then M q1 0 65 else M 8 0 x
def cms (q1 : Nat) (M : Mem) (x : Nat) : Int32 := if x = 4 then M q1 0 64 else M 9 0 x
/-- where the model's memory may change in an HOUR of row q1 -/
theorem mastOf_eq {q1 : Nat} {M : Mem} {x : Nat} (hx : x < 5) (h : x < 4 → M 62 (x + 1) 0 = M 8 0 x) : f_X12_mastOf q1 (nI x) M = some (mst q1 M x) := by
  unfold f_X12_mastOf mst
  by_cases h4 : x = 4
  · subst h4
    rfl
  · have hx4 : x < 4 := by omega
    have hne : ¬ nI x = (4 : Int32) := fun z => h4 ((nI_eq (b := 4) (by omega) (by decide)).mp z)
    rw [if_neg hne, if_pos (inb_n hx4 (by decide)), nI_clamp (by omega), h hx4, if_neg h4]
theorem comesIn_eq {q1 : Nat} {M : Mem} {x : Nat} (hx : x < 5) (h : x < 4 → M 62 (x + 1) 1 = M 9 0 x) : f_X12_comesIn q1 (nI x) M = some (cms q1 M x) := by
  unfold f_X12_comesIn cms
  by_cases h4 : x = 4
  · subst h4
    rfl
  · have hx4 : x < 4 := by omega
    have hne : ¬ nI x = (4 : Int32) := fun z => h4 ((nI_eq (b := 4) (by omega) (by decide)).mp z)
    rw [if_neg hne, if_pos (inb_n hx4 (by decide)), nI_clamp (by omega), h hx4, if_neg h4]
/-- the row behind a BARGE's HOUR, there and on its way -/
def goR (n v : Nat) (lt : Nat → Bool) (x : Nat) (b : Nat → Int32) : Nat → Int32 := fun i => if i = 48 + x then nI (pon n lt v (b (48 + x)).toNatClampNeg) else if i = 32 + pon n lt v (b (48 + x)).toNatClampNeg ∧ pon n lt v (b (48 + x)).toNatClampNeg < n ∧ pon n lt v (b (48 + x)).toNatClampNeg - (b (48 + x)).toNatClampNeg < v then b i + 1 else b i
theorem m_go {q1 : Nat} {M : Mem} {x p n v : Nat} {op : Int32} (hq : q1 = 72 ∨ q1 = 73) (hn : M 58 0 0 = nI n) (h16 : n ≤ 16) (hv : v ≤ 4) (h74 : ∀ b, b < n → M 74 0 b = if bt op b = true then 1 else 0) (hcl : ∀ b, b < n → M 60 (b + 1) 0 = M 4 0 b) (hx : x < 5) (hm : x < 4 → M 62 (x + 1) 0 = M 8 0 x) (hp : p ≤ n) (hb : M q1 0 (48 + x) = nI p) :
    ok (wh (L_X12_goesOn_47 q1 (nI x)) FU (nI v, M)) (fun M' => fr [q1] M M' ∧ M' q1 0 = goR n v (lets M (mst q1 M x) op) x (M q1 0)) := by
  obtain ⟨b1, b2, b3, b4, b5⟩ := pon_b n (lets M (mst q1 M x) op) v p hp
  have cl : (M q1 0 (48 + x)).toNatClampNeg = p := cl_of hb (by omega)
  unfold goR
  rw [cl]
  generalize pon n (lets M (mst q1 M x) op) v p = P at b1 b2 b3 b4 b5 ⊢
  have n58 : (58 : Nat) ∉ [q1] := by rcases hq with rfl | rfl <;> decide
  have n74 : (74 : Nat) ∉ [q1] := by rcases hq with rfl | rfl <;> decide
  have n60 : (60 : Nat) ∉ [q1] := by rcases hq with rfl | rfl <;> decide
  have n62 : (62 : Nat) ∉ [q1] := by rcases hq with rfl | rfl <;> decide
  have n8 : (8 : Nat) ∉ [q1] := by rcases hq with rfl | rfl <;> decide
  refine ok_wh (fun k s => fr [q1] M s.2 ∧ ((k ≤ P - p ∧ s.1 = nI (v - k) ∧ s.2 q1 0 = upd1 (M q1 0) (48 + x) (nI (p + k))) ∨ (k = P - p + 1 ∧ P < n ∧ P - p < v ∧ s.1 = 0 ∧ s.2 q1 0 = upd1 (upd1 (M q1 0) (48 + x) (nI P)) (32 + P) (M q1 0 (32 + P) + 1)))) (P - p + (if P < n ∧ P - p < v then 1 else 0)) ⟨fr_rfl, Or.inl ⟨by omega, rfl, ?_⟩⟩ (by split <;> omega) ?_ ?_
  · funext i
    unfold upd1
    split
    · rename_i h; rw [h]; exact hb
    · rfl
  · rintro k ⟨x3, M1⟩ hk ⟨hf, hI⟩
    simp only at hf hI
    have hkn : k ≤ P - p := by split at hk <;> omega
    rcases hI with ⟨-, rfl, hr⟩ | ⟨z, -⟩
    · have hlt : P - p ≤ v := by omega
      have hkv : k < v := by
        by_cases hc : P < n ∧ P - p < v
        · omega
        · rw [if_neg hc] at hk; omega
      have hpk : p + k < n := by
        by_cases hc : P < n ∧ P - p < v
        · omega
        · rw [if_neg hc] at hk; omega
      have er : M1 q1 0 (48 + x) = nI (p + k) := by rw [hr, upd1_e]
      unfold L_X12_goesOn_47
      simp only [ad48, nI_clamp (show 48 + x < 2 ^ 31 by omega), er, nI_clamp (show p + k < 2 ^ 31 by omega), hf 58 n58, hn, hf 74 n74, hf 60 n60]
      refine ok_ifn (nI_nle (by omega) (by omega)) (ok_ifp (inb_n (by omega) (by decide)) (ok_ifn (nI_ge hpk (by omega)) (ok_ifp (inb_n (by omega) (by decide)) ?_)))
      have e65 : mst q1 M1 x = mst q1 M x := by
        unfold mst
        rw [hr, upd1_n (by omega), hf 8 n8]
      have go : ok (some (Sum.inl (nI (v - k) - 1, am_u3 M1 q1 0 (48 + x) (nI (p + k) + 1))) : Option ((Int32 × Mem) ⊕ Mem)) (stp (fun s => fr [q1] M s.2 ∧ ((k + 1 ≤ P - p ∧ s.1 = nI (v - (k + 1)) ∧ s.2 q1 0 = upd1 (M q1 0) (48 + x) (nI (p + (k + 1)))) ∨ (k + 1 = P - p + 1 ∧ P < n ∧ P - p < v ∧ s.1 = 0 ∧ s.2 q1 0 = upd1 (upd1 (M q1 0) (48 + x) (nI P)) (32 + P) (M q1 0 (32 + P) + 1)))) (fun M' => fr [q1] M M' ∧ M' q1 0 = fun i => if i = 48 + x then nI P else if i = 32 + P ∧ P < n ∧ P - p < v then M q1 0 i + 1 else M q1 0 i)) ∨ lets M (mst q1 M x) op (p + k) = false := by
        by_cases hl : lets M (mst q1 M x) op (p + k) = true
        · left
          have hkP : k + 1 ≤ P - p := by
            by_cases hc : k = P - p
            · exfalso
              have : p + k = P := by omega
              rw [this] at hl hpk
              rw [b5 hpk (by omega)] at hl
              cases hl
            · omega
          refine ok_some ⟨fr_u3 hf (by simp), Or.inl ⟨hkP, ?_, ?_⟩⟩
          · show nI (v - k) - 1 = _
            rw [nI_sub1 (by omega), Nat.sub_sub]
          · show am_u3 M1 q1 0 (48 + x) _ q1 0 = _
            rw [u3_r, hr, nI_1]
            funext i
            unfold upd1
            grind
        · right
          simpa using hl
      by_cases ho : bt op (p + k) = true
      · refine ok_ifn (by rw [h74 _ hpk, if_pos ho]; decide) ?_
        rcases go with go | go
        · exact go
        · unfold lets at go; rw [ho, Bool.or_true] at go; cases go
      · refine ok_ifp (by rw [h74 _ hpk, if_neg ho]) (ok_bindE (mastOf_eq hx (by rw [hf 62 n62, hf 8 n8]; exact hm)) ?_)
        rw [hcl _ hpk, e65]
        by_cases hc : mst q1 M x ≤ M 4 0 (p + k)
        · refine ok_ifp hc ?_
          rcases go with go | go
          · exact go
          · unfold lets at go; rw [decide_eq_true hc, Bool.true_or] at go; cases go
        · have hl : lets M (mst q1 M x) op (p + k) = false := by
            unfold lets
            rw [decide_eq_false hc, Bool.false_or]
            simpa using ho
          have hkP : p + k = P := by
            by_cases hc : k = P - p
            · omega
            · have := b4 (p + k) (by omega) (by omega)
              rw [hl] at this
              cases this
          rw [ad32, nI_clamp (show 32 + (p + k) < 2 ^ 31 by omega)]
          refine ok_ifn hc (ok_ifp (inb_n (by omega) (by decide)) (ok_some ⟨fr_u3 hf (by simp), Or.inr ⟨by omega, by omega, by omega, rfl, ?_⟩⟩))
          show am_u3 M1 q1 0 (32 + (p + k)) _ q1 0 = _
          rw [u3_r, hr, hkP, upd1_n (by omega)]
    · omega
  · rintro ⟨x3, M1⟩ ⟨hf, hI⟩
    simp only at hf hI
    unfold L_X12_goesOn_47
    rcases hI with ⟨h1, rfl, hr⟩ | ⟨h1, h2, h3, rfl, hr⟩
    · by_cases hc : P < n ∧ P - p < v
      · rw [if_pos hc] at h1; omega
      · rw [if_neg hc] at hr ⊢
        rw [Nat.add_zero] at *
        have er : M1 q1 0 (48 + x) = nI P := by rw [hr, upd1_e]; congr 1; omega
        have fin : M1 q1 0 = fun i => if i = 48 + x then nI P else if i = 32 + P ∧ P < n ∧ P - p < v then M q1 0 i + 1 else M q1 0 i := by
          rw [hr, show p + (P - p) = P by omega]
          funext i
          unfold upd1
          rw [if_neg (show ¬ (i = 32 + P ∧ P < n ∧ P - p < v) from fun z => hc z.2)]
        by_cases hv0 : v - (P - p) = 0
        · refine ok_ifp (by rw [hv0]; decide) (ok_some ⟨hf, fin⟩)
        · simp only [ad48, nI_clamp (show 48 + x < 2 ^ 31 by omega), er, hf 58 n58, hn]
          exact ok_ifn (nI_nle (by omega) (by omega)) (ok_ifp (inb_n (by omega) (by decide)) (ok_ifp (nI_le (by omega) (by omega)) (ok_some ⟨hf, fin⟩)))
    · refine ok_ifp (by decide) (ok_some ⟨hf, ?_⟩)
      rw [hr]
      funext i
      unfold upd1
      grind
