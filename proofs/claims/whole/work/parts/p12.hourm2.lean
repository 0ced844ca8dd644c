/-- one BARGE in an HOUR of the model -/
def brM (n v : Nat) (lt : Nat → Bool) (cm : Int32) (x : Nat) (b : Nat → Int32) : Nat → Int32 :=
  if (b (53 + x) = 0 ∧ cm = b 63) ∨ b (53 + x) = 1 then
    fun i => if i = 53 + x then (if pon n lt v (b (48 + x)).toNatClampNeg = n then 2 else 1) else if i = 58 + x ∧ pon n lt v (b (48 + x)).toNatClampNeg = n then b 63 else goR n v lt x b i
  else b
def psdM (n : Nat) (b : Nat → Int32) : Prop := ∀ x, x < 5 → ∃ p, p ≤ n ∧ b (48 + x) = nI p
/-- the model's numbers that an HOUR reads -/
def mHr (M : Mem) (n v g : Nat) (op : Int32) : Prop := M 58 0 0 = nI n ∧ n ≤ 16 ∧ M 58 0 3 = nI v ∧ v ≤ 4 ∧ M 58 0 1 = nI g ∧ g ≤ 4 ∧ (∀ b, b < n → M 74 0 b = if bt op b = true then 1 else 0) ∧ (∀ b, b < n → M 60 (b + 1) 0 = M 4 0 b) ∧ (∀ x, x < g → M 62 (x + 1) 0 = M 8 0 x ∧ M 62 (x + 1) 1 = M 9 0 x)
theorem mHr_fr {M M' : Mem} {n v g : Nat} {op : Int32} (h : mHr M n v g op) (e58 : M' 58 = M 58) (e74 : M' 74 = M 74) (e60 : M' 60 = M 60) (e62 : M' 62 = M 62) (e4 : M' 4 = M 4) (e8 : M' 8 = M 8) (e9 : M' 9 = M 9) : mHr M' n v g op := by
  unfold mHr at *
  rw [e58, e74, e60, e62, e4, e8, e9]
  exact h
theorem m_tail {q1 : Nat} {M : Mem} {x n v g : Nat} {op : Int32} (hq : q1 = 72 ∨ q1 = 73) (hM : mHr M n v g op) (hx : x < g ∨ x = 4) (hp : psdM n (M q1 0)) (h1 : M q1 0 (53 + x) = 1) :
    ok (Option.bind (wh (L_X12_goesOn_47 q1 (nI x)) FU (M 58 0 3, M)) (fun (M19 : Mem) => (if inb (nI (48 + x)) 66 = true then (if (M19 58 0 0) ≤ (M19 q1 0 (48 + x)) then (if inb (nI (58 + x)) 66 = true then some (am_u3 (am_u3 M19 q1 0 (53 + x) (2 : Int32)) q1 0 (58 + x) ((am_u3 M19 q1 0 (53 + x) (2 : Int32)) q1 0 63)) else none) else some M19) else none)))
      (fun M' => fr [q1] M M' ∧ M' q1 0 = brM n v (lets M (mst q1 M x) op) 0 x (M q1 0)) := by
  obtain ⟨e0, h16, e3, h4, e1, hg, h74, h60, h62⟩ := hM
  have hx5 : x < 5 := by omega
  obtain ⟨p, hp1, hp2⟩ := hp x hx5
  have n58 : (58 : Nat) ∉ [q1] := by rcases hq with rfl | rfl <;> decide
  rw [e3]
  refine ok_bind (m_go hq e0 h16 h4 h74 h60 hx5 (fun hx4 => (h62 x (by omega)).1) hp1 hp2) ?_
  rintro M1 ⟨hf, hr⟩
  have cl : (M q1 0 (48 + x)).toNatClampNeg = p := cl_of hp2 (by omega)
  have b2 := (pon_b n (lets M (mst q1 M x) op) v p hp1).2.1
  have er : M1 q1 0 (48 + x) = nI (pon n (lets M (mst q1 M x) op) v p) := by rw [hr]; unfold goR; rw [if_pos rfl, cl]
  rw [er, hf 58 n58, e0]
  refine ok_ifp (inb_n (by omega) (by decide)) ?_
  by_cases hc : n ≤ pon n (lets M (mst q1 M x) op) v p
  · have hc' : pon n (lets M (mst q1 M x) op) v p = n := by omega
    refine ok_ifp (nI_le hc (by omega)) (ok_ifp (inb_n (by omega) (by decide)) (ok_some ⟨fr_u3 (fr_u3 hf (by simp)) (by simp), ?_⟩))
    rw [u3_r, u3_r]
    unfold brM
    rw [if_pos (Or.inr h1), cl, hr]
    funext i
    unfold upd1 goR
    rw [cl]
    grind
  · refine ok_ifn (nI_ge (by omega) (by omega)) (ok_some ⟨hf, ?_⟩)
    unfold brM
    rw [if_pos (Or.inr h1), cl, hr]
    funext i
    unfold goR
    rw [cl]
    grind
theorem brM_come {n v : Nat} {lt : Nat → Bool} {cm : Int32} {x : Nat} {b : Nat → Int32} (hn : n ≤ 16) (hx : x < 5) (hp : psdM n b) (h : b (53 + x) = 0) (hc : cm = b 63) : brM n v lt 0 x (upd1 b (53 + x) 1) = brM n v lt cm x b := by
  obtain ⟨p, hp1, hp2⟩ := hp x hx
  have b2 := (pon_b n lt v p hp1).2.1
  have cl : (b (48 + x)).toNatClampNeg = p := cl_of hp2 (by omega)
  unfold brM
  rw [if_pos (Or.inr (upd1_e _ _ _)), if_pos (Or.inl ⟨h, hc⟩), upd1_n (show 48 + x ≠ 53 + x by omega), upd1_n (show 63 ≠ 53 + x by omega)]
  funext i
  unfold goR
  rw [upd1_n (show 48 + x ≠ 53 + x by omega), cl]
  unfold upd1
  grind
theorem m_goesOn {q1 : Nat} {M : Mem} {x n v g : Nat} {op : Int32} (hq : q1 = 72 ∨ q1 = 73) (hM : mHr M n v g op) (hx : x < g ∨ x = 4) (hp : psdM n (M q1 0)) :
    ok (f_X12_goesOn q1 (nI x) M) (fun M' => fr [q1] M M' ∧ M' q1 0 = brM n v (lets M (mst q1 M x) op) (cms q1 M x) x (M q1 0)) := by
  have hM0 := hM
  obtain ⟨e0, h16, e3, h4, e1, hg, h74, h60, h62⟩ := hM
  have hx5 : x < 5 := by omega
  have n58 : (58 : Nat) ≠ q1 := by rcases hq with rfl | rfl <;> decide
  have n74 : (74 : Nat) ≠ q1 := by rcases hq with rfl | rfl <;> decide
  have n60 : (60 : Nat) ≠ q1 := by rcases hq with rfl | rfl <;> decide
  have n62 : (62 : Nat) ≠ q1 := by rcases hq with rfl | rfl <;> decide
  have n4 : (4 : Nat) ≠ q1 := by rcases hq with rfl | rfl <;> decide
  have n8 : (8 : Nat) ≠ q1 := by rcases hq with rfl | rfl <;> decide
  have n9 : (9 : Nat) ≠ q1 := by rcases hq with rfl | rfl <;> decide
  unfold f_X12_goesOn
  simp only [ad53, ad48, ad58, nI_clamp (show 53 + x < 2 ^ 31 by omega), nI_clamp (show 48 + x < 2 ^ 31 by omega), nI_clamp (show 58 + x < 2 ^ 31 by omega)]
  refine ok_ifp (inb_n (by omega) (by decide)) ?_
  by_cases h0 : M q1 0 (53 + x) = 0
  · refine ok_ifp h0 (ok_bindE (comesIn_eq hx5 (fun hx4 => (h62 x (by omega)).2)) ?_)
    by_cases hc : cms q1 M x = M q1 0 63
    · refine ok_ifp hc (ok_ifp (u3_e _ _ _ _ _) ?_)
      rw [show M 58 0 3 = am_u3 M q1 0 (53 + x) 1 58 0 3 by rw [u3_c n58]]
      have hp' : psdM n (am_u3 M q1 0 (53 + x) 1 q1 0) := by
        rw [u3_r]
        intro y hy
        rw [upd1_n (by omega)]
        exact hp y hy
      refine ok_mono (m_tail hq (mHr_fr hM0 (u3_c n58) (u3_c n74) (u3_c n60) (u3_c n62) (u3_c n4) (u3_c n8) (u3_c n9)) hx hp' (u3_e _ _ _ _ _)) ?_
      rintro M' ⟨z1, z2⟩
      refine ⟨fr_tr (fr_u3 fr_rfl (by simp)) z1, ?_⟩
      rw [z2, u3_r, brM_come h16 hx5 hp h0 hc]
      unfold lets mst
      rw [u3_c n4, u3_c n8, u3_r, upd1_n (by omega)]
    · refine ok_ifn hc (ok_ifn (by rw [h0]; decide) (ok_some ⟨fr_rfl, ?_⟩))
      unfold brM
      rw [if_neg (by rintro (z | z); exact hc z.2; rw [h0] at z; exact absurd z (by decide))]
  · refine ok_ifn h0 ?_
    by_cases h1 : M q1 0 (53 + x) = 1
    · refine ok_ifp h1 ?_
      refine ok_mono (m_tail hq hM0 hx hp h1) ?_
      rintro M' ⟨z1, z2⟩
      refine ⟨z1, ?_⟩
      rw [z2]
      unfold brM
      rw [if_pos (Or.inr h1), if_pos (Or.inr h1)]
    · refine ok_ifn h1 (ok_some ⟨fr_rfl, ?_⟩)
      unfold brM
      rw [if_neg (by rintro (z | z); exact h0 z.1; exact h1 z)]
/-- which BARGES there are -/
def isb5 (g : Nat) (b : Nat → Int32) (x : Nat) : Bool := decide (x < g) || (decide (x = 4) && decide (b 64 ≠ -1))
def brsM (n v g : Nat) (lt : Nat → Nat → Bool) (cm : Nat → Int32) : Nat → (Nat → Int32) → (Nat → Int32)
  | 0, b => b
  | k + 1, b => if isb5 g b k = true then brM n v (lt k) (cm k) k (brsM n v g lt cm k b) else brsM n v g lt cm k b
theorem brM_k {n v : Nat} {lt : Nat → Bool} {cm : Int32} {x : Nat} {b : Nat → Int32} (hn : n ≤ 16) (hx : x < 5) (hp : psdM n b) : (∀ i, 63 ≤ i → brM n v lt cm x b i = b i) ∧ psdM n (brM n v lt cm x b) := by
  obtain ⟨p, hp1, hp2⟩ := hp x hx
  have b2 := (pon_b n lt v p hp1).2.1
  have cl : (b (48 + x)).toNatClampNeg = p := cl_of hp2 (by omega)
  unfold brM
  split
  · constructor
    · intro i hi
      unfold goR
      rw [cl]
      grind
    · intro y hy
      obtain ⟨p', h1, h2⟩ := hp y hy
      by_cases hxy : y = x
      · subst hxy
        refine ⟨pon n lt v p, b2, ?_⟩
        unfold goR
        rw [cl]
        grind
      · refine ⟨p', h1, ?_⟩
        unfold goR
        rw [cl]
        grind
  · exact ⟨fun _ _ => rfl, hp⟩
theorem brsM_k {n v g : Nat} {lt : Nat → Nat → Bool} {cm : Nat → Int32} {b : Nat → Int32} (hn : n ≤ 16) (hp : psdM n b) : ∀ k, k ≤ 5 → (∀ i, 63 ≤ i → brsM n v g lt cm k b i = b i) ∧ psdM n (brsM n v g lt cm k b)
  | 0, _ => ⟨fun _ _ => rfl, hp⟩
  | k + 1, hk => by
    obtain ⟨h1, h2⟩ := brsM_k (v := v) (g := g) (lt := lt) (cm := cm) hn hp k (by omega)
    rw [brsM]
    split
    · have := brM_k (v := v) (lt := lt k) (cm := cm k) (x := k) hn (by omega) h2
      exact ⟨fun i hi => (this.1 i hi).trans (h1 i hi), this.2⟩
    · exact ⟨h1, h2⟩
theorem m_bars {q1 : Nat} {M : Mem} {n v g : Nat} {op : Int32} (hq : q1 = 72 ∨ q1 = 73) (hM : mHr M n v g op) (hp : psdM n (M q1 0)) :
    ok (wh (L_X12_hourEnds_121 q1) FU ((0 : Int32), M)) (fun M' => fr [q1] M M' ∧ M' q1 0 = brsM n v g (fun k => lets M (mst q1 M k) op) (fun k => cms q1 M k) 5 (M q1 0)) := by
  have n58 : (58 : Nat) ∉ [q1] := by rcases hq with rfl | rfl <;> decide
  have n74 : (74 : Nat) ∉ [q1] := by rcases hq with rfl | rfl <;> decide
  have n60 : (60 : Nat) ∉ [q1] := by rcases hq with rfl | rfl <;> decide
  have n62 : (62 : Nat) ∉ [q1] := by rcases hq with rfl | rfl <;> decide
  have n4 : (4 : Nat) ∉ [q1] := by rcases hq with rfl | rfl <;> decide
  have n8 : (8 : Nat) ∉ [q1] := by rcases hq with rfl | rfl <;> decide
  have n9 : (9 : Nat) ∉ [q1] := by rcases hq with rfl | rfl <;> decide
  have h16 := hM.2.1
  have hg := hM.2.2.2.2.2.1
  refine ok_wh (fun k s => s.1 = nI k ∧ fr [q1] M s.2 ∧ s.2 q1 0 = brsM n v g (fun k => lets M (mst q1 M k) op) (fun k => cms q1 M k) k (M q1 0)) 5 ⟨rfl, fr_rfl, rfl⟩ (by decide) ?_ ?_
  · rintro k ⟨x3, M1⟩ hk ⟨rfl, hf, hr⟩
    simp only at hf hr
    obtain ⟨k1, k2⟩ := brsM_k (v := v) (g := g) (lt := fun k => lets M (mst q1 M k) op) (cm := fun k => cms q1 M k) h16 hp k (by omega)
    have e64 : M1 q1 0 64 = M q1 0 64 := by rw [hr]; exact k1 64 (by omega)
    have e65 : M1 q1 0 65 = M q1 0 65 := by rw [hr]; exact k1 65 (by omega)
    unfold L_X12_hourEnds_121
    refine ok_ifn (nI_nlt (b := k) (a := 4) (by omega) (by decide)) ?_
    have eb : f_X12_isBarge q1 (nI k) M1 = if isb5 g (M q1 0) k = true then 1 else 0 := by
      unfold f_X12_isBarge isb5
      rw [hf 58 n58, hM.2.2.2.2.1, e64]
      by_cases h1 : k < g
      · rw [if_pos (nI_lt h1 (by omega)), decide_eq_true h1]
        rfl
      · rw [if_neg (nI_nlt (by omega) (by omega)), decide_eq_false h1]
        by_cases h4 : k = 4
        · subst h4
          by_cases h5 : M q1 0 64 = -1
          · rw [if_pos (show nI 4 = 4 from rfl), if_pos h5]; simp [h5]
          · rw [if_pos (show nI 4 = 4 from rfl), if_neg h5]; simp [h5]
        · have hne : ¬ nI k = (4 : Int32) := fun z => h4 ((nI_eq (b := 4) (by omega) (by decide)).mp z)
          rw [if_neg hne, decide_eq_false h4]
          rfl
    rw [eb]
    by_cases hb : isb5 g (M q1 0) k = true
    · refine ok_ifn (by rw [if_pos hb]; decide) ?_
      have hx : k < g ∨ k = 4 := by
        unfold isb5 at hb
        simp only [Bool.or_eq_true, Bool.and_eq_true, decide_eq_true_eq] at hb
        omega
      refine ok_bind (m_goesOn hq (mHr_fr hM (hf 58 n58) (hf 74 n74) (hf 60 n60) (hf 62 n62) (hf 4 n4) (hf 8 n8) (hf 9 n9)) hx (by rw [hr]; exact k2)) ?_
      rintro M2 ⟨z1, z2⟩
      refine ok_some ⟨nI_1 k, fr_tr hf z1, ?_⟩
      show M2 q1 0 = _
      rw [z2, hr, brsM, if_pos hb]
      unfold lets mst cms
      rw [e64, e65, hf 4 n4, hf 8 n8, hf 9 n9]
    · refine ok_ifp (by rw [if_neg hb]) (ok_some ⟨nI_1 k, hf, ?_⟩)
      show M1 q1 0 = _
      rw [hr, brsM, if_neg hb]
  · rintro ⟨x3, M1⟩ ⟨rfl, hf, hr⟩
    unfold L_X12_hourEnds_121
    exact ok_ifp (by decide) (ok_some ⟨hf, hr⟩)
