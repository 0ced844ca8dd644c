theorem c_tail {q1 : Nat} {M : Mem} {m op : Int32} {p k : Nat} {Q : Mem → Prop} (hq : q1 = 30 ∨ q1 = 40) (hB : cBed M) (hk : k < 4) (hp : p ≤ nB M) (h1 : M q1 0 (35 + k) = 1) (h2 : M q1 0 (39 + k) = nI p) :
    ok (Option.bind (f_X4_passedOn m (nI p) op M) (fun (v34 : Int32) => (Option.bind (f_X8_pass q1 (nI k) v34 M) (fun (M35 : Mem) => (if (f_X4_hasKnocked (nI p) v34 M35) = 0 then (if v34 = (M35 3 0 0) then (Option.bind (f_X8_leave q1 (nI k) M35) (fun (M38 : Mem) => some (Sum.inl (nI k + 1, M38)))) else some (Sum.inl (nI k + 1, M35))) else (Option.bind (f_X8_knock q1 v34 M35) (fun (M39 : Mem) => (if v34 = (M39 3 0 0) then (Option.bind (f_X8_leave q1 (nI k) M39) (fun (M41 : Mem) => some (Sum.inl (nI k + 1, M41)))) else some (Sum.inl (nI k + 1, M39)))))))))) 
      (stp (fun s => s.1 = nI (k + 1) ∧ fr [q1] M s.2 ∧ s.2 q1 0 = brC (nB M) (vF M) (lets M m op) 0 k (M q1 0)) Q) := by
  obtain ⟨b1, b2, b3, b4, b5⟩ := pon_b (nB M) (lets M m op) (vF M) p hp
  have h16 := hB.1.2
  have n3 : (3 : Nat) ≠ q1 := by rcases hq with rfl | rfl <;> decide
  refine ok_bindE (c_passedOn hB hp) ?_
  unfold f_X8_pass
  rw [ad39, if_pos (inb_n (by omega) (by decide)), nI_clamp (by omega)]
  refine ok_bindE rfl ?_
  have hB' : cBed (am_u3 M q1 0 (39 + k) (nI (pon (nB M) (lets M m op) (vF M) p))) := cBed_fr (u3_c n3) hB
  rw [c_knocked hB' b1 (by rw [nB_fr (u3_c n3)]; exact b2), nB_fr (u3_c n3), vF_fr (u3_c n3), u3_c n3, hB.1.1]
  have cl : (M q1 0 (39 + k)).toNatClampNeg = p := cl_of h2 (by omega)
  have leq : ∀ M35 : Mem, f_X8_leave q1 (nI k) M35 = some (am_u3 (am_u3 M35 q1 0 (35 + k) 2) q1 0 (43 + k) ((am_u3 M35 q1 0 (35 + k) 2) q1 0 0)) := by
    intro M35
    unfold f_X8_leave
    rw [ad35, ad43, if_pos (inb_n (by omega) (by decide)), if_pos (inb_n (by omega) (by decide)), nI_clamp (by omega), nI_clamp (by omega)]
  by_cases hn : pon (nB M) (lets M m op) (vF M) p < nB M ∧ pon (nB M) (lets M m op) (vF M) p - p < vF M
  · refine ok_ifn (by rw [if_pos hn]; decide) ?_
    unfold f_X8_knock
    rw [ad19, if_pos (inb_n (by omega) (by decide)), nI_clamp (by omega)]
    refine ok_bindE rfl ?_
    rw [u3_c n3, u3_c n3, hB.1.1]
    refine ok_ifn (fun z => by rw [nI_eq (by omega) (by omega)] at z; omega) (ok_some ⟨nI_1 k, fr_u3 (fr_u3 fr_rfl (by simp)) (by simp), ?_⟩)
    show am_u3 (am_u3 M q1 0 _ _) q1 0 _ _ q1 0 = _
    rw [u3_r, u3_r]
    unfold brC
    rw [if_pos (Or.inr h1), cl]
    generalize pon (nB M) (lets M m op) (vF M) p = P at *
    funext i
    unfold upd1
    clear hB' leq b4 b5
    grind
  · refine ok_ifp (by rw [if_neg hn]) ?_
    by_cases hP : pon (nB M) (lets M m op) (vF M) p = nB M
    · refine ok_ifp (by rw [hP]) (ok_bindE (leq _) (ok_some ⟨nI_1 k, fr_u3 (fr_u3 (fr_u3 fr_rfl (by simp)) (by simp)) (by simp), ?_⟩))
      show am_u3 (am_u3 (am_u3 M q1 0 _ _) q1 0 _ _) q1 0 _ _ q1 0 = _
      rw [u3_r, u3_r, u3_r]
      unfold brC
      rw [if_pos (Or.inr h1), cl]
      generalize pon (nB M) (lets M m op) (vF M) p = P at *
      funext i
      unfold upd1
      clear hB' leq b4 b5
      grind
    · refine ok_ifn (fun z => by rw [nI_eq (by omega) (by omega)] at z; omega) (ok_some ⟨nI_1 k, fr_u3 fr_rfl (by simp), ?_⟩)
      show am_u3 M q1 0 _ _ q1 0 = _
      rw [u3_r]
      unfold brC
      rw [if_pos (Or.inr h1), cl]
      generalize pon (nB M) (lets M m op) (vF M) p = P at *
      funext i
      unfold upd1
      clear hB' leq b4 b5
      grind
theorem brC_come {n v : Nat} {lt : Nat → Bool} {cm : Int32} {k : Nat} {a : Nat → Int32} (hk : k < 4) (h : a (35 + k) = 0) (hc : cm = a 0) : brC n v lt 0 k (upd1 a (35 + k) 1) = brC n v lt cm k a := by
  unfold brC
  rw [if_pos (Or.inr (upd1_e _ _ _)), if_pos (Or.inl ⟨h, hc⟩), upd1_n (show 39 + k ≠ 35 + k by omega), upd1_n (show 0 ≠ 35 + k by omega)]
  funext i
  by_cases i1 : i = 35 + k
  · rw [if_pos i1, if_pos i1]
  · rw [if_neg i1, if_neg i1, upd1_n i1]
/-- the step of the BARGES' loop -/
theorem c_barge {q1 : Nat} {M : Mem} {op : Int32} {k : Nat} {Q : Mem → Prop} (hq : q1 = 30 ∨ q1 = 40) (hB : cBed M) (hk : k < nG M) (hp : psd (nB M) (M q1 0)) :
    ok (L_X4_passHour_27 q1 op (nI k, M)) (stp (fun s => s.1 = nI (k + 1) ∧ fr [q1] M s.2 ∧ s.2 q1 0 = brC (nB M) (vF M) (lets M (M 8 0 k) op) (M 9 0 k) k (M q1 0)) Q) := by
  have hk4 : k < 4 := Nat.lt_of_lt_of_le hk hB.2.1.2
  have hG := hB.2.1.2
  obtain ⟨p, hp1, hp2⟩ := hp k hk4
  have n3 : (3 : Nat) ≠ q1 := by rcases hq with rfl | rfl <;> decide
  have n4 : (4 : Nat) ≠ q1 := by rcases hq with rfl | rfl <;> decide
  have n8 : (8 : Nat) ≠ q1 := by rcases hq with rfl | rfl <;> decide
  unfold L_X4_passHour_27 f_X8_whereIs f_X8_passedBy f_X8_come
  simp only [hB.2.1.1, ad35, ad39, if_pos (inb_n (show 35 + k < 47 by omega) (by decide)), if_pos (inb_n (show 39 + k < 47 by omega) (by decide)), if_pos (inb_n hk4 (by decide)), nI_clamp (show 35 + k < 2 ^ 31 by omega), nI_clamp (show 39 + k < 2 ^ 31 by omega), nI_clamp (show k < 2 ^ 31 by omega)]
  refine ok_ifn (nI_ge hk (by omega)) (ok_bindE rfl ?_)
  by_cases h0 : M q1 0 (35 + k) = 0
  · refine ok_ifp h0 ?_
    by_cases hc : M 9 0 k = M q1 0 0
    · refine ok_ifp hc (ok_bindE rfl (ok_bindE rfl (ok_ifp (u3_e _ _ _ _ _) ?_)))
      have e1 : am_u3 M q1 0 (35 + k) 1 q1 0 (39 + k) = nI p := by rw [u3_j (by omega)]; exact hp2
      refine ok_bindE (congrArg some e1) ?_
      rw [show am_u3 M q1 0 (35 + k) 1 8 = M 8 from u3_c n8]
      refine ok_mono (c_tail (Q := Q) hq (cBed_fr (u3_c n3) hB) hk4 (by rw [nB_fr (u3_c n3)]; exact hp1) (u3_e _ _ _ _ _) e1) ?_
      rintro (s | s) h
      · obtain ⟨z1, z2, z3⟩ := h
        refine ⟨z1, fr_tr (fr_u3 fr_rfl (by simp)) z2, ?_⟩
        rw [z3, u3_r, nB_fr (u3_c n3), vF_fr (u3_c n3), brC_come hk4 h0 hc]
        unfold lets
        rw [u3_c n4]
      · exact h
    · refine ok_ifn hc (ok_bindE rfl (ok_ifn (by rw [h0]; decide) (ok_some ⟨nI_1 k, fr_rfl, ?_⟩)))
      show M q1 0 = _
      unfold brC
      rw [if_neg (by rintro (z | z); exact hc z.2; rw [h0] at z; exact absurd z (by decide))]
  · refine ok_ifn h0 (ok_bindE rfl ?_)
    by_cases h1 : M q1 0 (35 + k) = 1
    · refine ok_ifp h1 (ok_bindE (congrArg some hp2) ?_)
      refine ok_mono (c_tail (Q := Q) hq hB hk4 hp1 h1 hp2) ?_
      rintro (s | s) h
      · obtain ⟨z1, z2, z3⟩ := h
        refine ⟨z1, z2, ?_⟩
        rw [z3]
        unfold brC
        rw [if_pos (Or.inr h1), if_pos (Or.inr h1)]
      · exact h
    · refine ok_ifn h1 (ok_some ⟨nI_1 k, fr_rfl, ?_⟩)
      show M q1 0 = _
      unfold brC
      rw [if_neg (by rintro (z | z); exact h0 z.1; exact h1 z)]

/-- all BARGES up to k -/
def brsC (n v : Nat) (lt : Nat → Nat → Bool) (cm : Nat → Int32) : Nat → (Nat → Int32) → (Nat → Int32)
  | 0, a => a
  | k + 1, a => brC n v (lt k) (cm k) k (brsC n v lt cm k a)
def finC (fb : Int32) (a : Nat → Int32) : Nat → Int32 := fun i => if 3 ≤ i ∧ i < 19 then a i + (if bt fb (i - 3) = true then 1 else 0) else a i
def hrC (n v g : Nat) (lt : Nat → Nat → Bool) (cm : Nat → Int32) (fb : Int32) (a : Nat → Int32) : Nat → Int32 := fun i => if i = 0 then a 0 + 1 else brsC n v lt cm g (finC fb a) i
theorem brC_0 {n v : Nat} {lt : Nat → Bool} {cm : Int32} {k : Nat} {a : Nat → Int32} : brC n v lt cm k a 0 = a 0 := by
  unfold brC
  split
  · grind
  · rfl
theorem brC_psd {n v : Nat} {lt : Nat → Bool} {cm : Int32} {k : Nat} {a : Nat → Int32} (hn : n ≤ 16) (hk : k < 4) (h : psd n a) : psd n (brC n v lt cm k a) := by
  intro j hj
  obtain ⟨p, h1, h2⟩ := h j hj
  unfold brC
  split
  · by_cases hjk : j = k
    · subst hjk
      refine ⟨pon n lt v (a (39 + j)).toNatClampNeg, ?_, ?_⟩
      · exact (pon_b n lt v _ (by rw [h2, nI_clamp (by omega)]; exact h1)).2.1
      · show (if 39 + j = 35 + j then _ else if 39 + j = 39 + j then _ else _) = _
        rw [if_neg (by omega), if_pos rfl]
    · obtain ⟨p2, h3, h4⟩ := h k hk
      have hb := pon_b n lt v (a (39 + k)).toNatClampNeg (by rw [h4, nI_clamp (by omega)]; exact h3)
      refine ⟨p, h1, ?_⟩
      show (if 39 + j = 35 + k then _ else if 39 + j = 39 + k then _ else if 39 + j = 19 + _ ∧ _ then _ else if 39 + j = 43 + k ∧ _ then _ else _) = _
      rw [if_neg (by omega), if_neg (by omega), if_neg (by omega), if_neg (by omega)]
      exact h2
  · exact ⟨p, h1, h2⟩
theorem brsC_psd {n v : Nat} {lt : Nat → Nat → Bool} {cm : Nat → Int32} {a : Nat → Int32} (hn : n ≤ 16) (h : psd n a) : ∀ k, k ≤ 4 → psd n (brsC n v lt cm k a)
  | 0, _ => h
  | k + 1, hk => brC_psd hn (by omega) (brsC_psd hn h k (by omega))
theorem brsC_0 {n v : Nat} {lt : Nat → Nat → Bool} {cm : Nat → Int32} {a : Nat → Int32} : ∀ k, brsC n v lt cm k a 0 = a 0
  | 0 => rfl
  | k + 1 => by rw [brsC, brC_0, brsC_0 k]
theorem finC_psd {n : Nat} {fb : Int32} {a : Nat → Int32} (h : psd n a) : psd n (finC fb a) := by
  intro j hj
  unfold finC
  rw [if_neg (by omega)]
  exact h j hj
theorem c_bars {q1 : Nat} {M : Mem} {op : Int32} (hq : q1 = 30 ∨ q1 = 40) (hB : cBed M) (hp : psd (nB M) (M q1 0)) :
    ok (wh (L_X4_passHour_27 q1 op) FU ((0 : Int32), M)) (fun M' => fr [q1] M M' ∧ M' q1 0 = brsC (nB M) (vF M) (fun k => lets M (M 8 0 k) op) (fun k => M 9 0 k) (nG M) (M q1 0)) := by
  have hG := hB.2.1.2
  have h16 := hB.1.2
  have n3 : (3 : Nat) ∉ [q1] := by rcases hq with rfl | rfl <;> decide
  have n4 : (4 : Nat) ∉ [q1] := by rcases hq with rfl | rfl <;> decide
  have n8 : (8 : Nat) ∉ [q1] := by rcases hq with rfl | rfl <;> decide
  have n9 : (9 : Nat) ∉ [q1] := by rcases hq with rfl | rfl <;> decide
  refine ok_wh (fun k s => s.1 = nI k ∧ fr [q1] M s.2 ∧ s.2 q1 0 = brsC (nB M) (vF M) (fun k => lets M (M 8 0 k) op) (fun k => M 9 0 k) k (M q1 0)) (nG M) ⟨rfl, fr_rfl, rfl⟩ (by omega) ?_ ?_
  · rintro k ⟨x5, M1⟩ hk ⟨rfl, hf, hr⟩
    simp only at hf hr
    refine ok_mono (c_barge (Q := fun M' => fr [q1] M M' ∧ M' q1 0 = brsC (nB M) (vF M) (fun k => lets M (M 8 0 k) op) (fun k => M 9 0 k) (nG M) (M q1 0)) hq (cBed_fr (hf 3 n3) hB) (by rw [nG_fr (hf 3 n3)]; exact hk) (by rw [nB_fr (hf 3 n3), hr]; exact brsC_psd h16 hp k (by omega))) ?_
    rintro (s | s) h
    · obtain ⟨z1, z2, z3⟩ := h
      refine ⟨z1, fr_tr hf z2, ?_⟩
      rw [z3, hr, nB_fr (hf 3 n3), vF_fr (hf 3 n3), hf 8 n8, hf 9 n9]
      unfold lets
      rw [hf 4 n4, brsC]
    · exact h
  · rintro ⟨x5, M1⟩ ⟨rfl, hf, hr⟩
    simp only at hf hr
    unfold L_X4_passHour_27
    simp only [hf 3 n3, hB.2.1.1]
    exact ok_ifp (nI_le (Nat.le_refl _) (by omega)) (ok_some ⟨hf, hr⟩)
theorem c_fine {q1 : Nat} {M : Mem} {fb : Int32} : ok (f_X8_fine q1 fb M) (fun M' => fr [q1] M M' ∧ M' q1 0 = finC fb (M q1 0)) := by
  unfold f_X8_fine
  refine ok_bind (P := fun M' => fr [q1] M M' ∧ M' q1 0 = finC fb (M q1 0)) ?_ (fun a h => ok_some h)
  refine ok_wh (fun k s => s.1 = nI k ∧ fr [q1] M s.2 ∧ ∀ i, s.2 q1 0 i = if 3 ≤ i ∧ i < 3 + k then M q1 0 i + (if bt fb (i - 3) = true then 1 else 0) else M q1 0 i) 16 ⟨rfl, fr_rfl, fun i => by rw [if_neg (by omega)]⟩ (by decide) ?_ ?_
  · rintro k ⟨x2, M1⟩ hk ⟨rfl, hf, hr⟩
    simp only at hf hr
    unfold L_X8_fine_2
    simp only [ad3, nI_clamp (show 3 + k < 2 ^ 31 by omega)]
    refine ok_ifn (nI_ge hk (by decide)) (ok_ifp (inb_n (by omega) (by decide)) (ok_some ⟨nI_1 k, fr_u3 hf (by simp), fun i => ?_⟩))
    show am_u3 M1 q1 0 (3 + k) _ q1 0 i = _
    rw [u3_r, bit1_bt fb (by omega), hr (3 + k)]
    unfold upd1
    have := hr i
    rw [show 3 + k - 3 = k by omega] at *
    grind
  · rintro ⟨x2, M1⟩ ⟨rfl, hf, hr⟩
    simp only at hf hr
    unfold L_X8_fine_2
    refine ok_ifp (by decide) (ok_some ⟨hf, ?_⟩)
    funext i
    rw [hr i]
    rfl
/-- what is open, who is fined -/
def opn (l s due frz : Int32) : Int32 := (l ||| (due &&& (s ^^^ (-1)))) &&& (frz ^^^ (-1))
def fnd (l s due frz : Int32) : Int32 := (opn l s due frz ^^^ due) &&& (frz ^^^ (-1))
theorem c_passHour {q1 : Nat} {M : Mem} {due frz : Int32} (hq : q1 = 30 ∨ q1 = 40) (hB : cBed M) (hp : psd (nB M) (M q1 0)) :
    ok (f_X4_passHour q1 due frz M) (fun M' => fr [q1] M M' ∧ M' q1 0 = hrC (nB M) (vF M) (nG M) (fun k => lets M (M 8 0 k) (opn (M q1 0 1) (M q1 0 2) due frz)) (fun k => M 9 0 k) (fnd (M q1 0 1) (M q1 0 2) due frz) (M q1 0)) := by
  unfold f_X4_passHour
  have n3 : (3 : Nat) ∉ [q1] := by rcases hq with rfl | rfl <;> decide
  have n4 : (4 : Nat) ∉ [q1] := by rcases hq with rfl | rfl <;> decide
  have n8 : (8 : Nat) ∉ [q1] := by rcases hq with rfl | rfl <;> decide
  have n9 : (9 : Nat) ∉ [q1] := by rcases hq with rfl | rfl <;> decide
  refine ok_bind c_fine ?_
  rintro M1 ⟨f1, r1⟩
  refine ok_bind (c_bars hq (cBed_fr (f1 3 n3) hB) (by rw [nB_fr (f1 3 n3), r1]; exact finC_psd hp)) ?_
  rintro M2 ⟨f2, r2⟩
  refine ok_some ⟨fr_u3 (fr_tr f1 f2) (by simp), ?_⟩
  rw [u3_r, r2, r1, nB_fr (f1 3 n3), vF_fr (f1 3 n3), nG_fr (f1 3 n3), f1 8 n8, f1 9 n9]
  funext i
  unfold upd1 hrC
  by_cases h : i = 0
  · rw [if_pos h, if_pos h, brsC_0]
    rfl
  · rw [if_neg h, if_neg h]
    unfold lets opn fnd
    rw [f1 4 n4]
    rfl
