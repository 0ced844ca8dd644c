/-! RIVERS: the class's CLAUSES, going on -/
theorem CB_G {B : Bd} {M : Mem} {a b : Nat} (h : CB B M) : CB (bG B a b) (am_u3 (am_u3 (am_u3 M 18 0 (B 0 1) (nI a)) 19 0 (B 0 1) (nI b)) 13 0 5 (nI (B 0 1 + 1))) := by
  obtain ⟨h0, h1, h2, h3, h4, h5, h6, h7, h8⟩ := h
  have e1 : bG B a b 0 1 = B 0 1 + 1 := ub_e _ _ _ _
  have eo : ∀ f j, f ≠ 5 → f ≠ 6 → ¬ (f = 0 ∧ j = 1) → bG B a b f j = B f j := by
    intro f j g1 g2 g0
    unfold bG
    rw [ub_n g0, ub_n (fun z => g2 z.1), ub_n (fun z => g1 z.1)]
  have o : ∀ c, c ≠ 13 → c ≠ 18 → c ≠ 19 → (am_u3 (am_u3 (am_u3 M 18 0 (B 0 1) (nI a)) 19 0 (B 0 1) (nI b)) 13 0 5 (nI (B 0 1 + 1))) c = M c := fun c g1 g2 g3 => by rw [u3_c g1, u3_c g3, u3_c g2]
  have o13 : ∀ j, j ≠ 5 → (am_u3 (am_u3 (am_u3 M 18 0 (B 0 1) (nI a)) 19 0 (B 0 1) (nI b)) 13 0 5 (nI (B 0 1 + 1))) 13 0 j = M 13 0 j := fun j hj => by rw [u3_j (by omega), u3_c (by decide), u3_c (by decide)]
  have o18 : ∀ j, (am_u3 (am_u3 (am_u3 M 18 0 (B 0 1) (nI a)) 19 0 (B 0 1) (nI b)) 13 0 5 (nI (B 0 1 + 1))) 18 0 j = if j = B 0 1 then nI a else M 18 0 j := fun j => by rw [u3_c (by decide), u3_c (by decide), u3_x]; simp
  have o19 : ∀ j, (am_u3 (am_u3 (am_u3 M 18 0 (B 0 1) (nI a)) 19 0 (B 0 1) (nI b)) 13 0 5 (nI (B 0 1 + 1))) 19 0 j = if j = B 0 1 then nI b else M 19 0 j := fun j => by rw [u3_c (by decide), u3_x]; simp [u3_c]
  have o5 : (am_u3 (am_u3 (am_u3 M 18 0 (B 0 1) (nI a)) 19 0 (B 0 1) (nI b)) 13 0 5 (nI (B 0 1 + 1))) 13 0 5 = nI (B 0 1 + 1) := u3_e _ _ _ _ _
  generalize (am_u3 (am_u3 (am_u3 M 18 0 (B 0 1) (nI a)) 19 0 (B 0 1) (nI b)) 13 0 5 (nI (B 0 1 + 1))) = M' at o o13 o18 o19 o5
  refine ⟨?_, ?_, ?_, ?_, ?_, ?_, ?_, fun j hj => ?_, ?_⟩
  · rw [eo 0 0 (by decide) (by decide) (by decide), o13 0 (by decide)]; exact h0
  · rw [e1]; exact o5
  · rw [eo 0 2 (by decide) (by decide) (by decide), o13 8 (by decide)]; exact h2
  · rw [eo 0 3 (by decide) (by decide) (by decide), o13 12 (by decide)]; exact h3
  · rw [eo 0 4 (by decide) (by decide) (by decide), o13 13 (by decide)]; exact h4
  · rw [eo 0 0 (by decide) (by decide) (by decide), o 14 (by decide) (by decide) (by decide), o 15 (by decide) (by decide) (by decide), o 16 (by decide) (by decide) (by decide), o 17 (by decide) (by decide) (by decide)]
    intro j hj
    rw [eo 1 j (by decide) (by decide) (by omega), eo 2 j (by decide) (by decide) (by omega), eo 3 j (by decide) (by decide) (by omega), eo 4 j (by decide) (by decide) (by omega)]
    exact h5 j hj
  · rw [eo 0 0 (by decide) (by decide) (by decide), o 17 (by decide) (by decide) (by decide)]; exact h6
  · rw [e1] at hj
    rw [o18, o19]
    unfold bG
    by_cases e : j = B 0 1
    · subst e
      rw [if_pos rfl, if_pos rfl, ub_n (by omega), ub_n (by omega), ub_e, ub_n (by omega), ub_e]; exact ⟨rfl, rfl⟩
    · rw [if_neg e, if_neg e, ub_n (by omega), ub_n (by omega), ub_n (by omega), ub_n (by omega), ub_n (by omega), ub_n (by omega)]
      exact h7 j (by omega)
  · rw [eo 0 2 (by decide) (by decide) (by decide), o 20 (by decide) (by decide) (by decide), o 21 (by decide) (by decide) (by decide), o 22 (by decide) (by decide) (by decide)]
    intro j hj
    rw [eo 7 j (by decide) (by decide) (by omega), eo 8 j (by decide) (by decide) (by omega), eo 9 j (by decide) (by decide) (by omega)]
    exact h8 j hj
theorem CB_T {B : Bd} {M : Mem} {a b d : Nat} (h : CB B M) : CB (bT B a b d) (am_u3 (am_u3 (am_u3 (am_u3 M 20 0 (B 0 2) (nI a)) 21 0 (B 0 2) (nI b)) 22 0 (B 0 2) (nI d)) 13 0 8 (nI (B 0 2 + 1))) := by
  obtain ⟨h0, h1, h2, h3, h4, h5, h6, h7, h8⟩ := h
  have e1 : bT B a b d 0 2 = B 0 2 + 1 := ub_e _ _ _ _
  have eo : ∀ f j, f ≠ 7 → f ≠ 8 → f ≠ 9 → ¬ (f = 0 ∧ j = 2) → bT B a b d f j = B f j := by
    intro f j g1 g2 g3 g0
    unfold bT
    rw [ub_n g0, ub_n (fun z => g3 z.1), ub_n (fun z => g2 z.1), ub_n (fun z => g1 z.1)]
  have o : ∀ c, c ≠ 13 → c ≠ 20 → c ≠ 21 → c ≠ 22 → (am_u3 (am_u3 (am_u3 (am_u3 M 20 0 (B 0 2) (nI a)) 21 0 (B 0 2) (nI b)) 22 0 (B 0 2) (nI d)) 13 0 8 (nI (B 0 2 + 1))) c = M c := fun c g1 g2 g3 g4 => by rw [u3_c g1, u3_c g4, u3_c g3, u3_c g2]
  have o13 : ∀ j, j ≠ 8 → (am_u3 (am_u3 (am_u3 (am_u3 M 20 0 (B 0 2) (nI a)) 21 0 (B 0 2) (nI b)) 22 0 (B 0 2) (nI d)) 13 0 8 (nI (B 0 2 + 1))) 13 0 j = M 13 0 j := fun j hj => by rw [u3_j (by omega), u3_c (by decide), u3_c (by decide), u3_c (by decide)]
  have o20 : ∀ j, (am_u3 (am_u3 (am_u3 (am_u3 M 20 0 (B 0 2) (nI a)) 21 0 (B 0 2) (nI b)) 22 0 (B 0 2) (nI d)) 13 0 8 (nI (B 0 2 + 1))) 20 0 j = if j = B 0 2 then nI a else M 20 0 j := fun j => by rw [u3_c (by decide), u3_c (by decide), u3_c (by decide), u3_x]; simp
  have o21 : ∀ j, (am_u3 (am_u3 (am_u3 (am_u3 M 20 0 (B 0 2) (nI a)) 21 0 (B 0 2) (nI b)) 22 0 (B 0 2) (nI d)) 13 0 8 (nI (B 0 2 + 1))) 21 0 j = if j = B 0 2 then nI b else M 21 0 j := fun j => by rw [u3_c (by decide), u3_c (by decide), u3_x]; simp [u3_c]
  have o22 : ∀ j, (am_u3 (am_u3 (am_u3 (am_u3 M 20 0 (B 0 2) (nI a)) 21 0 (B 0 2) (nI b)) 22 0 (B 0 2) (nI d)) 13 0 8 (nI (B 0 2 + 1))) 22 0 j = if j = B 0 2 then nI d else M 22 0 j := fun j => by rw [u3_c (by decide), u3_x]; simp [u3_c]
  have o8 : (am_u3 (am_u3 (am_u3 (am_u3 M 20 0 (B 0 2) (nI a)) 21 0 (B 0 2) (nI b)) 22 0 (B 0 2) (nI d)) 13 0 8 (nI (B 0 2 + 1))) 13 0 8 = nI (B 0 2 + 1) := u3_e _ _ _ _ _
  generalize (am_u3 (am_u3 (am_u3 (am_u3 M 20 0 (B 0 2) (nI a)) 21 0 (B 0 2) (nI b)) 22 0 (B 0 2) (nI d)) 13 0 8 (nI (B 0 2 + 1))) = M' at o o13 o20 o21 o22 o8
  refine ⟨?_, ?_, ?_, ?_, ?_, ?_, ?_, ?_, fun j hj => ?_⟩
  · rw [eo 0 0 (by decide) (by decide) (by decide) (by decide), o13 0 (by decide)]; exact h0
  · rw [eo 0 1 (by decide) (by decide) (by decide) (by decide), o13 5 (by decide)]; exact h1
  · rw [e1]; exact o8
  · rw [eo 0 3 (by decide) (by decide) (by decide) (by decide), o13 12 (by decide)]; exact h3
  · rw [eo 0 4 (by decide) (by decide) (by decide) (by decide), o13 13 (by decide)]; exact h4
  · rw [eo 0 0 (by decide) (by decide) (by decide) (by decide), o 14 (by decide) (by decide) (by decide) (by decide), o 15 (by decide) (by decide) (by decide) (by decide), o 16 (by decide) (by decide) (by decide) (by decide), o 17 (by decide) (by decide) (by decide) (by decide)]
    intro j hj
    rw [eo 1 j (by decide) (by decide) (by decide) (by omega), eo 2 j (by decide) (by decide) (by decide) (by omega), eo 3 j (by decide) (by decide) (by decide) (by omega), eo 4 j (by decide) (by decide) (by decide) (by omega)]
    exact h5 j hj
  · rw [eo 0 0 (by decide) (by decide) (by decide) (by decide), o 17 (by decide) (by decide) (by decide) (by decide)]; exact h6
  · rw [eo 0 1 (by decide) (by decide) (by decide) (by decide), o 18 (by decide) (by decide) (by decide) (by decide), o 19 (by decide) (by decide) (by decide) (by decide)]
    intro j hj
    rw [eo 5 j (by decide) (by decide) (by decide) (by omega), eo 6 j (by decide) (by decide) (by decide) (by omega)]
    exact h7 j hj
  · rw [e1] at hj
    rw [o20, o21, o22]
    unfold bT
    by_cases e : j = B 0 2
    · subst e
      rw [if_pos rfl, if_pos rfl, if_pos rfl, ub_n (by omega), ub_n (by omega), ub_n (by omega), ub_e, ub_n (by omega), ub_n (by omega), ub_e, ub_n (by omega), ub_e]; exact ⟨rfl, rfl, rfl⟩
    · rw [if_neg e, if_neg e, if_neg e, ub_n (by omega), ub_n (by omega), ub_n (by omega), ub_n (by omega), ub_n (by omega), ub_n (by omega), ub_n (by omega), ub_n (by omega), ub_n (by omega), ub_n (by omega), ub_n (by omega), ub_n (by omega)]
      exact h8 j (by omega)
theorem CB_u {B : Bd} {M M' : Mem} {f j v : Nat} (h : CB B M) (o : ∀ c, c ≠ 13 → c ≠ 17 → M' c = M c) (hc : (f = 0 ∧ j = 3 ∧ M' = am_u3 M 13 0 12 (nI v)) ∨ (f = 0 ∧ j = 4 ∧ M' = am_u3 M 13 0 13 (nI v)) ∨ (f = 4 ∧ j < B 0 0 ∧ M' = am_u3 M 17 0 j (nI v))) : CB (ub B f j v) M' := by
  obtain ⟨h0, h1, h2, h3, h4, h5, h6, h7, h8⟩ := h
  have c0 : ∀ k, k < 3 → ub B f j v 0 k = B 0 k := fun k hk => ub_n (by omega)
  have co : ∀ f' k, f' ≠ 0 → f' ≠ 4 → ub B f j v f' k = B f' k := fun f' k g1 g2 => ub_n (by omega)
  refine ⟨?_, ?_, ?_, ?_, ?_, ?_, ?_, ?_, ?_⟩
  · rw [c0 0 (by decide), ← h0]
    rcases hc with ⟨-, -, rfl⟩ | ⟨-, -, rfl⟩ | ⟨-, -, rfl⟩
    · exact u3_j (by omega)
    · exact u3_j (by omega)
    · rw [u3_c (by decide)]
  · rw [c0 1 (by decide), ← h1]
    rcases hc with ⟨-, -, rfl⟩ | ⟨-, -, rfl⟩ | ⟨-, -, rfl⟩
    · exact u3_j (by omega)
    · exact u3_j (by omega)
    · rw [u3_c (by decide)]
  · rw [c0 2 (by decide), ← h2]
    rcases hc with ⟨-, -, rfl⟩ | ⟨-, -, rfl⟩ | ⟨-, -, rfl⟩
    · exact u3_j (by omega)
    · exact u3_j (by omega)
    · rw [u3_c (by decide)]
  · rcases hc with ⟨rfl, rfl, rfl⟩ | ⟨rfl, rfl, rfl⟩ | ⟨rfl, -, rfl⟩
    · rw [u3_e, ub_e]
    · rw [u3_j (by omega), ub_n (by omega)]; exact h3
    · rw [u3_c (by decide), ub_n (by omega)]; exact h3
  · rcases hc with ⟨rfl, rfl, rfl⟩ | ⟨rfl, rfl, rfl⟩ | ⟨rfl, -, rfl⟩
    · rw [u3_j (by omega), ub_n (by omega)]; exact h4
    · rw [u3_e, ub_e]
    · rw [u3_c (by decide), ub_n (by omega)]; exact h4
  · rw [c0 0 (by decide), o 14 (by decide) (by decide), o 15 (by decide) (by decide), o 16 (by decide) (by decide)]
    intro k hk
    rw [co 1 k (by decide) (by decide), co 2 k (by decide) (by decide), co 3 k (by decide) (by decide)]
    refine ⟨(h5 k hk).1, (h5 k hk).2.1, (h5 k hk).2.2.1, ?_⟩
    rcases hc with ⟨rfl, rfl, rfl⟩ | ⟨rfl, rfl, rfl⟩ | ⟨rfl, -, rfl⟩
    · rw [u3_c (by decide), ub_n (by omega)]; exact (h5 k hk).2.2.2
    · rw [u3_c (by decide), ub_n (by omega)]; exact (h5 k hk).2.2.2
    · by_cases e : k = j
      · rw [e, u3_e, ub_e]
      · rw [u3_j (by omega), ub_n (by omega)]; exact (h5 k hk).2.2.2
  · rw [c0 0 (by decide)]
    intro k hk hk2
    rw [← h6 k hk hk2]
    rcases hc with ⟨rfl, rfl, rfl⟩ | ⟨rfl, rfl, rfl⟩ | ⟨rfl, hj, rfl⟩
    · rw [u3_c (by decide)]
    · rw [u3_c (by decide)]
    · rw [u3_j (by omega)]
  · rw [c0 1 (by decide), o 18 (by decide) (by decide), o 19 (by decide) (by decide)]
    intro k hk
    rw [co 5 k (by decide) (by decide), co 6 k (by decide) (by decide)]
    exact h7 k hk
  · rw [c0 2 (by decide), o 20 (by decide) (by decide), o 21 (by decide) (by decide), o 22 (by decide) (by decide)]
    intro k hk
    rw [co 7 k (by decide) (by decide), co 8 k (by decide) (by decide), co 9 k (by decide) (by decide)]
    exact h8 k hk
theorem c_rdBoard {T : Nat → Nat} {n e q : Nat} {B : Bd} {M : Mem} (h : CS T n e M) (hB : CB B M) (hW : WB B) (tk : M 1 0 4 = nI q) : ok (f_X1_readBoard M) (fun M' => rmv M M' ∧ QC T n (bdy T n B 0 e q) M') := by
  have h16 := hW.1
  unfold f_X1_readBoard
  rw [hB.1, tk]
  by_cases hf : B 0 0 = 16
  · rw [bdy_00 hf]
    refine ok_ifp (by rw [hf]; rfl) ?_
    obtain ⟨b1, b2, -⟩ := CS_b (k := 3) (q := q) h (by decide)
    exact c_n3F (lo := fun _ => 0) (hi := fun _ => 20) (W := fun x y z => if inb (z.2 13 0 0) 16 = true then some (am_u3 (am_u3 (am_u3 (am_u3 z.2 14 0 ((z.2 13 0 0).toNatClampNeg) x.1) 15 0 ((z.2 13 0 0).toNatClampNeg) y.1) 16 0 ((z.2 13 0 0).toNatClampNeg) z.1) 13 0 0 ((z.2 13 0 0) + (1 : Int32))) else none) b1 (fun M' s m => ⟨rmv_c (cmv_tr b2 m), s⟩)
  · rw [bdy_0 hf]
    refine ok_ifn (show ¬ nI (B 0 0) = 16 from fun z => hf ((nI_eq (b := 16) (by omega) (by decide)).mp z)) ?_
    refine c_n3 (a1 := 0) (b1 := 10) (b2 := 21) (a3 := 0) (b3 := 10) (A2 := fun _ => 0) (lo := fun _ => 0) (hi := fun _ => 20) (W := fun x y z => if inb (z.2 13 0 0) 16 = true then some (am_u3 (am_u3 (am_u3 (am_u3 z.2 14 0 ((z.2 13 0 0).toNatClampNeg) x.1) 15 0 ((z.2 13 0 0).toNatClampNeg) y.1) 16 0 ((z.2 13 0 0).toNatClampNeg) z.1) 13 0 0 ((z.2 13 0 0) + (1 : Int32))) else none) h (by decide) (fun e1 v M' _ _ => ⟨rfl, rfl, by omega⟩) (fun f M' er s m => ⟨rmv_c m, by rw [bd_r er]; exact s⟩) ?_
    intro p v1 v2 v3 M1 M2 M3 er g1 g2 g3 s m
    have e13 : M3 13 0 0 = nI (B 0 0) := by rw [m.1 13 (by decide)]; exact hB.1
    simp only []
    rw [e13, nI_clamp (show B 0 0 < 2 ^ 31 by omega), nI_1]
    refine ok_ifp (inb_n (by omega) (by decide)) (ok_some ⟨rmv_u (rmv_u (rmv_u (rmv_u (rmv_c m) (by decide) (by decide)) (by decide) (by decide)) (by decide) (by decide)) (by decide) (by decide), ?_⟩)
    rw [bd_l er]
    exact ⟨CS_o s (by rw [u3_c (by decide), u3_c (by decide), u3_c (by decide), u3_c (by decide)]) (by rw [u3_c (by decide), u3_c (by decide), u3_c (by decide), u3_c (by decide)]), CB_B (CB_m hB m) (by omega), WB_B hW hf g1.2 g2.2 g3.2⟩
theorem c_rdBarge {T : Nat → Nat} {n e q : Nat} {B : Bd} {M : Mem} (h : CS T n e M) (hB : CB B M) (hW : WB B) (tk : M 1 0 4 = nI q) : ok (f_X1_readBarge M) (fun M' => rmv M M' ∧ QC T n (bdy T n B 1 e q) M') := by
  have h4 := hW.2.1
  unfold f_X1_readBarge
  rw [hB.2.1, tk]
  by_cases hf : B 0 1 = 4
  · rw [bdy_10 hf]
    refine ok_ifp (by rw [hf]; rfl) ?_
    obtain ⟨b1, b2, -⟩ := CS_b (k := 3) (q := q) h (by decide)
    exact c_n2F (W := fun x z => if inb (z.2 13 0 5) 4 = true then some (am_u3 (am_u3 (am_u3 z.2 18 0 ((z.2 13 0 5).toNatClampNeg) x.1) 19 0 ((z.2 13 0 5).toNatClampNeg) z.1) 13 0 5 ((z.2 13 0 5) + (1 : Int32))) else none) b1 (fun M' s m => ⟨rmv_c (cmv_tr b2 m), s⟩)
  · rw [bdy_1 hf]
    refine ok_ifn (show ¬ nI (B 0 1) = 4 from fun z => hf ((nI_eq (b := 4) (by omega) (by decide)).mp z)) ?_
    refine c_n2 (a1 := 0) (b1 := 10) (a2 := 0) (b2 := 96) (W := fun x z => if inb (z.2 13 0 5) 4 = true then some (am_u3 (am_u3 (am_u3 z.2 18 0 ((z.2 13 0 5).toNatClampNeg) x.1) 19 0 ((z.2 13 0 5).toNatClampNeg) z.1) 13 0 5 ((z.2 13 0 5) + (1 : Int32))) else none) h (by decide) (fun f M' er s m => ⟨rmv_c m, by rw [bd_r er]; exact s⟩) ?_
    intro p v1 v2 M1 M2 er g1 g2 s m
    have e13 : M2 13 0 5 = nI (B 0 1) := by rw [m.1 13 (by decide)]; exact hB.2.1
    simp only []
    rw [e13, nI_clamp (show B 0 1 < 2 ^ 31 by omega), nI_1]
    refine ok_ifp (inb_n (by omega) (by decide)) (ok_some ⟨rmv_u (rmv_u (rmv_u (rmv_c m) (by decide) (by decide)) (by decide) (by decide)) (by decide) (by decide), ?_⟩)
    rw [bd_l er]
    exact ⟨CS_o s (by rw [u3_c (by decide), u3_c (by decide), u3_c (by decide)]) (by rw [u3_c (by decide), u3_c (by decide), u3_c (by decide)]), CB_G (CB_m hB m), WB_G hW hf g1.2 g2.2⟩
theorem c_rdStreet {T : Nat → Nat} {n e q : Nat} {B : Bd} {M : Mem} (h : CS T n e M) (hB : CB B M) (hW : WB B) (tk : M 1 0 4 = nI q) : ok (f_X1_readStreet M) (fun M' => rmv M M' ∧ QC T n (bdy T n B 3 e q) M') := by
  have h8 := hW.2.2.1
  have h16 := hW.1
  unfold f_X1_readStreet
  rw [hB.2.2.1, tk]
  by_cases hf : B 0 2 = 8
  · rw [bdy_30 hf]
    refine ok_ifp (by rw [hf]; rfl) ?_
    obtain ⟨b1, b2, -⟩ := CS_b (k := 3) (q := q) h (by decide)
    exact c_n3F (lo := fun x => x.1) (hi := fun x => x.2 13 0 0 - 1) (W := fun x y z => if inb (z.2 13 0 8) 8 = true then some (am_u3 (am_u3 (am_u3 (am_u3 z.2 20 0 ((z.2 13 0 8).toNatClampNeg) x.1) 21 0 ((z.2 13 0 8).toNatClampNeg) y.1) 22 0 ((z.2 13 0 8).toNatClampNeg) z.1) 13 0 8 ((z.2 13 0 8) + (1 : Int32))) else none) b1 (fun M' s m => ⟨rmv_c (cmv_tr b2 m), s⟩)
  · rw [bdy_3 hf, hB.1]
    refine ok_ifn (show ¬ nI (B 0 2) = 8 from fun z => hf ((nI_eq (b := 8) (by omega) (by decide)).mp z)) ?_
    refine c_n3 (a1 := 0) (b1 := B 0 0) (b2 := B 0 0) (a3 := 1) (b3 := 41) (A2 := fun v => v) (lo := fun x => x.1) (hi := fun x => x.2 13 0 0 - 1) (W := fun x y z => if inb (z.2 13 0 8) 8 = true then some (am_u3 (am_u3 (am_u3 (am_u3 z.2 20 0 ((z.2 13 0 8).toNatClampNeg) x.1) 21 0 ((z.2 13 0 8).toNatClampNeg) y.1) 22 0 ((z.2 13 0 8).toNatClampNeg) z.1) 13 0 8 ((z.2 13 0 8) + (1 : Int32))) else none) h (by omega) (fun e1 v M' hn m => ⟨rfl, by show M' 13 0 0 - 1 = _; rw [m.1 13 (by decide), hB.1], by have := num_f h.2.1 hn; omega⟩) (fun f M' er s m => ⟨rmv_c m, by rw [bd_r er]; exact s⟩) ?_
    intro p v1 v2 v3 M1 M2 M3 er g1 g2 g3 s m
    have e13 : M3 13 0 8 = nI (B 0 2) := by rw [m.1 13 (by decide)]; exact hB.2.2.1
    simp only []
    rw [e13, nI_clamp (show B 0 2 < 2 ^ 31 by omega), nI_1]
    refine ok_ifp (inb_n (by omega) (by decide)) (ok_some ⟨rmv_u (rmv_u (rmv_u (rmv_u (rmv_c m) (by decide) (by decide)) (by decide) (by decide)) (by decide) (by decide)) (by decide) (by decide), ?_⟩)
    rw [bd_l er]
    exact ⟨CS_o s (by rw [u3_c (by decide), u3_c (by decide), u3_c (by decide), u3_c (by decide)]) (by rw [u3_c (by decide), u3_c (by decide), u3_c (by decide), u3_c (by decide)]), CB_T (CB_m hB m), WB_T hW hf g2.1 g2.2 g3.1 g3.2⟩
theorem c_rdFish {T : Nat → Nat} {n e q : Nat} {B : Bd} {M : Mem} (h : CS T n e M) (hB : CB B M) (hW : WB B) : ok (f_X1_readFish M) (fun M' => rmv M M' ∧ QC T n (bdy T n B 4 e q) M') := by
  have h16 := hW.1
  unfold f_X1_readFish
  rw [bdy_4, hB.1]
  refine c_n2 (a1 := 0) (b1 := B 0 0) (a2 := 0) (b2 := 41) (W := fun x z => if inb x.1 16 = true then some (am_u3 z.2 17 0 x.1.toNatClampNeg z.1) else none) h (by omega) (fun f M' er s m => ⟨rmv_c m, by rw [bd_r er]; exact s⟩) ?_
  intro p v1 v2 M1 M2 er g1 g2 s m
  simp only []
  rw [nI_clamp (show v1 < 2 ^ 31 by omega)]
  refine ok_ifp (inb_n (by omega) (by decide)) (ok_some ⟨rmv_u (rmv_c m) (by decide) (by decide), ?_⟩)
  rw [bd_l er]
  exact ⟨CS_o s (by rw [u3_c (by decide)]) (by rw [u3_c (by decide)]), CB_u (CB_m hB m) (fun c c1 c2 => u3_c c2) (Or.inr (Or.inr ⟨rfl, g1.2, rfl⟩)), WB_u hW (Or.inr (Or.inr ⟨rfl, g2.2⟩))⟩
