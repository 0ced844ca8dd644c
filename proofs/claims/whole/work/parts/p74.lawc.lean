/-! LAWS: the class reads -/
def ixJ (x : Int32) : List Nat → Nat → Option Nat
  | [], _ => none
  | c :: cs, j => if nI c = x then some j else ixJ x cs (j + 1)
theorem ixJ_n {t : Nat} (ht : t < 256) : ∀ {cs : List Nat} {j : Nat}, (∀ c, c ∈ cs → c < 256) → ixJ (nI t) cs j = ixO t cs j
  | [], _, _ => rfl
  | c :: cs, j, h => by
    unfold ixJ ixO
    have hc := h c (List.mem_cons_self ..)
    by_cases e : t = c
    · rw [if_pos e, if_pos (by rw [e])]
    · rw [if_neg e, if_neg (fun z => e ((nI_eq (by omega) (by omega)).mp z).symm), ixJ_n ht (fun c hc => h c (List.mem_cons_of_mem _ hc))]
theorem ixJ_m : ∀ {cs : List Nat} {j : Nat}, (∀ c, c ∈ cs → c < 256) → ixJ (-1) cs j = none
  | [], _, _ => rfl
  | c :: cs, j, h => by
    unfold ixJ
    have hc := h c (List.mem_cons_self ..)
    rw [if_neg (nI_m1 (by omega)), ixJ_m (fun c hc => h c (List.mem_cons_of_mem _ hc))]
def laySB (k1 : Nat) (cs : List Nat) : Bool := decide (cs.length = am_Slen.getD k1 0) && decide (∀ i, i < cs.length → sch k1 (nI i) = nI (cs.getD i 0) ∧ cs.getD i 0 < 256)
theorem layS1 : laySB 1 sg1 = true := by decide +kernel
theorem layS2 : laySB 2 sg2 = true := by decide +kernel
theorem layS3 : laySB 3 [40] = true := by decide +kernel
theorem c_ofL {k1 : Nat} {x : Int32} (hk : am_Slen.getD k1 0 ≤ 100) : ∀ (cs : List Nat) (j m : Nat), (∀ i, i < cs.length → sch k1 (nI (j + i)) = nI (cs.getD i 0)) → j + cs.length = am_Slen.getD k1 0 → wh (L_X10_takeOneOf_7 k1 x) (m + (cs.length + 1)) (nI j) = some (match ixJ x cs j with | some i => Sum.inl (nI i) | none => Sum.inr ())
  | [], j, m, _, hj => by
    refine wh_out ?_
    unfold L_X10_takeOneOf_7
    rw [if_pos (show sln k1 ≤ nI j by unfold sln; rw [List.length_nil, Nat.add_zero] at hj; rw [hj]; exact nI_le (Nat.le_refl _) (by omega))]
    rfl
  | c :: cs, j, m, h, hj => by
    rw [List.length_cons] at hj
    have h0 := h 0 (by simp)
    rw [Nat.add_zero, show (c :: cs).getD 0 0 = c from rfl] at h0
    have st : L_X10_takeOneOf_7 k1 x (nI j) = some (if nI c = x then Sum.inr (Sum.inl (nI j)) else Sum.inl (nI (j + 1))) := by
      unfold L_X10_takeOneOf_7
      rw [if_neg (show ¬ sln k1 ≤ nI j by unfold sln; exact nI_ge (by omega) (by omega)), if_pos (inb_n (by omega) (by omega)), h0, nI_1]
      by_cases e : nI c = x
      · rw [if_pos e, if_pos e]
      · rw [if_neg e, if_neg e]
    unfold ixJ
    by_cases e : nI c = x
    · rw [if_pos e] at st ⊢
      rw [show m + ((c :: cs).length + 1) = (m + (cs.length + 1)) + 1 by simp; omega]
      exact wh_out st
    · rw [if_neg e] at st ⊢
      have go := wh_steps (B := L_X10_takeOneOf_7 k1 x) 1 (m + (cs.length + 1)) (fun i => nI (j + i)) (fun i hi => by rw [show i = 0 by omega, Nat.add_zero]; exact st)
      rw [show m + ((c :: cs).length + 1) = m + (cs.length + 1) + 1 by simp; omega]
      refine go.trans ?_
      exact c_ofL hk cs (j + 1) m (fun i hi => by have := h (i + 1) (by simp; omega); rw [show j + (i + 1) = j + 1 + i by omega] at this; exact this) (by omega)
theorem c_ofW {k1 : Nat} {x : Int32} {cs : List Nat} (hk : am_Slen.getD k1 0 ≤ 100) (hB : laySB k1 cs = true) : wh (L_X10_takeOneOf_7 k1 x) FU (0 : Int32) = some (match ixJ x cs 0 with | some i => Sum.inl (nI i) | none => Sum.inr ()) := by
  unfold laySB at hB
  rw [Bool.and_eq_true, decide_eq_true_eq, decide_eq_true_eq] at hB
  have := c_ofL (x := x) hk cs 0 (100000 - (cs.length + 1)) (fun i hi => by rw [Nat.zero_add]; exact (hB.2 i hi).1) (by omega)
  rw [show 100000 - (cs.length + 1) + (cs.length + 1) = FU by rw [FU_eq]; omega] at this
  exact this
def OfP (T : Nat → Nat) (n : Nat) (cs : List Nat) (p : Nat) (v : Int32) (M : Mem) : Prop := match sgI T n cs p with
  | some i => v = nI i ∧ CS T n (sk T n p + 1) M ∧ M 1 0 4 = nI (sk T n p)
  | none => v = -1 ∧ CS T n (sk T n p) M
theorem c_of {T : Nat → Nat} {n p k1 : Nat} {cs : List Nat} {M : Mem} (h : CS T n p M) (hk : am_Slen.getD k1 0 ≤ 100) (hB : laySB k1 cs = true) (hc : ∀ c, c ∈ cs → c < 256) : ok (f_X10_takeOneOf k1 M) (fun r => OfP T n cs p r.1 r.2 ∧ cmv M r.2) := by
  obtain ⟨e1, s1, mv⟩ := CS_n h
  unfold f_X10_takeOneOf
  refine ok_bindE e1 ?_
  show ok (Option.bind (wh (L_X10_takeOneOf_7 k1 (nb T n p)) FU (0 : Int32)) _) _
  rw [c_ofW hk hB]
  have ei : ixJ (nb T n p) cs 0 = sgI T n cs p := by
    unfold nb sgI
    by_cases hl : sk T n p < n
    · rw [if_pos hl, if_pos hl, ixJ_n (h.1.2.2.2 _ hl).2 hc]
    · rw [if_neg hl, if_neg hl, ixJ_m hc]
  rw [ei]
  unfold OfP
  cases hsg : sgI T n cs p with
  | none => exact ok_some ⟨⟨rfl, s1⟩, mv⟩
  | some i =>
    have hlt : sk T n p < n := by
      unfold sgI at hsg
      by_cases z : sk T n p < n
      · exact z
      · rw [if_neg z] at hsg; cases hsg
    refine ok_some ?_
    have mv2 : cmv M (am_u3 (am_u3 (am_u3 M 1 0 3 (nI (sk T n p))) 1 0 4 (nI (sk T n p))) 1 0 3 (nI (sk T n p + 1))) := cmv_u (cmv_u mv (by decide)) (by decide)
    show (nI i = nI i ∧ CS T n (sk T n p + 1) (am_u3 (am_u3 (am_u3 M 1 0 3 (nI (sk T n p))) 1 0 4 ((am_u3 M 1 0 3 (nI (sk T n p))) 1 0 3)) 1 0 3 ((am_u3 M 1 0 3 (nI (sk T n p))) 1 0 3 + 1)) ∧ _) ∧ _
    rw [u3_e, nI_1]
    refine ⟨⟨rfl, ⟨CT_m h.1 mv2, by omega, u3_e _ _ _ _ _, ?_, ?_⟩, ?_⟩, mv2⟩
    · rw [u3_j (by omega), u3_j (by omega)]; exact s1.2.2.2.1
    · rw [u3_j (by omega), u3_j (by omega)]; exact s1.2.2.2.2
    · show (am_u3 (am_u3 (am_u3 M 1 0 3 (nI (sk T n p))) 1 0 4 (nI (sk T n p))) 1 0 3 (nI (sk T n p + 1))) 1 0 4 = _
      rw [u3_j (by omega), u3_e]
theorem c_ofF {T : Nat → Nat} {n k q k1 : Nat} {cs : List Nat} {M : Mem} (h : CF T n k q M) (hk : am_Slen.getD k1 0 ≤ 100) (hB : laySB k1 cs = true) (hc : ∀ c, c ∈ cs → c < 256) : ok (f_X10_takeOneOf k1 M) (fun r => CF T n k q r.2 ∧ cmv M r.2) := by
  unfold f_X10_takeOneOf
  refine ok_bind (CF_n h) ?_
  rintro ⟨v, M1⟩ ⟨h1, m1, p, hp, ep, ev⟩
  simp only at h1 m1 ep ev
  show ok (Option.bind (wh (L_X10_takeOneOf_7 k1 v) FU (0 : Int32)) _) _
  rw [c_ofW hk hB]
  cases hi : ixJ v cs 0 with
  | none => exact ok_some ⟨h1, m1⟩
  | some i =>
    have hpn : p < n := by
      by_cases hl : p < n
      · exact hl
      · rw [ev, if_neg hl, ixJ_m hc] at hi; cases hi
    refine ok_some ⟨⟨CT_m h1.1 (cmv_u (cmv_u cmv_rfl (by decide)) (by decide)), ⟨p + 1, by omega, ?_⟩, ?_, h1.2.2.2.1, ?_⟩, cmv_u (cmv_u m1 (by decide)) (by decide)⟩
    · show am_u3 (am_u3 M1 1 0 4 (M1 1 0 3)) 1 0 3 (M1 1 0 3 + 1) 1 0 3 = _
      rw [u3_e, ep, nI_1]
    · show am_u3 (am_u3 M1 1 0 4 (M1 1 0 3)) 1 0 3 (M1 1 0 3 + 1) 1 0 5 = _
      rw [u3_j (by omega), u3_j (by omega)]; exact h1.2.2.1
    · show am_u3 (am_u3 M1 1 0 4 (M1 1 0 3)) 1 0 3 (M1 1 0 3 + 1) 1 0 6 = _
      rw [u3_j (by omega), u3_j (by omega)]; exact h1.2.2.2.2
theorem c_dig {T : Nat → Nat} {n p : Nat} {M : Mem} (h : CS T n p M) : f_X10_isAtDigit M = some (if cD T n (sk T n p) = true then 1 else 0, am_u3 M 1 0 3 (nI (sk T n p))) := by
  obtain ⟨e1, s1, mv⟩ := CS_n h
  unfold f_X10_isAtDigit
  rw [e1]
  show (if nb T n p < 48 then _ else (if (57 : Int32) < nb T n p then _ else _)) = _
  unfold nb cD
  by_cases hl : sk T n p < n
  · have ht := (h.1.2.2.2 _ hl).2
    rw [if_pos hl, decide_eq_true hl, Bool.true_and]
    by_cases c1 : T (sk T n p) < 48
    · rw [if_pos (show nI (T (sk T n p)) < 48 from nI_lt (b := 48) c1 (by decide)), decide_eq_false (show ¬ 48 ≤ T (sk T n p) by omega)]; rfl
    · rw [if_neg (show ¬ nI (T (sk T n p)) < 48 from nI_nlt (b := 48) (by omega) (by omega)), decide_eq_true (show 48 ≤ T (sk T n p) by omega), Bool.true_and]
      by_cases c2 : 57 < T (sk T n p)
      · rw [if_pos (show (57 : Int32) < nI (T (sk T n p)) from nI_lt (a := 57) c2 (by omega)), decide_eq_false (show ¬ T (sk T n p) ≤ 57 by omega)]; rfl
      · rw [if_neg (show ¬ (57 : Int32) < nI (T (sk T n p)) from nI_nlt (a := 57) (by omega) (by decide)), decide_eq_true (show T (sk T n p) ≤ 57 by omega)]; rfl
  · rw [if_neg hl, decide_eq_false hl, if_pos (by decide)]; rfl
theorem c_digF {T : Nat → Nat} {n k q : Nat} {M : Mem} (h : CF T n k q M) : ok (f_X10_isAtDigit M) (fun r => CF T n k q r.2 ∧ cmv M r.2) := by
  unfold f_X10_isAtDigit
  refine ok_bind (CF_n h) ?_
  rintro ⟨v, M1⟩ ⟨h1, m1, -⟩
  exact ok_if (fun _ => ok_some ⟨h1, m1⟩) (fun _ => ok_if (fun _ => ok_some ⟨h1, m1⟩) (fun _ => ok_some ⟨h1, m1⟩))
/-- codes drafted -/
def DRc (qd : Nat) (L : List Nat) (M : Mem) : Prop := M 23 0 3 = nI L.length ∧ ∀ i, i < L.length → M qd 0 i = nI (L.getD i 0)
def lmv (qd : Nat) (M M' : Mem) : Prop := fr [1, 23, qd] M M' ∧ M' 1 0 1 = M 1 0 1 ∧ ∀ j, j ≠ 3 → M' 23 0 j = M 23 0 j
theorem lmv_rfl {qd : Nat} {M : Mem} : lmv qd M M := ⟨fr_rfl, rfl, fun _ _ => rfl⟩
theorem lmv_tr {qd : Nat} {M M1 M2 : Mem} (a : lmv qd M M1) (b : lmv qd M1 M2) : lmv qd M M2 := ⟨fr_tr a.1 b.1, b.2.1.trans a.2.1, fun j hj => (b.2.2 j hj).trans (a.2.2 j hj)⟩
theorem lmv_c {qd : Nat} {M M' : Mem} (a : cmv M M') : lmv qd M M' := ⟨fr_mono a.1 (fun c hc => by rw [List.mem_singleton.mp hc]; exact List.mem_cons_self ..), a.2.1, fun j _ => by rw [a.1 23 (by decide)]⟩
theorem DRc_m {qd : Nat} {L : List Nat} {M M' : Mem} (hq : qd = 24 ∨ qd = 25) (h : DRc qd L M) (a : cmv M M') : DRc qd L M' := by
  have e : M' qd = M qd := a.1 qd (by rcases hq with rfl | rfl <;> decide)
  unfold DRc at *
  rw [a.1 23 (by decide), e]; exact h
def cnt1 (M : Mem) : Prop := ∃ c, c ≤ 150 ∧ M 23 0 3 = nI c
theorem cnt1_m {M M' : Mem} (h : cnt1 M) (a : cmv M M') : cnt1 M' := by
  unfold cnt1 at *
  rw [a.1 23 (by decide)]; exact h
theorem c_addF {T : Nat → Nat} {n k q qc qd : Nat} {x : Int32} {M : Mem} (hq : qd = 24 ∨ qd = 25) (h : CF T n k q M) (hc : cnt1 M) : ok (f_X3_add qc qd x M) (fun M' => lmv qd M M' ∧ CF T n k q M' ∧ cnt1 M') := by
  obtain ⟨c, c1, c2⟩ := hc
  have q1 : 1 ≠ qd := by rcases hq with rfl | rfl <;> decide
  have q2 : 2 ≠ qd := by rcases hq with rfl | rfl <;> decide
  have q23 : 23 ≠ qd := by rcases hq with rfl | rfl <;> decide
  by_cases h150 : c = 150
  · unfold f_X3_add
    refine ok_ifp (by rw [c2, h150]; decide) (ok_some ⟨lmv_rfl, h, c, c1, c2⟩)
  · refine ok_of (c_add c2 (by omega)) ⟨⟨fr_u3 (fr_u3 fr_rfl (List.mem_cons_of_mem _ (List.mem_cons_of_mem _ (List.mem_cons_self ..)))) (List.mem_cons_of_mem _ (List.mem_cons_self ..)), ?_, fun j hj => ?_⟩, CF_o h ?_ ?_, c + 1, by omega, u3_e _ _ _ _ _⟩
    · rw [u3_c (by decide), u3_c q1]
    · rw [u3_j (by omega), u3_c q23]
    · rw [u3_c (by decide), u3_c q1]
    · rw [u3_c (by decide), u3_c q2]
theorem c_addS {T : Nat → Nat} {n p qc qd c : Nat} {L : List Nat} {M : Mem} (hq : qd = 24 ∨ qd = 25) (h : CS T n p M) (hD : DRc qd L M) (hl : L.length < 150) : ok (f_X3_add qc qd (nI c) M) (fun M' => lmv qd M M' ∧ CS T n p M' ∧ DRc qd (L ++ [c]) M') := by
  have q1 : 1 ≠ qd := by rcases hq with rfl | rfl <;> decide
  have q2 : 2 ≠ qd := by rcases hq with rfl | rfl <;> decide
  have q23 : 23 ≠ qd := by rcases hq with rfl | rfl <;> decide
  refine ok_of (c_add hD.1 hl) ⟨⟨fr_u3 (fr_u3 fr_rfl (List.mem_cons_of_mem _ (List.mem_cons_of_mem _ (List.mem_cons_self ..)))) (List.mem_cons_of_mem _ (List.mem_cons_self ..)), ?_, fun j hj => ?_⟩, CS_o h ?_ ?_, ?_, fun i hi => ?_⟩
  · rw [u3_c (by decide), u3_c q1]
  · rw [u3_j (by omega), u3_c q23]
  · rw [u3_c (by decide), u3_c q1]
  · rw [u3_c (by decide), u3_c q2]
  · rw [u3_e]; simp
  · simp at hi
    rw [u3_c (Ne.symm q23)]
    by_cases e : i = L.length
    · rw [e, u3_e]; simp
    · rw [u3_j (by omega), hD.2 i (by omega), getD_l (by omega)]
def LPc (T : Nat → Nat) (n qd : Nat) (L0 : List Nat) (x : RLq) (M : Mem) : Prop := match x with
  | Sum.inl y => CS T n y.1 M ∧ DRc qd (L0 ++ y.2) M
  | Sum.inr f => CF T n f.1 f.2 M ∧ cnt1 M
def cSp (T : Nat → Nat) (n qd : Nat) (F : Int32 → Mem → Option Mem) (m : Nat) (P : Nat → RLq) : Prop := ∀ p M L0, CS T n p M → DRc qd L0 M → L0.length ≤ p → ok (F (nI m) M) (fun M' => lmv qd M M' ∧ LPc T n qd L0 (P p) M')
def cDd (T : Nat → Nat) (n qd : Nat) (F : Int32 → Mem → Option Mem) : Prop := ∀ x k q M, CF T n k q M → cnt1 M → ok (F x M) (fun M' => lmv qd M M' ∧ CF T n k q M' ∧ cnt1 M')
theorem lpP_n {T : Nat → Nat} {n f p base : Nat} {U : Nat → RLq} {sg L : List Nat} (h : sgI T n sg p = none) : lpP T n U sg base (f + 1) p L = Sum.inl (sk T n p, L) := by
  show (match sgI T n sg p with | none => _ | some i => _) = _
  rw [h]
theorem lpP_i {T : Nat → Nat} {n f p base i : Nat} {U : Nat → RLq} {sg L : List Nat} {y : Nat × List Nat} (h : sgI T n sg p = some i) (hu : U (sk T n p + 1) = Sum.inl y) : lpP T n U sg base (f + 1) p L = lpP T n U sg base f y.1 (L ++ y.2 ++ [base + i]) := by
  show (match sgI T n sg p with | none => _ | some i => _) = _
  rw [h]
  exact bd_l hu
theorem lpP_r {T : Nat → Nat} {n f p base i : Nat} {U : Nat → RLq} {sg L : List Nat} {z : Nat × Nat} (h : sgI T n sg p = some i) (hu : U (sk T n p + 1) = Sum.inr z) : lpP T n U sg base (f + 1) p L = Sum.inr z := by
  show (match sgI T n sg p with | none => _ | some i => _) = _
  rw [h]
  exact bd_r hu
theorem c_tm {T : Nat → Nat} {n qc qd m k1 base : Nat} {U : Nat → RLq} {rU : Int32 → Mem → Option Mem} {sg : List Nat} {B : Int32 × Mem → Option ((Int32 × Mem) ⊕ (Mem ⊕ Mem))} (hq : qd = 24 ∨ qd = 25) (hn : n ≤ 150) (hk : am_Slen.getD k1 0 ≤ 100) (hS : laySB k1 sg = true) (hc : ∀ c, c ∈ sg → c < 256) (hB : ∀ x3 M, B (x3, M) = (if (150 : Int32) ≤ x3 then some (Sum.inr (Sum.inr M)) else (if (f_X10_isFaulty M) = 0 then (Option.bind (f_X10_takeOneOf k1 M) (fun x => (if x.1 = (-1 : Int32) then some (Sum.inr (Sum.inl x.2)) else (Option.bind (rU (nI m) x.2) (fun (M6 : Mem) => (Option.bind (f_X3_add qc qd (nI base + x.1) M6) (fun (M7 : Mem) => some (Sum.inl (x3 + 1, M7))))))))) else some (Sum.inr (Sum.inr M))))) (hU : cSp T n qd rU m U) (hUd : cDd T n qd rU) (uo : rOK n U) (p : Nat) (M : Mem) (L0 : List Nat) (h : CS T n p M) (hD : DRc qd L0 M) (hl : L0.length ≤ p) : ok (Option.bind (rU (nI m) M) (fun (M1 : Mem) => (Option.bind (wh B FU ((0 : Int32), M1)) (fun e8 => match e8 with | (Sum.inl M8) => some M8 | (Sum.inr M8) => some M8)))) (fun M' => lmv qd M M' ∧ LPc T n qd L0 (tmP T n U sg base p) M') := by
  refine ok_bind (hU p M L0 h hD hl) ?_
  rintro M1 ⟨m1, l1⟩
  unfold tmP
  generalize hu : U p = X0 at l1
  rcases X0 with y | f
  · obtain ⟨s1, d1⟩ := l1
    have g := uo p y.1 y.2 h.2.1 hu
    rw [bd_l rfl]
    generalize hX : lpP T n U sg base 151 y.1 y.2 = X
    refine ok_bind (P := fun e => ∃ M8, (e = Sum.inl M8 ∨ e = Sum.inr M8) ∧ lmv qd M M8 ∧ LPc T n qd L0 X M8) ?_ ?_
    · refine ok_wh (fun k s => s.1 = nI k ∧ lmv qd M s.2 ∧ ((∃ p K, CS T n p s.2 ∧ DRc qd (L0 ++ K) s.2 ∧ k + 1 ≤ p ∧ (L0 ++ K).length ≤ p ∧ lpP T n U sg base (151 - k) p K = X) ∨ (∃ f, X = Sum.inr f ∧ CF T n f.1 f.2 s.2 ∧ cnt1 s.2))) 150 ⟨rfl, m1, Or.inl ⟨y.1, y.2, s1, d1, by have := g.2.2.2.1; omega, by simp; omega, hX⟩⟩ (by decide) ?_ ?_
      · rintro k ⟨x3, M2⟩ hk2 ⟨e1, m2, gg⟩
        simp only at e1 m2 gg
        subst e1
        rw [hB]
        refine ok_ifn (show ¬ (150 : Int32) ≤ nI k from nI_ge (b := 150) hk2 (by decide)) ?_
        rcases gg with ⟨p', K, s2, d2, hkp, hlp, ex⟩ | ⟨f, ex, s2, c2⟩
        · rw [show 151 - k = (150 - k) + 1 by omega] at ex
          have hs := sk_f (T := T) s2.2.1
          refine ok_ifp (fty0 s2) (ok_bind (c_of s2 hk hS hc) ?_)
          rintro ⟨v, M4⟩ ⟨o4, m4⟩
          simp only at o4 m4
          unfold OfP at o4
          cases hsg : sgI T n sg p' with
          | none =>
            rw [hsg] at o4
            obtain ⟨rfl, s4⟩ := o4
            refine ok_ifp rfl (ok_some ⟨M4, Or.inl rfl, lmv_tr m2 (lmv_c m4), ?_⟩)
            rw [← ex, lpP_n hsg]
            exact ⟨s4, DRc_m hq d2 m4⟩
          | some i =>
            rw [hsg] at o4
            obtain ⟨rfl, s4, -⟩ := o4
            have hlt : sk T n p' < n := by
              unfold sgI at hsg
              by_cases z : sk T n p' < n
              · exact z
              · rw [if_neg z] at hsg; cases hsg
            have hil : i < 256 := by
              unfold laySB at hS
              rw [Bool.and_eq_true, decide_eq_true_eq] at hS
              unfold sgI at hsg
              rw [if_pos hlt] at hsg
              have := ixO_b hsg
              omega
            refine ok_ifn (nI_m1 (by omega)) (ok_bind (hU (sk T n p' + 1) M4 (L0 ++ K) s4 (DRc_m hq d2 m4) (by omega)) ?_)
            rintro M6 ⟨m6, l6⟩
            generalize hu2 : U (sk T n p' + 1) = Y at l6
            rcases Y with y2 | f
            · obtain ⟨s6, d6⟩ := l6
              have g2 := uo (sk T n p' + 1) y2.1 y2.2 (by omega) hu2
              have hlen : (L0 ++ K ++ y2.2).length ≤ sk T n p' + y2.2.length := by rw [List.length_append]; omega
              show ok (Option.bind (f_X3_add qc qd (nI base + nI i) M6) _) _
              rw [nI_add]
              refine ok_bind (c_addS (c := base + i) hq s6 d6 (by omega)) ?_
              rintro M7 ⟨m7, s7, d7⟩
              refine ok_some ⟨nI_1 k, lmv_tr m2 (lmv_tr (lmv_c m4) (lmv_tr m6 m7)), Or.inl ⟨y2.1, K ++ y2.2 ++ [base + i], s7, ?_, by omega, ?_, ?_⟩⟩
              · rw [← List.append_assoc, ← List.append_assoc]; exact d7
              · rw [← List.append_assoc, ← List.append_assoc, List.length_append]
                have : ([base + i] : List Nat).length = 1 := rfl
                omega
              · rw [show 151 - (k + 1) = 150 - k by omega, ← ex, lpP_i hsg hu2]
            · obtain ⟨s6, c6⟩ := l6
              refine ok_bind (c_addF hq s6 c6) ?_
              rintro M7 ⟨m7, s7, c7⟩
              exact ok_some ⟨nI_1 k, lmv_tr m2 (lmv_tr (lmv_c m4) (lmv_tr m6 m7)), Or.inr ⟨f, by rw [← ex, lpP_r hsg hu2], s7, c7⟩⟩
        · refine ok_ifn (fty1 s2) (ok_some ⟨M2, Or.inr rfl, m2, ?_⟩)
          rw [ex]; exact ⟨s2, c2⟩
      · rintro ⟨x3, M2⟩ ⟨e1, m2, gg⟩
        simp only at e1 m2 gg
        subst e1
        rw [hB]
        refine ok_ifp (by decide) (ok_some ⟨M2, Or.inr rfl, m2, ?_⟩)
        rcases gg with ⟨p', K, s2, d2, hkp, -⟩ | ⟨f, ex, s2, c2⟩
        · have := s2.2.1; omega
        · rw [ex]; exact ⟨s2, c2⟩
    · rintro e ⟨M8, (rfl | rfl), m8, l8⟩
      · exact ok_some ⟨m8, l8⟩
      · exact ok_some ⟨m8, l8⟩
  · obtain ⟨s1, c1⟩ := l1
    rw [bd_r rfl]
    refine ok_bind (P := fun e => e = Sum.inr M1) ?_ ?_
    · refine ok_wh (fun k s => s.1 = nI k ∧ s.2 = M1) 0 ⟨rfl, rfl⟩ (by decide) (fun k s hk => by omega) ?_
      rintro ⟨x3, M2⟩ ⟨e1, e2⟩
      simp only at e1 e2
      subst e1 e2
      rw [hB]
      exact ok_ifn (by decide) (ok_ifn (fty1 s1) (ok_some rfl))
    · rintro e rfl
      exact ok_some ⟨m1, s1, c1⟩
theorem c_tmF {T : Nat → Nat} {n qc qd k1 : Nat} {ba x2 : Int32} {rU : Int32 → Mem → Option Mem} {B : Int32 × Mem → Option ((Int32 × Mem) ⊕ (Mem ⊕ Mem))} (hB : ∀ x3 M, B (x3, M) = (if (150 : Int32) ≤ x3 then some (Sum.inr (Sum.inr M)) else (if (f_X10_isFaulty M) = 0 then (Option.bind (f_X10_takeOneOf k1 M) (fun x => (if x.1 = (-1 : Int32) then some (Sum.inr (Sum.inl x.2)) else (Option.bind (rU x2 x.2) (fun (M6 : Mem) => (Option.bind (f_X3_add qc qd (ba + x.1) M6) (fun (M7 : Mem) => some (Sum.inl (x3 + 1, M7))))))))) else some (Sum.inr (Sum.inr M))))) (hUd : cDd T n qd rU) (k q : Nat) (M : Mem) (h : CF T n k q M) (hc : cnt1 M) : ok (Option.bind (rU x2 M) (fun (M1 : Mem) => (Option.bind (wh B FU ((0 : Int32), M1)) (fun e8 => match e8 with | (Sum.inl M8) => some M8 | (Sum.inr M8) => some M8)))) (fun M' => lmv qd M M' ∧ CF T n k q M' ∧ cnt1 M') := by
  refine ok_bind (hUd x2 k q M h hc) ?_
  rintro M1 ⟨m1, s1, c1⟩
  refine ok_bind (P := fun e => e = Sum.inr M1) ?_ ?_
  · refine ok_wh (fun k s => s.1 = nI k ∧ s.2 = M1) 0 ⟨rfl, rfl⟩ (by decide) (fun k s hk => by omega) ?_
    rintro ⟨x3, M2⟩ ⟨e1, e2⟩
    simp only at e1 e2
    subst e1 e2
    rw [hB]
    exact ok_ifn (by decide) (ok_ifn (fty1 s1) (ok_some rfl))
  · rintro e rfl
    exact ok_some ⟨m1, s1, c1⟩
