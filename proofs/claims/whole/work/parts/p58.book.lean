/-! book -/
def bkS (T : Nat → Nat) (n nb l : Nat) (Lb Lv : Nat → Nat) (p : Nat) : (Nat × (Nat → Nat) × (Nat → Nat)) ⊕ (Nat × Nat) :=
  match num T n 0 nb p with
  | Sum.inr f => Sum.inr f
  | Sum.inl (e, b) => if ∃ i, i < l ∧ Lb i = b then Sum.inr (2, sk T n p) else if l = 12 then Sum.inr (3, sk T n p) else
    match num T n 0 100 e with
    | Sum.inr f => Sum.inr f
    | Sum.inl (e2, v) => match exq T n 59 e2 with
      | Sum.inr f => Sum.inr f
      | Sum.inl e3 => Sum.inl (e3, updN Lb l b, updN Lv l v)
def bk (T : Nat → Nat) (n nb : Nat) : Nat → Nat → (Nat → Nat) → (Nat → Nat) → Nat → (Nat × (Nat → Nat) × (Nat → Nat)) ⊕ (Nat × Nat)
  | 0, l, Lb, Lv, _ => Sum.inl (l, Lb, Lv)
  | f + 1, l, Lb, Lv, p => if sk T n p < n then (match bkS T n nb l Lb Lv p with
    | Sum.inr x => Sum.inr x
    | Sum.inl (p', Lb', Lv') => bk T n nb f (l + 1) Lb' Lv' p') else Sum.inl (l, Lb, Lv)
theorem bk_s (T : Nat → Nat) (n nb f l : Nat) (Lb Lv : Nat → Nat) (p : Nat) : bk T n nb (f + 1) l Lb Lv p = if sk T n p < n then (match bkS T n nb l Lb Lv p with
    | Sum.inr x => Sum.inr x
    | Sum.inl (p', Lb', Lv') => bk T n nb f (l + 1) Lb' Lv' p') else Sum.inl (l, Lb, Lv) := rfl
/-- lines, as the class drafts them and as the model does -/
def BL (nb l : Nat) (Lb Lv : Nat → Nat) : Prop := l ≤ 12 ∧ ∀ i, i < l → Lb i < nb ∧ Lv i ≤ 99
def BC (q nb l : Nat) (Lb Lv : Nat → Nat) (M : Mem) : Prop := (∀ i, i < l → M q 0 (Lb i) = nI (Lv i)) ∧ ∀ b, b < nb → (∀ i, i < l → Lb i ≠ b) → M q 0 b = -1
def BM (l : Nat) (Lb Lv : Nat → Nat) (M : Mem) : Prop := ∀ i, i < l → M 68 (i + 1) 0 = nI (Lb i) ∧ M 68 (i + 1) 1 = nI (Lv i)
theorem BL_a {nb l b v : Nat} {Lb Lv : Nat → Nat} (h : BL nb l Lb Lv) (hl : l ≠ 12) (hb : b < nb) (hv : v < 100) : BL nb (l + 1) (updN Lb l b) (updN Lv l v) := by
  refine ⟨by have := h.1; omega, fun i hi => ?_⟩
  unfold updN
  by_cases e : i = l
  · rw [if_pos e, if_pos e]; exact ⟨hb, by omega⟩
  · rw [if_neg e, if_neg e]; exact h.2 i (by omega)
theorem BC_a {q nb l b v : Nat} {Lb Lv : Nat → Nat} {M M' : Mem} (h : BC q nb l Lb Lv M) (hM : M' q = M q) (hn : ¬ ∃ i, i < l ∧ Lb i = b) : BC q nb (l + 1) (updN Lb l b) (updN Lv l v) (am_u3 M' q 0 b (nI v)) := by
  refine ⟨fun i hi => ?_, fun b' hb' hno => ?_⟩
  · unfold updN
    by_cases e : i = l
    · rw [if_pos e, if_pos e, u3_e]
    · rw [if_neg e, if_neg e, u3_j (fun z => hn ⟨i, by omega, z.2⟩), hM]; exact h.1 i (by omega)
  · have h1 : b ≠ b' := by
      have := hno l (by omega)
      unfold updN at this
      rw [if_pos rfl] at this
      exact this
    rw [u3_j (fun z => h1 z.2.symm), hM]
    refine h.2 b' hb' (fun i hi => ?_)
    have := hno i (by omega)
    unfold updN at this
    rw [if_neg (by omega)] at this
    exact this
theorem bkS_1 {T : Nat → Nat} {n nb l p : Nat} {Lb Lv : Nat → Nat} {f : Nat × Nat} (h : num T n 0 nb p = Sum.inr f) : bkS T n nb l Lb Lv p = Sum.inr f := by unfold bkS; rw [h]
theorem bkS_2 {T : Nat → Nat} {n nb l p e b : Nat} {Lb Lv : Nat → Nat} (h : num T n 0 nb p = Sum.inl (e, b)) (hi : ∃ i, i < l ∧ Lb i = b) : bkS T n nb l Lb Lv p = Sum.inr (2, sk T n p) := by unfold bkS; rw [h]; exact if_pos hi
theorem bkS_3 {T : Nat → Nat} {n nb l p e b : Nat} {Lb Lv : Nat → Nat} (h : num T n 0 nb p = Sum.inl (e, b)) (hi : ¬ ∃ i, i < l ∧ Lb i = b) (hl : l = 12) : bkS T n nb l Lb Lv p = Sum.inr (3, sk T n p) := by unfold bkS; rw [h]; exact (if_neg hi).trans (if_pos hl)
theorem bkS_4 {T : Nat → Nat} {n nb l p e b : Nat} {Lb Lv : Nat → Nat} {f : Nat × Nat} (h : num T n 0 nb p = Sum.inl (e, b)) (hi : ¬ ∃ i, i < l ∧ Lb i = b) (hl : ¬ l = 12) (h2 : num T n 0 100 e = Sum.inr f) : bkS T n nb l Lb Lv p = Sum.inr f := by unfold bkS; rw [h]; refine (if_neg hi).trans ((if_neg hl).trans ?_); rw [h2]
theorem bkS_5 {T : Nat → Nat} {n nb l p e b e2 v : Nat} {Lb Lv : Nat → Nat} {f : Nat × Nat} (h : num T n 0 nb p = Sum.inl (e, b)) (hi : ¬ ∃ i, i < l ∧ Lb i = b) (hl : ¬ l = 12) (h2 : num T n 0 100 e = Sum.inl (e2, v)) (h3 : exq T n 59 e2 = Sum.inr f) : bkS T n nb l Lb Lv p = Sum.inr f := by unfold bkS; rw [h]; refine (if_neg hi).trans ((if_neg hl).trans ?_); rw [h2]; show (match exq T n 59 e2 with | Sum.inr f => Sum.inr f | Sum.inl e3 => Sum.inl (e3, updN Lb l b, updN Lv l v)) = _; rw [h3]
theorem bkS_6 {T : Nat → Nat} {n nb l p e b e2 v e3 : Nat} {Lb Lv : Nat → Nat} (h : num T n 0 nb p = Sum.inl (e, b)) (hi : ¬ ∃ i, i < l ∧ Lb i = b) (hl : ¬ l = 12) (h2 : num T n 0 100 e = Sum.inl (e2, v)) (h3 : exq T n 59 e2 = Sum.inl e3) : bkS T n nb l Lb Lv p = Sum.inl (e3, updN Lb l b, updN Lv l v) := by unfold bkS; rw [h]; refine (if_neg hi).trans ((if_neg hl).trans ?_); rw [h2]; show (match exq T n 59 e2 with | Sum.inr f => Sum.inr f | Sum.inl e3 => Sum.inl (e3, updN Lb l b, updN Lv l v)) = _; rw [h3]
def LnC (T : Nat → Nat) (n nb l q : Nat) (x : (Nat × (Nat → Nat) × (Nat → Nat)) ⊕ (Nat × Nat)) (M : Mem) : Prop := match x with
  | Sum.inr f => CF T n f.1 f.2 M
  | Sum.inl y => CS T n y.1 M ∧ BL nb (l + 1) y.2.1 y.2.2 ∧ BC q nb (l + 1) y.2.1 y.2.2 M
theorem c_line {T : Nat → Nat} {n nb l p qs q : Nat} {Lb Lv : Nat → Nat} {M : Mem} (hq : q = 46 ∨ q = 47) (h : CS T n p M) (e3 : M 3 0 0 = nI nb) (hnb : nb ≤ 16) (hL : BL nb l Lb Lv) (hB : BC q nb l Lb Lv M) : ok (f_X5_readLine qs q (nI l) M) (fun M' => fr [1, q] M M' ∧ M' 1 0 1 = M 1 0 1 ∧ LnC T n nb l q (bkS T n nb l Lb Lv p) M') := by
  have hl12 := hL.1
  have q1 : q ∉ [1] := by rcases hq with rfl | rfl <;> decide
  have fF : ∀ {M1 M2 : Mem}, cmv M1 M2 → fr [1, q] M1 M2 := fun a => fr_mono a.1 (fun c hc => by rw [List.mem_singleton.mp hc]; exact List.mem_cons_self ..)
  -- once there is a FAULT
  have dead : ∀ {k z : Nat} {M1 : Mem} (_ : CF T n k z M1) (_ : cmv M M1) (w : Int32 × Mem → Mem → Option Mem), ok (Option.bind (f_X10_number 0 99 M1) (fun x => (Option.bind (f_X10_expect (59 : Int32) x.2) (fun (M5 : Mem) => (if (f_X10_isFaulty M5) = 0 then w x M5 else some M5))))) (fun M' => fr [1, q] M M' ∧ M' 1 0 1 = M 1 0 1 ∧ CF T n k z M') := by
    intro k z M1 h1 m1 w
    refine ok_bind (c_numF h1) ?_
    rintro ⟨v4, M4⟩ ⟨-, h4, m4⟩
    simp only at h4 m4
    refine ok_bind (c_expectF (c := 59) h4 (by decide)) ?_
    rintro M5 ⟨h5, m5⟩
    have m := cmv_tr m1 (cmv_tr m4 m5)
    exact ok_ifn (fty1 h5) (ok_some ⟨fF m, m.2.1, h5⟩)
  unfold f_X5_readLine
  rw [e3]
  refine ok_bind (c_num (a := 0) (b := nb) h (by omega) (by omega)) ?_
  rintro ⟨v1, M1⟩ ⟨h1, m1, tk⟩
  simp only at h1 m1 tk
  generalize hnum : num T n 0 nb p = N at h1
  rcases N with ⟨e, b⟩ | ⟨k, z⟩
  · obtain ⟨rfl, s1⟩ := h1
    simp only at s1
    obtain ⟨-, hb, hpe, hen⟩ := num_f h.2.1 hnum
    refine ok_ifn (nI_m1 (by omega)) (ok_ifp (inb_n (by omega) (by decide)) ?_)
    show ok (if M1 q 0 (nI b).toNatClampNeg = -1 then _ else _) _
    rw [nI_clamp (show b < 2 ^ 31 by omega), show M1 q 0 b = M q 0 b by rw [m1.1 q q1]]
    by_cases hin : ∃ i, i < l ∧ Lb i = b
    · rw [bkS_2 hnum hin]
      obtain ⟨i, i1, i2⟩ := hin
      have hne : ¬ M q 0 b = -1 := by
        rw [← i2, hB.1 i i1]
        exact nI_m1 (by have := (hL.2 i i1).2; omega)
      obtain ⟨b1, b2, b3⟩ := CS_b (k := 2) (q := sk T n p) s1 (by decide)
      have b1 : CF T n 2 (sk T n p) (f_X10_blame 2 (nI (sk T n p)) M1) := b1
      have b2 : cmv M1 (f_X10_blame 2 (nI (sk T n p)) M1) := b2
      rw [tk]
      refine ok_ifn hne (ok_if (fun _ => ?_) (fun _ => ?_))
      · rw [CF_b b1]
        exact dead b1 (cmv_tr m1 b2) (fun x M5 => some (am_u3 M5 q 0 b x.1))
      · exact dead b1 (cmv_tr m1 b2) (fun x M5 => some (am_u3 M5 q 0 b x.1))
    · have hem : M q 0 b = -1 := hB.2 b hb (fun i hi z => hin ⟨i, hi, z⟩)
      refine ok_ifp hem ?_
      by_cases hl : l = 12
      · rw [bkS_3 hnum hin hl]
        obtain ⟨b1, b2, b3⟩ := CS_b (k := 3) (q := sk T n p) s1 (by decide)
        have b1 : CF T n 3 (sk T n p) (f_X10_blame 3 (nI (sk T n p)) M1) := b1
        have b2 : cmv M1 (f_X10_blame 3 (nI (sk T n p)) M1) := b2
        rw [tk]
        refine ok_ifp (by rw [hl]; rfl) ?_
        exact dead b1 (cmv_tr m1 b2) (fun x M5 => some (am_u3 M5 q 0 b x.1))
      · refine ok_ifn (show ¬ nI l = 12 from fun z => hl ((nI_eq (b := 12) (by omega) (by decide)).mp z)) (ok_bind (c_num (a := 0) (b := 100) s1 (by omega) (by omega)) ?_)
        rintro ⟨v15, M15⟩ ⟨h15, m15, -⟩
        simp only at h15 m15
        generalize hnum2 : num T n 0 100 e = N2 at h15
        rcases N2 with ⟨e2, v⟩ | ⟨k, z⟩
        · obtain ⟨rfl, s15⟩ := h15
          simp only at s15
          obtain ⟨-, hv, -, -⟩ := num_f hen hnum2
          refine ok_bind (c_expect (c := 59) s15 (by decide)) ?_
          rintro M16 ⟨h16, m16⟩
          have m := cmv_tr m1 (cmv_tr m15 m16)
          generalize hex : exq T n 59 e2 = N3 at h16
          rcases N3 with e3' | ⟨k, z⟩
          · have s16 : CS T n e3' M16 := h16
            rw [bkS_6 hnum hin hl hnum2 hex]
            refine ok_ifp (fty0 s16) (ok_some ?_)
            have qm : q ∈ [1, q] := List.mem_cons_of_mem _ (List.mem_singleton.mpr rfl)
            have qne : 1 ≠ q := by rcases hq with rfl | rfl <;> decide
            have qne2 : 2 ≠ q := by rcases hq with rfl | rfl <;> decide
            refine ⟨fr_u3 (fF m) qm, by rw [u3_c qne]; exact m.2.1, ?_, BL_a hL hl hb hv, BC_a hB (m.1 q q1) hin⟩
            obtain ⟨g1, g2, g3, g4, g5⟩ := s16
            refine ⟨⟨by rw [u3_c qne]; exact g1.1, g1.2.1, by rw [u3_c qne]; exact g1.2.2.1, fun j hj => by rw [u3_c qne2]; exact g1.2.2.2 j hj⟩, g2, by rw [u3_c qne]; exact g3, by rw [u3_c qne]; exact g4, by rw [u3_c qne]; exact g5⟩
          · have s16 : CF T n k z M16 := h16
            rw [bkS_5 hnum hin hl hnum2 hex]
            exact ok_ifn (fty1 s16) (ok_some ⟨fF m, m.2.1, s16⟩)
        · obtain ⟨-, s15⟩ := h15
          simp only at s15
          rw [bkS_4 hnum hin hl hnum2]
          refine ok_bind (c_expectF (c := 59) s15 (by decide)) ?_
          rintro M16 ⟨h16, m16⟩
          have m := cmv_tr m1 (cmv_tr m15 m16)
          exact ok_ifn (fty1 h16) (ok_some ⟨fF m, m.2.1, h16⟩)
  · obtain ⟨rfl, s1⟩ := h1
    simp only at s1
    rw [bkS_1 hnum]
    refine ok_ifp rfl (ok_if (fun _ => ?_) (fun _ => ?_))
    · rw [CF_b s1]
      exact dead s1 m1 (fun x M5 => if inb (-1) 16 = true then some (am_u3 M5 q 0 (-1 : Int32).toNatClampNeg x.1) else none)
    · exact dead s1 m1 (fun x M5 => if inb (-1) 16 = true then some (am_u3 M5 q 0 (-1 : Int32).toNatClampNeg x.1) else none)
