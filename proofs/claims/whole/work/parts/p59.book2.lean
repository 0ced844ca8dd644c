/-! book: both read -/
theorem bkS_sk {T : Nat → Nat} {n nb l p : Nat} {Lb Lv : Nat → Nat} (hp : p ≤ n) : bkS T n nb l Lb Lv (sk T n p) = bkS T n nb l Lb Lv p := by unfold bkS; rw [num_sk hp, sk_sk hp]
theorem bk_sk {T : Nat → Nat} {n nb f l p : Nat} {Lb Lv : Nat → Nat} (hp : p ≤ n) : bk T n nb f l Lb Lv (sk T n p) = bk T n nb f l Lb Lv p := by
  match f with
  | 0 => rfl
  | f + 1 => rw [bk_s, bk_s, bkS_sk hp, sk_sk hp]
theorem bk_1 {T : Nat → Nat} {n nb f l p : Nat} {Lb Lv : Nat → Nat} {x : Nat × Nat} (h : sk T n p < n) (e : bkS T n nb l Lb Lv p = Sum.inr x) : bk T n nb (f + 1) l Lb Lv p = Sum.inr x := by rw [bk_s, if_pos h, e]
theorem bk_2 {T : Nat → Nat} {n nb f l p : Nat} {Lb Lv : Nat → Nat} {y : Nat × (Nat → Nat) × (Nat → Nat)} (h : sk T n p < n) (e : bkS T n nb l Lb Lv p = Sum.inl y) : bk T n nb (f + 1) l Lb Lv p = bk T n nb f (l + 1) y.2.1 y.2.2 y.1 := by rw [bk_s, if_pos h, e]
theorem bk_3 {T : Nat → Nat} {n nb f l p : Nat} {Lb Lv : Nat → Nat} (h : ¬ sk T n p < n) : bk T n nb (f + 1) l Lb Lv p = Sum.inl (l, Lb, Lv) := by rw [bk_s, if_neg h]
def BkC (T : Nat → Nat) (n nb q : Nat) (x : (Nat × (Nat → Nat) × (Nat → Nat)) ⊕ (Nat × Nat)) (b : Bool) (M : Mem) : Prop := match x with
  | Sum.inr f => b = false ∧ CF T n f.1 f.2 M
  | Sum.inl y => b = true ∧ M 1 0 5 = 0 ∧ M 1 0 6 = -1 ∧ M 45 0 3 = nI y.1 ∧ BL nb y.1 y.2.1 y.2.2 ∧ BC q nb y.1 y.2.1 y.2.2 M
theorem c_book {T : Nat → Nat} {n nb qs q : Nat} {M : Mem} (hq : q = 46 ∨ q = 47) (h : CS T n 0 M) (e3 : M 3 0 0 = nI nb) (hnb : nb ≤ 16) : ok (f_X5_readBook qs q M) (fun r => fr [1, q, 45] M r.2 ∧ (∀ j, j ≠ 3 → r.2 45 0 j = M 45 0 j) ∧ (r.1 = false → r.2 45 = M 45) ∧ r.2 1 0 1 = 0 ∧ BkC T n nb q (bk T n nb 13 0 zN zN 0) r.1 r.2) := by
  have q3 : 3 ≠ q := by rcases hq with rfl | rfl <;> decide
  have q1 : 1 ≠ q := by rcases hq with rfl | rfl <;> decide
  have q2 : 2 ≠ q := by rcases hq with rfl | rfl <;> decide
  have q45 : 45 ≠ q := by rcases hq with rfl | rfl <;> decide
  have ff : fr [q] M (fillM M q 16 (-1)) := fill_c
  have nq : ∀ {c : Nat}, c ≠ q → c ∉ [q] := fun hc z => hc (List.mem_singleton.mp z)
  have s0 : CS T n 0 (fillM M q 16 (-1)) := by
    obtain ⟨g1, g2, g3, g4, g5⟩ := h
    have e1 := ff 1 (nq q1)
    have e2 := ff 2 (nq q2)
    exact ⟨⟨by rw [e1]; exact g1.1, g1.2.1, by rw [e1]; exact g1.2.2.1, by rw [e2]; exact g1.2.2.2⟩, g2, by rw [e1]; exact g3, by rw [e1]; exact g4, by rw [e1]; exact g5⟩
  unfold f_X5_readBook
  generalize hX : bk T n nb 13 0 zN zN 0 = X
  refine ok_bind (P := fun r => fr [1, q] M r.2 ∧ r.2 1 0 1 = 0 ∧ ((∃ l Lb Lv p, r.1 = nI l ∧ X = Sum.inl (l, Lb, Lv) ∧ CS T n p r.2 ∧ BL nb l Lb Lv ∧ BC q nb l Lb Lv r.2) ∨ (∃ f, X = Sum.inr f ∧ CF T n f.1 f.2 r.2))) ?_ ?_
  · refine ok_wh (fun k s => s.1 = nI k ∧ fr [1, q] M s.2 ∧ s.2 1 0 1 = 0 ∧ ((∃ Lb Lv p, CS T n p s.2 ∧ BL nb k Lb Lv ∧ BC q nb k Lb Lv s.2 ∧ bk T n nb (13 - k) k Lb Lv p = X) ∨ (∃ f, X = Sum.inr f ∧ CF T n f.1 f.2 s.2))) 13 ⟨rfl, fr_mono ff (fun c hc => List.mem_cons_of_mem _ hc), by show (fillM M q 16 (-1)) 1 0 1 = 0; rw [show (fillM M q 16 (-1)) 1 = M 1 from ff 1 (nq q1)]; exact h.1.2.2.1, Or.inl ⟨zN, zN, 0, s0, ⟨by decide, fun i hi => by cases hi⟩, ⟨fun i hi => (by cases hi), fun b hb _ => fill_e (by omega)⟩, hX⟩⟩ (by decide) ?_ ?_
    · rintro k ⟨y, M1⟩ hk ⟨e1, f1, t1, g⟩
      simp only at e1 f1 t1 g
      subst e1
      unfold L_X5_readBook_10
      refine ok_ifn (show ¬ (12 : Int32) < nI k from nI_nlt (a := 12) (by omega) (by decide)) ?_
      rcases g with ⟨Lb, Lv, p, s1, bl, bc, ex⟩ | ⟨f, ex, s1⟩
      · refine ok_ifp (fty0 s1) (ok_bindE (c_end s1) ?_)
        obtain ⟨-, s3, m3⟩ := CS_n s1
        have f3 : fr [1, q] M (am_u3 M1 1 0 3 (nI (sk T n p))) := fr_u3 f1 (List.mem_cons_self ..)
        have t3 : am_u3 M1 1 0 3 (nI (sk T n p)) 1 0 1 = 0 := m3.2.1.trans t1
        rw [show 13 - k = (12 - k) + 1 by omega] at ex
        by_cases hend : sk T n p < n
        · rw [if_pos hend]
          refine ok_ifp rfl (ok_bind (c_line (nb := nb) hq s3 (by rw [u3_c (by decide), f1 3 (fun z => by rcases List.mem_cons.mp z with z | z; exact absurd z (by decide); exact q3 (List.mem_singleton.mp z))]; exact e3) hnb bl (show BC q nb k Lb Lv (am_u3 M1 1 0 3 (nI (sk T n p))) from ⟨fun i hi => by rw [u3_c (Ne.symm q1)]; exact bc.1 i hi, fun b hb hn => by rw [u3_c (Ne.symm q1)]; exact bc.2 b hb hn⟩)) ?_)
          rintro M5 ⟨f5, t5, ln⟩
          rw [bkS_sk s1.2.1] at ln
          refine ok_some ⟨nI_1 k, fr_tr f3 f5, t5.trans t3, ?_⟩
          generalize hb : bkS T n nb k Lb Lv p = B at ln
          rcases B with y | f
          · refine Or.inl ⟨y.2.1, y.2.2, y.1, ln.1, ln.2.1, ln.2.2, ?_⟩
            rw [show 13 - (k + 1) = 12 - k by omega, ← ex, bk_2 hend hb]
          · exact Or.inr ⟨f, by rw [← ex, bk_1 hend hb], ln⟩
        · rw [if_neg hend]
          refine ok_ifn (by decide) (ok_some ⟨f3, t3, Or.inl ⟨k, Lb, Lv, sk T n p, rfl, by rw [← ex, bk_3 hend], s3, bl, ?_⟩⟩)
          exact ⟨fun i hi => by show am_u3 M1 1 0 3 _ q 0 _ = _; rw [u3_c (Ne.symm q1)]; exact bc.1 i hi, fun b hb hn => by show am_u3 M1 1 0 3 _ q 0 _ = _; rw [u3_c (Ne.symm q1)]; exact bc.2 b hb hn⟩
      · exact ok_ifn (fty1 s1) (ok_some ⟨f1, t1, Or.inr ⟨f, ex, s1⟩⟩)
    · rintro ⟨y, M1⟩ ⟨e1, f1, t1, g⟩
      simp only at e1 f1 t1 g
      subst e1
      unfold L_X5_readBook_10
      refine ok_ifp (by decide) (ok_some ⟨f1, t1, ?_⟩)
      rcases g with ⟨Lb, Lv, p, s1, bl, bc, ex⟩ | ⟨f, ex, s1⟩
      · have := bl.1; omega
      · exact Or.inr ⟨f, ex, s1⟩
  · have f45 : ∀ {M1 : Mem}, fr [1, q] M M1 → fr [1, q, 45] M M1 := fun f => fr_mono f (fun c hc => by
      rcases List.mem_cons.mp hc with z | z
      · rw [z]; exact List.mem_cons_self ..
      · rw [List.mem_singleton.mp z]; exact List.mem_cons_of_mem _ (List.mem_cons_self ..))
    have n45 : 45 ∉ [1, q] := fun z => by
      rcases List.mem_cons.mp z with z | z
      · exact absurd z (by decide)
      · exact q45 (List.mem_singleton.mp z)
    have m45 : 45 ∈ [1, q, 45] := List.mem_cons_of_mem _ (List.mem_cons_of_mem _ (List.mem_cons_self ..))
    rintro ⟨x2, M6⟩ ⟨f6, t6, (⟨l, Lb, Lv, p, e1, e2, s6, bl, bc⟩ | ⟨f, e2, s6⟩)⟩
    · simp only at f6 t6 e1 s6 bc
      subst e1 e2
      refine ok_ifp (fty0 s6) (ok_some ⟨fr_u3 (f45 f6) m45, fun j hj => ?_, fun z => (by cases z), ?_, rfl, ?_, ?_, ?_, bl, ?_⟩)
      · show am_u3 M6 45 0 3 (nI l) 45 0 j = _
        rw [u3_j (by omega), f6 45 n45]
      · show am_u3 M6 45 0 3 (nI l) 1 0 1 = 0
        rw [u3_c (by decide)]; exact t6
      · show am_u3 M6 45 0 3 (nI l) 1 0 5 = 0
        rw [u3_c (by decide)]; exact s6.2.2.2.1
      · show am_u3 M6 45 0 3 (nI l) 1 0 6 = -1
        rw [u3_c (by decide)]; exact s6.2.2.2.2
      · show am_u3 M6 45 0 3 (nI l) 45 0 3 = nI l
        rw [u3_e]
      · exact ⟨fun i hi => by show am_u3 M6 45 0 3 (nI l) q 0 _ = _; rw [u3_c (Ne.symm q45)]; exact bc.1 i hi, fun b hb hn => by show am_u3 M6 45 0 3 (nI l) q 0 _ = _; rw [u3_c (Ne.symm q45)]; exact bc.2 b hb hn⟩
    · simp only at f6 t6 s6
      subst e2
      exact ok_ifn (fty1 s6) (ok_some ⟨f45 f6, fun j _ => by show M6 45 0 j = _; rw [f6 45 n45], fun _ => f6 45 n45, t6, rfl, s6⟩)
theorem m_blanksF {T : Nat → Nat} {n k q : Nat} {M : Mem} (h : MF T n k q M) : ok (f_X12_blanks M) (fun M' => MF T n k q M' ∧ mmv M M') := by
  obtain ⟨g1, g2, g3, g4, p', g5, g6⟩ := h
  refine ok_of (m_blanks g1 g5 g6) ⟨⟨MT_m g1 (mmv_u mmv_rfl (by decide)), ?_, g3, ?_, _, sk_le g5, u3_e _ _ _ _ _⟩, mmv_u mmv_rfl (by decide)⟩
  · rw [u3_j (by omega)]; exact g2
  · rw [u3_j (by omega)]; exact g4
theorem m_blanksS {T : Nat → Nat} {n p : Nat} {M : Mem} (h : MS T n p M) : ok (f_X12_blanks M) (fun M' => MS T n (sk T n p) M' ∧ mmv M M') := by
  obtain ⟨g1, g2, g3, g4⟩ := h
  refine ok_of (m_blanks g1 g2 g3) ⟨⟨MT_m g1 (mmv_u mmv_rfl (by decide)), sk_le g2, u3_e _ _ _ _ _, ?_⟩, mmv_u mmv_rfl (by decide)⟩
  rw [u3_j (by omega)]; exact g4
def bnB (l : Nat) (Lb : Nat → Nat) (x : Int32) : Prop := ∀ b, b < 16 → (bt x b = true ↔ ∃ i, i < l ∧ Lb i = b)
def LnM (T : Nat → Nat) (n nb l : Nat) (x3 : Int32) (x : (Nat × (Nat → Nat) × (Nat → Nat)) ⊕ (Nat × Nat)) (e : Int32 × Int32 × Mem) : Prop := match x with
  | Sum.inr f => MF T n f.1 f.2 e.2.2
  | Sum.inl y => e.1 = nI (l + 1) ∧ y.1 ≤ n ∧ MS T n (sk T n y.1) e.2.2 ∧ BL nb (l + 1) y.2.1 y.2.2 ∧ BM (l + 1) y.2.1 y.2.2 e.2.2 ∧ bnB (l + 1) y.2.1 e.2.1
def bmv (M M' : Mem) : Prop := fr [54, 68] M M' ∧ ∀ j, j ∉ k456 → M' 54 0 j = M 54 0 j
theorem bmv_m {M M1 : Mem} (a : mmv M M1) : bmv M M1 := ⟨fr_mono a.1 (by decide), a.2⟩
theorem bmv_tr {M M1 M2 : Mem} (a : bmv M M1) (b : bmv M1 M2) : bmv M M2 := ⟨fr_tr a.1 b.1, fun j h => (b.2 j h).trans (a.2 j h)⟩
theorem bnB_a {l b : Nat} {Lb : Nat → Nat} {x : Int32} (h : bnB l Lb x) (hb : b < 16) : bnB (l + 1) (updN Lb l b) (x ||| ((1 : Int32) <<< (nI b &&& 31))) := by
  intro b' hb'
  rw [b_or, b_one (by omega) (by omega), Bool.or_eq_true, decide_eq_true_eq, h b' hb']
  unfold updN
  constructor
  · rintro (⟨i, i1, i2⟩ | z)
    · exact ⟨i, by omega, by rw [if_neg (by omega)]; exact i2⟩
    · exact ⟨l, by omega, by rw [if_pos rfl]; exact z.symm⟩
  · rintro ⟨i, i1, i2⟩
    by_cases e : i = l
    · rw [if_pos e] at i2; exact Or.inr i2.symm
    · rw [if_neg e] at i2; exact Or.inl ⟨i, by omega, i2⟩
theorem m_line {T : Nat → Nat} {n nb l p : Nat} {Lb Lv : Nat → Nat} {x3 : Int32} {M : Mem} (h : MS T n p M) (hp : sk T n p = p) (hpn : p < n) (e3 : M 58 0 0 = nI nb) (hnb : nb ≤ 16) (hL : BL nb l Lb Lv) (hM : BM l Lb Lv M) (hx : bnB l Lb x3) : ok (L_X12_book_48 (nI l, x3, M)) (fun e => ∃ s, e = Sum.inl s ∧ bmv M s.2.2 ∧ LnM T n nb l x3 (bkS T n nb l Lb Lv p) s) := by
  have hl12 := hL.1
  have h600 := h.1.2.1
  have dead : ∀ {k z : Nat} {M1 : Mem} (_ : MF T n k z M1) (_ : mmv M M1) (w : Int32 × Mem → Mem → Option ((Int32 × Int32 × Mem) ⊕ (Int32 × Mem))), ok (Option.bind (f_X12_number 0 99 M1) (fun x => (Option.bind (f_X12_sign (59 : Int32) x.2) (fun (M5 : Mem) => (if (M5 54 0 5) = 0 then w x M5 else (Option.bind (f_X12_blanks M5) (fun (M12 : Mem) => some (Sum.inl (nI l, x3, M12))))))))) (fun e => ∃ s, e = Sum.inl s ∧ bmv M s.2.2 ∧ MF T n k z s.2.2) := by
    intro k z M1 h1 m1 w
    refine ok_bindE (m_numF h1) (ok_bindE (m_signF h1) (ok_ifn (MF_ne h1) ?_))
    refine ok_bind (m_blanksF h1) ?_
    rintro M6 ⟨h6, m6⟩
    exact ok_some ⟨_, rfl, bmv_m (mmv_tr m1 m6), h6⟩
  unfold L_X12_book_48
  simp only []
  refine ok_ifp h.2.2.2 ?_
  rw [h.1.1, h.2.2.1, e3]
  refine ok_ifn (nI_ge hpn (by omega)) (ok_bind (m_num (a := 0) (b := nb) h (by omega) (by omega)) ?_)
  rintro ⟨v7, M7⟩ ⟨h7, m7⟩
  simp only at h7 m7
  generalize hnum : num T n 0 nb p = N at h7
  rcases N with ⟨e, b⟩ | ⟨k, z⟩
  · obtain ⟨rfl, s7⟩ := h7
    simp only at s7
    obtain ⟨-, hb, hpe, hen⟩ := num_f h.2.1 hnum
    refine ok_ifp s7.2.2.2 ?_
    by_cases hin : ∃ i, i < l ∧ Lb i = b
    · rw [bkS_2 hnum hin, hp]
      have hbt : bt x3 b = true := (hx b (by omega)).mpr hin
      obtain ⟨b1, b2, -⟩ := MS_b (k := 2) (q := p) s7 (by decide)
      have b1 : MF T n 2 p (f_X12_wrong 2 (nI p) M7) := b1
      have b2 : mmv M7 (f_X12_wrong 2 (nI p) M7) := b2
      refine ok_ifn (fun z => by rw [(has0 _ (by omega)).mp z] at hbt; cases hbt) (ok_ifn (MF_ne b1) ?_)
      exact dead b1 (mmv_tr m7 b2) (fun x M5 => if inb (nI l) 12 = true then (Option.bind (f_X12_blanks (am_u3 (am_u3 M5 68 ((nI l).toNatClampNeg + 1) 0 (nI b)) 68 ((nI l).toNatClampNeg + 1) 1 x.1)) (fun (M14 : Mem) => some (Sum.inl (nI l + 1, x3 ||| ((1 : Int32) <<< (nI b &&& 31)), M14)))) else none)
    · have hbt : bt x3 b = false := by
        cases hz : bt x3 b
        · rfl
        · exact absurd ((hx b (by omega)).mp hz) hin
      refine ok_ifp ((has0 _ (by omega)).mpr hbt) ?_
      by_cases hl : l = 12
      · rw [bkS_3 hnum hin hl, hp]
        obtain ⟨b1, b2, -⟩ := MS_b (k := 3) (q := p) s7 (by decide)
        have b1 : MF T n 3 p (f_X12_wrong 3 (nI p) M7) := b1
        have b2 : mmv M7 (f_X12_wrong 3 (nI p) M7) := b2
        refine ok_ifp (by rw [hl]; rfl) ?_
        exact dead b1 (mmv_tr m7 b2) (fun x M5 => if inb (nI l) 12 = true then (Option.bind (f_X12_blanks (am_u3 (am_u3 M5 68 ((nI l).toNatClampNeg + 1) 0 (nI b)) 68 ((nI l).toNatClampNeg + 1) 1 x.1)) (fun (M14 : Mem) => some (Sum.inl (nI l + 1, x3 ||| ((1 : Int32) <<< (nI b &&& 31)), M14)))) else none)
      · refine ok_ifn (show ¬ nI l = 12 from fun z => hl ((nI_eq (b := 12) (by omega) (by decide)).mp z)) (ok_bind (m_num (a := 0) (b := 100) s7 (by omega) (by omega)) ?_)
        rintro ⟨v17, M17⟩ ⟨h17, m17⟩
        simp only at h17 m17
        generalize hnum2 : num T n 0 100 e = N2 at h17
        rcases N2 with ⟨e2, v⟩ | ⟨k, z⟩
        · obtain ⟨rfl, s17⟩ := h17
          simp only at s17
          obtain ⟨-, hv, -, he2⟩ := num_f hen hnum2
          refine ok_bind (m_sign (c := 59) s17 (by decide)) ?_
          rintro M18 ⟨h18, m18⟩
          have m := mmv_tr m7 (mmv_tr m17 m18)
          generalize hex : exq T n 59 e2 = N3 at h18
          rcases N3 with e3' | ⟨k, z⟩
          · have s18 : MS T n e3' M18 := h18
            rw [bkS_6 hnum hin hl hnum2 hex]
            refine ok_ifp s18.2.2.2 (ok_ifp (inb_n (by omega) (by decide)) ?_)
            rw [nI_clamp (show l < 2 ^ 31 by omega)]
            have f68 : fr [68] M18 (am_u3 (am_u3 M18 68 (l + 1) 0 (nI b)) 68 (l + 1) 1 (nI v)) := fr_u3 (fr_u3 fr_rfl (by decide)) (by decide)
            have r68 : BM (l + 1) (updN Lb l b) (updN Lv l v) (am_u3 (am_u3 M18 68 (l + 1) 0 (nI b)) 68 (l + 1) 1 (nI v)) := by
              intro i hi
              unfold updN
              by_cases e : i = l
              · subst e
                rw [if_pos rfl, if_pos rfl, u3_j (by omega), u3_e, u3_e]; exact ⟨rfl, rfl⟩
              · rw [if_neg e, if_neg e, u3_j (by omega), u3_j (by omega), u3_j (by omega), u3_j (by omega), m.1 68 (by decide)]
                exact hM i (by omega)
            generalize am_u3 (am_u3 M18 68 (l + 1) 0 (nI b)) 68 (l + 1) 1 (nI v) = M20 at f68 r68
            have s20 : MS T n e3' M20 := ⟨⟨by rw [f68 54 (by decide)]; exact s18.1.1, h600, by rw [f68 54 (by decide)]; exact s18.1.2.2.1, fun j hj => by rw [f68 55 (by decide)]; exact s18.1.2.2.2 j hj⟩, s18.2.1, by rw [f68 54 (by decide)]; exact s18.2.2.1, by rw [f68 54 (by decide)]; exact s18.2.2.2⟩
            refine ok_bind (m_blanksS s20) ?_
            rintro M21 ⟨s21, m21⟩
            refine ok_some ⟨_, rfl, bmv_tr (bmv_m m) (bmv_tr ⟨fr_mono f68 (by decide), fun j _ => by rw [f68 54 (by decide)]⟩ (bmv_m m21)), nI_1 l, s18.2.1, s21, BL_a hL hl hb hv, ?_, bnB_a hx (by omega)⟩
            intro i hi
            show M21 68 (i + 1) 0 = _ ∧ M21 68 (i + 1) 1 = _
            rw [m21.1 68 (by decide)]
            exact r68 i hi
          · have s18 : MF T n k z M18 := h18
            rw [bkS_5 hnum hin hl hnum2 hex]
            refine ok_ifn (MF_ne s18) (ok_bind (m_blanksF s18) ?_)
            rintro M19 ⟨h19, m19⟩
            exact ok_some ⟨_, rfl, bmv_m (mmv_tr m m19), h19⟩
        · obtain ⟨rfl, s17⟩ := h17
          simp only at s17
          rw [bkS_4 hnum hin hl hnum2]
          refine ok_bindE (m_signF s17) (ok_ifn (MF_ne s17) (ok_bind (m_blanksF s17) ?_))
          rintro M19 ⟨h19, m19⟩
          exact ok_some ⟨_, rfl, bmv_m (mmv_tr (mmv_tr m7 m17) m19), h19⟩
  · obtain ⟨rfl, s7⟩ := h7
    simp only at s7
    rw [bkS_1 hnum]
    refine ok_ifn (MF_ne s7) ?_
    exact dead s7 m7 (fun x M5 => if inb (nI l) 12 = true then (Option.bind (f_X12_blanks (am_u3 (am_u3 M5 68 ((nI l).toNatClampNeg + 1) 0 0) 68 ((nI l).toNatClampNeg + 1) 1 x.1)) (fun (M14 : Mem) => some (Sum.inl (nI l + 1, x3 ||| ((1 : Int32) <<< ((0 : Int32) &&& 31)), M14)))) else none)
