/-! LAWS: the class reads a unit, and all -/
theorem bd_as {α β γ : Type} (x : α ⊕ (Nat × Nat)) (f : α → β ⊕ (Nat × Nat)) (g : β → γ ⊕ (Nat × Nat)) : bd (bd x f) g = bd x (fun a => bd (f a) g) := by cases x <;> rfl
theorem bd_in {α β : Type} (a : α) (f : α → β ⊕ (Nat × Nat)) : bd (Sum.inl a) f = f a := rfl
def gX (L0 : List Nat) (X : RLq) : Prop := ∀ x, X = Sum.inl x → L0.length + x.2.length + 1 ≤ x.1
def xE (T : Nat → Nat) (n c : Nat) (X : RLq) : RLq := bd X (fun x => bd (exq T n c x.1) (fun e => Sum.inl (e, x.2)))
def xS (S : Nat → RLq) (X : RLq) : RLq := bd X (fun x => bd (S x.1) (fun y => Sum.inl (y.1, x.2 ++ y.2)))
def xA (c : Nat) (X : RLq) : RLq := bd X (fun x => Sum.inl (x.1, x.2 ++ [c]))
theorem DR_c {qd : Nat} {L : List Nat} {M : Mem} (h : DRc qd L M) (hl : L.length ≤ 150) : cnt1 M := ⟨_, hl, h.1⟩
theorem LP_e {T : Nat → Nat} {n qd c : Nat} {L0 : List Nat} {X : RLq} {M : Mem} (hq : qd = 24 ∨ qd = 25) (hn : n ≤ 150) (hc : c < 256) (h : LPc T n qd L0 X M) (hg : gX L0 X) : ok (f_X10_expect (nI c) M) (fun M' => lmv qd M M' ∧ LPc T n qd L0 (xE T n c X) M' ∧ gX L0 (xE T n c X)) := by
  rcases X with x | f
  · obtain ⟨s, d⟩ := h
    have g := hg x rfl
    have hx := s.2.1
    refine ok_mono (c_expect s hc) ?_
    rintro M' ⟨r, m⟩
    have e0 : xE T n c (Sum.inl x) = bd (exq T n c x.1) (fun e => Sum.inl (e, x.2)) := rfl
    rw [e0]
    generalize he : exq T n c x.1 = Y at r
    rcases Y with e | f
    · have g2 := exq_f s.2.1 he
      refine ⟨lmv_c m, ⟨r, DRc_m hq d m⟩, fun z hz => ?_⟩
      injection hz with hz
      subst hz
      show L0.length + x.2.length + 1 ≤ e
      omega
    · refine ⟨lmv_c m, ⟨r, DR_c (DRc_m hq d m) ?_⟩, fun z hz => by cases hz⟩
      rw [List.length_append]; omega
  · obtain ⟨s, d⟩ := h
    refine ok_mono (c_expectF s hc) ?_
    rintro M' ⟨r, m⟩
    exact ⟨lmv_c m, ⟨r, cnt1_m d m⟩, fun z hz => by cases hz⟩
theorem LP_s {T : Nat → Nat} {n qd m : Nat} {L0 : List Nat} {X : RLq} {M : Mem} {rS : Int32 → Mem → Option Mem} {S : Nat → RLq} (hn : n ≤ 150) (hS : cSp T n qd rS m S) (hd : cDd T n qd rS) (so : rOK n S) (h : LPc T n qd L0 X M) (hg : gX L0 X) : ok (rS (nI m) M) (fun M' => lmv qd M M' ∧ LPc T n qd L0 (xS S X) M' ∧ gX L0 (xS S X)) := by
  rcases X with x | f
  · obtain ⟨s, d⟩ := h
    have g := hg x rfl
    have hx := s.2.1
    refine ok_mono (hS x.1 M (L0 ++ x.2) s d (by rw [List.length_append]; omega)) ?_
    rintro M' ⟨m, r⟩
    have e0 : xS S (Sum.inl x) = bd (S x.1) (fun y => Sum.inl (y.1, x.2 ++ y.2)) := rfl
    rw [e0]
    generalize he : S x.1 = Y at r
    rcases Y with y | f
    · have g2 := so x.1 y.1 y.2 hx he
      refine ⟨m, ⟨r.1, by rw [← List.append_assoc]; exact r.2⟩, fun z hz => ?_⟩
      injection hz with hz
      subst hz
      show L0.length + (x.2 ++ y.2).length + 1 ≤ y.1
      rw [List.length_append]; omega
    · exact ⟨m, r, fun z hz => by cases hz⟩
  · obtain ⟨s, d⟩ := h
    refine ok_mono (hd (nI m) f.1 f.2 M s d) ?_
    rintro M' ⟨m, r⟩
    exact ⟨m, r, fun z hz => by cases hz⟩
theorem LP_a {T : Nat → Nat} {n qc qd c : Nat} {L0 : List Nat} {X : RLq} {M : Mem} (hq : qd = 24 ∨ qd = 25) (hn : n ≤ 150) (h : LPc T n qd L0 X M) (hg : gX L0 X) : ok (f_X3_add qc qd (nI c) M) (fun M' => lmv qd M M' ∧ LPc T n qd L0 (xA c X) M') := by
  rcases X with x | f
  · obtain ⟨s, d⟩ := h
    have g := hg x rfl
    have hx := s.2.1
    refine ok_mono (c_addS (c := c) hq s d (by rw [List.length_append]; omega)) ?_
    rintro M' ⟨m, r1, r2⟩
    refine ⟨m, r1, ?_⟩
    rw [← List.append_assoc]; exact r2
  · obtain ⟨s, d⟩ := h
    refine ok_mono (c_addF hq s d) ?_
    rintro M' ⟨m, r⟩
    exact ⟨m, r⟩
theorem un_f {T : Nat → Nat} {n k p : Nat} {S : Nat → RLq} (h1 : ¬ cD T n (sk T n p) = true) (h2 : ¬ (sk T n p < n ∧ T (sk T n p) = 40)) (h3 : ¬ wrd T n nm4 p = -1) (ek : wrd T n nm4 p = nI k) (hk : k < 10) (h8 : ¬ k < 8) : unP T n (some S) p = xA k (xE T n 93 (xS S (xE T n 44 (xS S (xE T n 91 (Sum.inl (lE T n (sk T n p), []))))))) := by
  unfold unP
  rw [if_neg h1, if_neg h2, if_neg h3, ek, nI_clamp (show k < 2 ^ 31 by omega), if_neg h8]
  simp only [xA, xE, xS, bd_as, bd_in, List.nil_append]
def deeper (T : Nat → Nat) (n qd m : Nat) (rS : Int32 → Mem → Option Mem) (S : Option (Nat → RLq)) : Prop := (m = 6 ∧ S = none) ∨ (m < 6 ∧ ∃ S', S = some S' ∧ cSp T n qd rS (m + 1) S' ∧ rOK n S')
theorem nest_6 {T : Nat → Nat} {n p q : Nat} {M : Mem} (h : CS T n p M) (e : M 1 0 4 = nI q) : (f_X3_isNestedDeeper 6 M).1 = 0 ∧ CF T n 3 q (f_X3_isNestedDeeper 6 M).2 ∧ cmv M (f_X3_isNestedDeeper 6 M).2 := by
  have b := CS_b (k := 3) (q := q) h (by decide)
  unfold f_X3_isNestedDeeper
  rw [e, if_pos rfl]
  have : ¬ f_X10_isFaulty (f_X10_blame 3 (nI q) M) = 0 := fty1 b.1
  rw [if_neg this]
  exact ⟨rfl, b.1, b.2.1⟩
theorem nest_m {T : Nat → Nat} {n p m : Nat} {M : Mem} (h : CS T n p M) (hm : m < 6) : (f_X3_isNestedDeeper (nI m) M).1 = 1 ∧ (f_X3_isNestedDeeper (nI m) M).2 = M := by
  unfold f_X3_isNestedDeeper
  rw [if_neg (show ¬ nI m = 6 from fun z => by have := (nI_eq (b := 6) (by omega) (by decide)).mp z; omega), if_pos (fty0 h)]
  exact ⟨rfl, rfl⟩
theorem nest_F {T : Nat → Nat} {n k q : Nat} {x : Int32} {M : Mem} (h : CF T n k q M) : (f_X3_isNestedDeeper x M).1 = 0 ∧ (f_X3_isNestedDeeper x M).2 = M := by
  unfold f_X3_isNestedDeeper
  rw [CF_b h, if_neg (fty1 h)]
  by_cases hx : x = 6
  · rw [if_pos hx]; exact ⟨rfl, rfl⟩
  · rw [if_neg hx]; exact ⟨rfl, rfl⟩
theorem c_unit {T : Nat → Nat} {n qc qd m : Nat} {rS rP rU : Int32 → Mem → Option Mem} {S : Option (Nat → RLq)} (hq : qd = 24 ∨ qd = 25) (hn : n ≤ 150) (hS : deeper T n qd m rS S) (hd : cDd T n qd rS) : cSp T n qd (f_RX3_readUnit qc qd rS rP rU) m (unP T n S) := by
  intro p M L0 h hD hl
  have hs := sk_f (T := T) h.2.1
  obtain ⟨-, s1, mv1⟩ := CS_n h
  have d1 := DRc_m hq hD mv1
  unfold f_RX3_readUnit
  refine ok_bindE (c_dig h) ?_
  generalize am_u3 M 1 0 3 (nI (sk T n p)) = M1 at s1 mv1 d1
  by_cases cd : cD T n (sk T n p) = true
  · rw [if_pos cd]
    refine ok_ifn (by decide) (ok_bind (c_num (a := 0) (b := 1000) s1 (by decide) (by decide)) ?_)
    rintro ⟨v, M2⟩ ⟨c2, m2, -⟩
    simp only at c2 m2
    rw [num_sk h.2.1] at c2
    have d2 := DRc_m hq d1 m2
    have eu : unP T n S p = bd (num T n 0 1000 p) (fun x => Sum.inl (x.1, [15 + x.2])) := by unfold unP; rw [if_pos cd]
    rw [eu]
    generalize hN : num T n 0 1000 p = X at c2
    rcases X with x | f
    · obtain ⟨rfl, s2⟩ := c2
      have g := num_f (e := x.1) (v := x.2) h.2.1 hN
      show ok (Option.bind (f_X3_add qc qd (nI 15 + nI x.2) M2) _) _
      rw [nI_add]
      refine ok_bind (c_addS (c := 15 + x.2) hq s2 d2 (by omega)) ?_
      rintro M3 ⟨m3, s3, d3⟩
      exact ok_some ⟨lmv_tr (lmv_c mv1) (lmv_tr (lmv_c m2) m3), s3, d3⟩
    · obtain ⟨rfl, s2⟩ := c2
      refine ok_bind (c_addF hq s2 (DR_c d2 (by omega))) ?_
      rintro M3 ⟨m3, s3, d3⟩
      exact ok_some ⟨lmv_tr (lmv_c mv1) (lmv_tr (lmv_c m2) m3), s3, d3⟩
  · rw [if_neg cd]
    refine ok_ifp rfl (ok_bind (c_of (cs := [40]) s1 (by decide) layS3 (by decide)) ?_)
    rintro ⟨v, M2⟩ ⟨o2, m2⟩
    simp only at o2 m2
    have d2 := DRc_m hq d1 m2
    have ml2 : lmv qd M M2 := lmv_tr (lmv_c mv1) (lmv_c m2)
    unfold OfP at o2
    have esg : sgI T n [40] (sk T n p) = if sk T n p < n ∧ T (sk T n p) = 40 then some 0 else none := by
      unfold sgI
      rw [sk_sk h.2.1]
      by_cases a : sk T n p < n
      · rw [if_pos a]
        show (if T (sk T n p) = 40 then some 0 else none) = _
        by_cases b : T (sk T n p) = 40
        · rw [if_pos b, if_pos ⟨a, b⟩]
        · rw [if_neg b, if_neg (fun z => b z.2)]
      · rw [if_neg a, if_neg (fun z => a z.1)]
    rw [esg, sk_sk h.2.1] at o2
    by_cases c40 : sk T n p < n ∧ T (sk T n p) = 40
    · rw [if_pos c40] at o2
      obtain ⟨rfl, s2, e4⟩ := o2
      refine ok_ifn (by decide) ?_
      rcases hS with ⟨rfl, rfl⟩ | ⟨hm, S', rfl, hS', so⟩
      · obtain ⟨n1, n2, n3⟩ := nest_6 s2 e4
        have eu : unP T n none p = Sum.inr (3, sk T n p) := by unfold unP; rw [if_neg cd, if_pos c40]
        rw [eu]
        refine ok_ifp n1 (ok_some ⟨lmv_tr ml2 (lmv_c n3), n2, DR_c (DRc_m hq d2 n3) (by omega)⟩)
      · obtain ⟨n1, n2⟩ := nest_m s2 hm
        refine ok_ifn (show ¬ (f_X3_isNestedDeeper (nI m) M2).1 = 0 by rw [n1]; decide) ?_
        rw [n2, nI_1]
        have st : LPc T n qd L0 (Sum.inl (sk T n p + 1, [])) M2 := ⟨s2, by rw [List.append_nil]; exact d2⟩
        refine ok_bind (LP_s hn hS' hd so st (fun x hx => by injection hx with hx; subst hx; simp; omega)) ?_
        rintro M3 ⟨m3, l3, g3⟩
        refine ok_bind (LP_e (c := 41) hq hn (by decide) l3 g3) ?_
        rintro M4 ⟨m4, l4, g4⟩
        refine ok_some ⟨lmv_tr ml2 (lmv_tr m3 m4), ?_⟩
        have : xE T n 41 (xS S' (Sum.inl (sk T n p + 1, []))) = unP T n (some S') p := by
          unfold unP
          rw [if_neg cd, if_pos c40]
          simp only [xE, xS, bd_as, bd_in, List.nil_append]
        rw [this] at l4; exact l4
    · rw [if_neg c40] at o2
      obtain ⟨rfl, s2⟩ := o2
      refine ok_ifp rfl (ok_bind (c_word (k1 := 4) (ws := nm4) s2 (by decide) lay4) ?_)
      rintro ⟨v, M3⟩ ⟨c3, m3, e3⟩
      simp only at c3 m3 e3
      have d3 := DRc_m hq d2 m3
      have ml3 : lmv qd M M3 := lmv_tr ml2 (lmv_c m3)
      unfold CW at c3
      rw [wrd_sk h.2.1, sk_sk h.2.1] at c3
      rw [sk_sk h.2.1] at e3
      by_cases hw : wrd T n nm4 p = -1
      · rw [if_pos hw] at c3
        obtain ⟨rfl, s3⟩ := c3
        refine ok_ifp (by decide) (ok_bind (c_addF hq s3 (DR_c d3 (by omega))) ?_)
        rintro M4 ⟨m4, s4, d4⟩
        have eu : unP T n S p = Sum.inr (1, sk T n p) := by unfold unP; rw [if_neg cd, if_neg c40, if_pos hw]
        rw [eu]
        exact ok_some ⟨lmv_tr ml3 m4, s4, d4⟩
      · rw [if_neg hw] at c3
        obtain ⟨rfl, s3⟩ := c3
        obtain ⟨k, hk, ek, eqq⟩ := wrd4 hw
        have hl4 := nm4_l k hk
        have hq4 := (eqw_iff.mp eqq).1
        have hle := lE_f (T := T) hs.2.1
        rw [ek]
        by_cases h8 : k < 8
        · refine ok_ifp (show nI k < 8 from nI_lt (b := 8) h8 (by decide)) (ok_bind (c_addS (c := k) hq s3 d3 (by omega)) ?_)
          rintro M4 ⟨m4, s4, d4⟩
          have eu : unP T n S p = Sum.inl (lE T n (sk T n p), [k]) := by unfold unP; rw [if_neg cd, if_neg c40, if_neg hw, ek, nI_clamp (show k < 2 ^ 31 by omega), if_pos h8]
          rw [eu]
          exact ok_some ⟨lmv_tr ml3 m4, s4, d4⟩
        · refine ok_ifn (show ¬ nI k < 8 from nI_nlt (b := 8) (by omega) (by omega)) ?_
          rcases hS with ⟨rfl, rfl⟩ | ⟨hm, S', rfl, hS', so⟩
          · obtain ⟨n1, n2, n3⟩ := nest_6 s3 e3
            have eu : unP T n none p = Sum.inr (3, sk T n p) := by unfold unP; rw [if_neg cd, if_neg c40, if_neg hw, ek, nI_clamp (show k < 2 ^ 31 by omega), if_neg h8]
            rw [eu]
            refine ok_ifp n1 (ok_bind (c_addF hq n2 (DR_c (DRc_m hq d3 n3) (by omega))) ?_)
            rintro M4 ⟨m4, s4, d4⟩
            exact ok_some ⟨lmv_tr ml3 (lmv_tr (lmv_c n3) m4), s4, d4⟩
          · obtain ⟨n1, n2⟩ := nest_m s3 hm
            refine ok_ifn (show ¬ (f_X3_isNestedDeeper (nI m) M3).1 = 0 by rw [n1]; decide) ?_
            rw [n2, nI_1, un_f cd c40 hw ek hk h8]
            have st : LPc T n qd L0 (Sum.inl (lE T n (sk T n p), [])) M3 := ⟨s3, by rw [List.append_nil]; exact d3⟩
            refine ok_bind (LP_e (c := 91) hq hn (by decide) st (fun x hx => by injection hx with hx; subst hx; simp; omega)) ?_
            rintro M4 ⟨m4, l4, g4⟩
            refine ok_bind (LP_s hn hS' hd so l4 g4) ?_
            rintro M5 ⟨m5, l5, g5⟩
            refine ok_bind (LP_e (c := 44) hq hn (by decide) l5 g5) ?_
            rintro M6 ⟨m6, l6, g6⟩
            refine ok_bind (LP_s hn hS' hd so l6 g6) ?_
            rintro M7 ⟨m7, l7, g7⟩
            refine ok_bind (LP_e (c := 93) hq hn (by decide) l7 g7) ?_
            rintro M8 ⟨m8, l8, g8⟩
            refine ok_bind (LP_a (c := k) hq hn l8 g8) ?_
            rintro M9 ⟨m9, l9⟩
            exact ok_some ⟨lmv_tr ml3 (lmv_tr m4 (lmv_tr m5 (lmv_tr m6 (lmv_tr m7 (lmv_tr m8 m9))))), l9⟩
theorem c_unitF {T : Nat → Nat} {n qc qd : Nat} {rS rP rU : Int32 → Mem → Option Mem} (hq : qd = 24 ∨ qd = 25) : cDd T n qd (f_RX3_readUnit qc qd rS rP rU) := by
  intro x k q M h hc
  unfold f_RX3_readUnit
  refine ok_bind (c_digF h) ?_
  rintro ⟨v, M1⟩ ⟨h1, m1⟩
  simp only at h1 m1
  have c1 := cnt1_m hc m1
  refine ok_if (fun _ => ?_) (fun _ => ?_)
  · refine ok_bind (c_ofF (cs := [40]) h1 (by decide) layS3 (by decide)) ?_
    rintro ⟨v2, M2⟩ ⟨h2, m2⟩
    simp only at h2 m2
    have c2 := cnt1_m c1 m2
    refine ok_if (fun _ => ?_) (fun _ => ?_)
    · refine ok_bind (c_wordF (k1 := 4) (ws := nm4) h2 (by decide) lay4) ?_
      rintro ⟨v3, M3⟩ ⟨rfl, h3, m3⟩
      simp only at h3 m3
      refine ok_ifp (by decide) (ok_bind (c_addF hq h3 (cnt1_m c2 m3)) ?_)
      rintro M4 ⟨m4, s4, d4⟩
      exact ok_some ⟨lmv_tr (lmv_c m1) (lmv_tr (lmv_c m2) (lmv_tr (lmv_c m3) m4)), s4, d4⟩
    · obtain ⟨n1, n2⟩ := nest_F (x := x) h2
      refine ok_ifp n1 ?_
      rw [n2]
      exact ok_some ⟨lmv_tr (lmv_c m1) (lmv_c m2), h2, c2⟩
  · refine ok_bind (c_numF h1) ?_
    rintro ⟨v2, M2⟩ ⟨rfl, h2, m2⟩
    simp only at h2 m2
    refine ok_bind (c_addF hq h2 (cnt1_m c1 m2)) ?_
    rintro M3 ⟨m3, s3, d3⟩
    exact ok_some ⟨lmv_tr (lmv_c m1) (lmv_tr (lmv_c m2) m3), s3, d3⟩
theorem c_deadS {T : Nat → Nat} {n qc qd : Nat} (hq : qd = 24 ∨ qd = 25) : ∀ f, 3 ≤ f → cDd T n qd (rec_readSum qc qd f).1 := by
  intro f hf
  obtain ⟨g, rfl⟩ : ∃ g, f = g + 3 := ⟨f - 3, by omega⟩
  have u : cDd T n qd (rec_readSum qc qd (g + 1)).2.2 := c_unitF (rP := (rec_readSum qc qd g).2.1) (rU := (rec_readSum qc qd g).2.2) hq
  have pr : cDd T n qd (rec_readSum qc qd (g + 2)).2.1 := fun x k q M h hc => c_tmF (k1 := 2) (ba := 12) (B := L_RX3_readProduct_8 qc qd (rec_readSum qc qd (g + 1)).2.2 x) (fun _ _ => rfl) u k q M h hc
  exact fun x k q M h hc => c_tmF (k1 := 1) (ba := 10) (B := L_RX3_readSum_8 qc qd (rec_readSum qc qd (g + 2)).2.1 x) (fun _ _ => rfl) pr k q M h hc
theorem c_sumD {T : Nat → Nat} {n qc qd : Nat} (hq : qd = 24 ∨ qd = 25) (hn : n ≤ 150) : ∀ d f, d ≤ 6 → 3 * d + 6 ≤ f → cSp T n qd (rec_readSum qc qd f).1 (6 - d) (sD T n d) := by
  intro d
  induction d with
  | zero =>
    intro f _ hf
    obtain ⟨g, rfl⟩ : ∃ g, f = g + 3 := ⟨f - 3, by omega⟩
    have u : cSp T n qd (rec_readSum qc qd (g + 1)).2.2 6 (unP T n none) := c_unit (rP := (rec_readSum qc qd g).2.1) (rU := (rec_readSum qc qd g).2.2) hq hn (Or.inl ⟨rfl, rfl⟩) (c_deadS hq g (by omega))
    have pr : cSp T n qd (rec_readSum qc qd (g + 2)).2.1 6 (prP T n none) := fun p M L0 h hD hl => c_tm (k1 := 2) (base := 12) (B := L_RX3_readProduct_8 qc qd (rec_readSum qc qd (g + 1)).2.2 (nI 6)) hq hn (by decide) layS2 (by decide) (fun _ _ => rfl) u (c_unitF (rP := (rec_readSum qc qd g).2.1) (rU := (rec_readSum qc qd g).2.2) hq) (un_ok (fun S' h => by cases h)) p M L0 h hD hl
    have prd : cDd T n qd (rec_readSum qc qd (g + 2)).2.1 := fun x k q M h hc => c_tmF (k1 := 2) (ba := 12) (B := L_RX3_readProduct_8 qc qd (rec_readSum qc qd (g + 1)).2.2 x) (fun _ _ => rfl) (c_unitF (rP := (rec_readSum qc qd g).2.1) (rU := (rec_readSum qc qd g).2.2) hq) k q M h hc
    exact fun p M L0 h hD hl => c_tm (k1 := 1) (base := 10) (B := L_RX3_readSum_8 qc qd (rec_readSum qc qd (g + 2)).2.1 (nI 6)) hq hn (by decide) layS1 (by decide) (fun _ _ => rfl) pr prd (pr_ok (fun S' h => by cases h)) p M L0 h hD hl
  | succ d ih =>
    intro f hd hf
    obtain ⟨g, rfl⟩ : ∃ g, f = g + 3 := ⟨f - 3, by omega⟩
    have ihg := ih g (by omega) (by omega)
    rw [show 6 - d = 6 - (d + 1) + 1 by omega] at ihg
    have so : ∀ S', some (sD T n d) = some S' → rOK n S' := fun S' h => by injection h with h; subst h; exact sD_ok d
    have u : cSp T n qd (rec_readSum qc qd (g + 1)).2.2 (6 - (d + 1)) (unP T n (some (sD T n d))) := c_unit (rP := (rec_readSum qc qd g).2.1) (rU := (rec_readSum qc qd g).2.2) hq hn (Or.inr ⟨by omega, sD T n d, rfl, ihg, sD_ok d⟩) (c_deadS hq g (by omega))
    have pr : cSp T n qd (rec_readSum qc qd (g + 2)).2.1 (6 - (d + 1)) (prP T n (some (sD T n d))) := fun p M L0 h hD hl => c_tm (k1 := 2) (base := 12) (B := L_RX3_readProduct_8 qc qd (rec_readSum qc qd (g + 1)).2.2 (nI (6 - (d + 1)))) hq hn (by decide) layS2 (by decide) (fun _ _ => rfl) u (c_unitF (rP := (rec_readSum qc qd g).2.1) (rU := (rec_readSum qc qd g).2.2) hq) (un_ok so) p M L0 h hD hl
    have prd : cDd T n qd (rec_readSum qc qd (g + 2)).2.1 := fun x k q M h hc => c_tmF (k1 := 2) (ba := 12) (B := L_RX3_readProduct_8 qc qd (rec_readSum qc qd (g + 1)).2.2 x) (fun _ _ => rfl) (c_unitF (rP := (rec_readSum qc qd g).2.1) (rU := (rec_readSum qc qd g).2.2) hq) k q M h hc
    exact fun p M L0 h hD hl => c_tm (k1 := 1) (base := 10) (B := L_RX3_readSum_8 qc qd (rec_readSum qc qd (g + 2)).2.1 (nI (6 - (d + 1)))) hq hn (by decide) layS1 (by decide) (fun _ _ => rfl) pr prd (pr_ok so) p M L0 h hD hl
