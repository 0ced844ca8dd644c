/-! RIVERS: the class reads all -/
theorem c_one {T : Nat → Nat} {n a b e j f k q : Nat} {B : Bd} {M : Mem} (h : CS T n e M) (hB : CB B M) (hW : WB B) (ha : a ≤ 1000) (hb : b ≤ 1000) (hj : j = 12 ∧ f = 3 ∨ j = 13 ∧ f = 4) (hw : ∀ v, a ≤ v → v < b → WB (ub B 0 f v)) (eb : bdy T n B k e q = bd (num T n a b e) (fun x => Sum.inl (x.1, ub B 0 f x.2))) : ok (Option.bind (f_X10_number (nI a) (nI b - 1) M) (fun x => some (am_u3 x.2 13 0 j x.1))) (fun M' => rmv M M' ∧ QC T n (bdy T n B k e q) M') := by
  refine ok_bind (c_num (a := a) (b := b) h ha hb) ?_
  rintro ⟨v1, M1⟩ ⟨h1, m1, -⟩
  simp only at h1 m1
  generalize hn1 : num T n a b e = N1 at h1
  rcases N1 with ⟨e1, x1⟩ | z
  · obtain ⟨rfl, s1⟩ := h1
    simp only at s1
    have g := num_f h.2.1 hn1
    refine ok_some ⟨rmv_u (rmv_c m1) (by decide) (by decide), ?_⟩
    rw [eb, bd_l hn1]
    refine ⟨CS_o s1 (u3_c (by decide)) (u3_c (by decide)), CB_u (CB_m hB m1) (fun c c1 c2 => u3_c c1) ?_, hw x1 g.1 g.2.1⟩
    rcases hj with ⟨rfl, rfl⟩ | ⟨rfl, rfl⟩
    · exact Or.inl ⟨rfl, rfl, rfl⟩
    · exact Or.inr (Or.inl ⟨rfl, rfl, rfl⟩)
  · obtain ⟨-, s1⟩ := h1
    refine ok_some ⟨rmv_u (rmv_c m1) (by decide) (by decide), ?_⟩
    rw [eb, bd_r hn1]
    exact CF_o s1 (u3_c (by decide)) (u3_c (by decide))
theorem c_cls {T : Nat → Nat} {n k e q : Nat} {B : Bd} {M : Mem} (h : CS T n e M) (hB : CB B M) (hW : WB B) (tk : M 1 0 4 = nI q) (hk : k < 6) : ok (f_X1_readClause (nI k) M) (fun M' => rmv M M' ∧ QC T n (bdy T n B k e q) M') := by
  unfold f_X1_readClause
  have : k = 0 ∨ k = 1 ∨ k = 2 ∨ k = 3 ∨ k = 4 ∨ k = 5 := by omega
  rcases this with rfl | rfl | rfl | rfl | rfl | rfl
  · exact ok_ifp rfl (ok_bind (c_rdBoard h hB hW tk) (fun _ h => ok_some h))
  · exact ok_ifn (by decide) (ok_ifp rfl (ok_bind (c_rdBarge h hB hW tk) (fun _ h => ok_some h)))
  · exact ok_ifn (by decide) (ok_ifn (by decide) (ok_ifp rfl (c_one (a := 1) (b := 5) (j := 12) (f := 3) h hB hW (by decide) (by decide) (Or.inl ⟨rfl, rfl⟩) (fun v v1 v2 => WB_u hW (Or.inl ⟨rfl, rfl, v1, v2⟩)) bdy_2)))
  · exact ok_ifn (by decide) (ok_ifn (by decide) (ok_ifn (by decide) (ok_ifp rfl (ok_bind (c_rdStreet h hB hW tk) (fun _ h => ok_some h)))))
  · exact ok_ifn (by decide) (ok_ifn (by decide) (ok_ifn (by decide) (ok_ifn (by decide) (ok_ifp rfl (ok_bind (c_rdFish h hB hW) (fun _ h => ok_some h))))))
  · exact ok_ifn (by decide) (ok_ifn (by decide) (ok_ifn (by decide) (ok_ifn (by decide) (ok_ifn (by decide) (ok_ifp rfl (c_one (a := 0) (b := 5) (j := 13) (f := 4) h hB hW (by decide) (by decide) (Or.inr ⟨rfl, rfl⟩) (fun v v1 v2 => WB_u hW (Or.inr (Or.inl ⟨rfl, rfl, v2⟩))) bdy_5))))))
theorem c_clsF {T : Nat → Nat} {n k q : Nat} {x : Int32} {M : Mem} (h : CF T n k q M) : ok (f_X1_readClause x M) (fun M' => rmv M M' ∧ CF T n k q M') := by
  have fin : ∀ M', CF T n k q M' → cmv M M' → rmv M M' ∧ CF T n k q M' := fun M' s m => ⟨rmv_c m, s⟩
  have one : ∀ (a b : Int32) (j : Nat), ok (Option.bind (f_X10_number a b M) (fun x => some (am_u3 x.2 13 0 j x.1))) (fun M' => rmv M M' ∧ CF T n k q M') := by
    intro a b j
    refine ok_bind (c_numF h) ?_
    rintro ⟨v, M1⟩ ⟨-, s, m⟩
    exact ok_some ⟨rmv_u (rmv_c m) (by decide) (by decide), CF_o s (u3_c (by decide)) (u3_c (by decide))⟩
  unfold f_X1_readClause
  refine ok_if (fun _ => ok_bind (P := fun M' => rmv M M' ∧ CF T n k q M') ?_ (fun _ h => ok_some h)) (fun _ => ok_if (fun _ => ok_bind (P := fun M' => rmv M M' ∧ CF T n k q M') ?_ (fun _ h => ok_some h)) (fun _ => ok_if (fun _ => one 1 4 12) (fun _ => ok_if (fun _ => ok_bind (P := fun M' => rmv M M' ∧ CF T n k q M') ?_ (fun _ h => ok_some h)) (fun _ => ok_if (fun _ => ok_bind (P := fun M' => rmv M M' ∧ CF T n k q M') ?_ (fun _ h => ok_some h)) (fun _ => ok_if (fun _ => one 0 4 13) (fun _ => ok_some (fin M h cmv_rfl)))))))
  · unfold f_X1_readBoard
    rw [CF_b h]
    refine ok_if (fun _ => ?_) (fun _ => ?_)
    · exact c_n3F (lo := fun _ => 0) (hi := fun _ => 20) (W := fun x y z => if inb (z.2 13 0 0) 16 = true then some (am_u3 (am_u3 (am_u3 (am_u3 z.2 14 0 ((z.2 13 0 0).toNatClampNeg) x.1) 15 0 ((z.2 13 0 0).toNatClampNeg) y.1) 16 0 ((z.2 13 0 0).toNatClampNeg) z.1) 13 0 0 ((z.2 13 0 0) + (1 : Int32))) else none) h fin
    · exact c_n3F (lo := fun _ => 0) (hi := fun _ => 20) (W := fun x y z => if inb (z.2 13 0 0) 16 = true then some (am_u3 (am_u3 (am_u3 (am_u3 z.2 14 0 ((z.2 13 0 0).toNatClampNeg) x.1) 15 0 ((z.2 13 0 0).toNatClampNeg) y.1) 16 0 ((z.2 13 0 0).toNatClampNeg) z.1) 13 0 0 ((z.2 13 0 0) + (1 : Int32))) else none) h fin
  · unfold f_X1_readBarge
    rw [CF_b h]
    refine ok_if (fun _ => ?_) (fun _ => ?_)
    · exact c_n2F (W := fun x z => if inb (z.2 13 0 5) 4 = true then some (am_u3 (am_u3 (am_u3 z.2 18 0 ((z.2 13 0 5).toNatClampNeg) x.1) 19 0 ((z.2 13 0 5).toNatClampNeg) z.1) 13 0 5 ((z.2 13 0 5) + (1 : Int32))) else none) h fin
    · exact c_n2F (W := fun x z => if inb (z.2 13 0 5) 4 = true then some (am_u3 (am_u3 (am_u3 z.2 18 0 ((z.2 13 0 5).toNatClampNeg) x.1) 19 0 ((z.2 13 0 5).toNatClampNeg) z.1) 13 0 5 ((z.2 13 0 5) + (1 : Int32))) else none) h fin
  · unfold f_X1_readStreet
    rw [CF_b h]
    refine ok_if (fun _ => ?_) (fun _ => ?_)
    · exact c_n3F (lo := fun x => x.1) (hi := fun x => x.2 13 0 0 - 1) (W := fun x y z => if inb (z.2 13 0 8) 8 = true then some (am_u3 (am_u3 (am_u3 (am_u3 z.2 20 0 ((z.2 13 0 8).toNatClampNeg) x.1) 21 0 ((z.2 13 0 8).toNatClampNeg) y.1) 22 0 ((z.2 13 0 8).toNatClampNeg) z.1) 13 0 8 ((z.2 13 0 8) + (1 : Int32))) else none) h fin
    · exact c_n3F (lo := fun x => x.1) (hi := fun x => x.2 13 0 0 - 1) (W := fun x y z => if inb (z.2 13 0 8) 8 = true then some (am_u3 (am_u3 (am_u3 (am_u3 z.2 20 0 ((z.2 13 0 8).toNatClampNeg) x.1) 21 0 ((z.2 13 0 8).toNatClampNeg) y.1) 22 0 ((z.2 13 0 8).toNatClampNeg) z.1) 13 0 8 ((z.2 13 0 8) + (1 : Int32))) else none) h fin
  · unfold f_X1_readFish
    exact c_n2F (W := fun x z => if inb x.1 16 = true then some (am_u3 z.2 17 0 x.1.toNatClampNeg z.1) else none) h fin
theorem wrd_sk {T : Nat → Nat} {n p : Nat} {ws : List (List Nat)} (hp : p ≤ n) : wrd T n ws (sk T n p) = wrd T n ws p := by unfold wrd; rw [sk_sk hp]
theorem cla_sk {T : Nat → Nat} {n c p : Nat} {B : Bd} (hp : p ≤ n) : cla T n B c (sk T n p) = cla T n B c p := by unfold cla; rw [wrd_sk hp, sk_sk hp]
theorem wrd_k {T : Nat → Nat} {n p : Nat} (h : ¬ wrd T n nm0 p = -1) : ∃ k, k < 6 ∧ wrd T n nm0 p = nI k := by
  rcases wI_b T (sk T n p) (lE T n (sk T n p)) nm0 0 (by decide) with z | ⟨i, i1, i2, -⟩
  · exact absurd z h
  · exact ⟨i, i1, by rw [Nat.zero_add] at i2; exact i2⟩
/-- a CLAUSE with its sign -/
theorem c_clause {T : Nat → Nat} {n c p : Nat} {B : Bd} {M : Mem} (h : CS T n p M) (hB : CB B M) (hW : WB B) (hc : c ≤ 60) : ok (Option.bind (f_X10_word 0 M) (fun x => (if nI c = (60 : Int32) then (Option.bind (f_X1_readClause x.1 (f_X10_blame (3 : Int32) (x.2 1 0 4) x.2)) (fun (M9 : Mem) => (Option.bind (f_X10_expect (59 : Int32) M9) (fun (M10 : Mem) => some (Sum.inl (nI c + 1, M10)))))) else (Option.bind (f_X1_readClause x.1 x.2) (fun (M7 : Mem) => (Option.bind (f_X10_expect (59 : Int32) M7) (fun (M8 : Mem) => some (Sum.inl (nI c + 1, M8))))))))) (fun (e : (Int32 × Mem) ⊕ Mem) => ∃ M', e = Sum.inl (nI (c + 1), M') ∧ rmv M M' ∧ QC T n (cla T n B c p) M') := by
  have dead : ∀ {k q : Nat} {x : Int32} {M1 : Mem}, CF T n k q M1 → rmv M M1 → ok (Option.bind (f_X1_readClause x M1) (fun (M9 : Mem) => (Option.bind (f_X10_expect (59 : Int32) M9) (fun (M10 : Mem) => some (Sum.inl (nI c + 1, M10)))))) (fun (e : (Int32 × Mem) ⊕ Mem) => ∃ M', e = Sum.inl (nI (c + 1), M') ∧ rmv M M' ∧ CF T n k q M') := by
    intro k q x M1 s1 m1
    refine ok_bind (c_clsF s1) ?_
    rintro M2 ⟨m2, s2⟩
    refine ok_bind (c_expectF (c := 59) s2 (by decide)) ?_
    rintro M3 ⟨s3, m3⟩
    exact ok_some ⟨M3, by rw [nI_1], rmv_tr m1 (rmv_tr m2 (rmv_c m3)), s3⟩
  refine ok_bind (c_word (ws := nm0) h (by decide) lay0) ?_
  rintro ⟨v, M1⟩ ⟨h1, m1, tk⟩
  simp only at h1 m1 tk
  unfold CW at h1
  unfold cla
  by_cases hw : wrd T n nm0 p = -1
  · rw [if_pos hw] at h1
    rw [if_pos hw]
    refine ok_if (fun _ => ?_) (fun _ => dead h1.2 (rmv_c m1))
    show ok (Option.bind (f_X1_readClause v (f_X10_blame 3 (M1 1 0 4) M1)) _) _
    rw [CF_b h1.2]
    exact dead h1.2 (rmv_c m1)
  · rw [if_neg hw] at h1
    rw [if_neg hw]
    obtain ⟨k, hk, ek⟩ := wrd_k hw
    obtain ⟨rfl, s1⟩ := h1
    by_cases h60 : c = 60
    · rw [if_pos h60]
      refine ok_ifp (by rw [h60]; rfl) ?_
      show ok (Option.bind (f_X1_readClause (wrd T n nm0 p) (f_X10_blame 3 (M1 1 0 4) M1)) _) _
      rw [tk]
      obtain ⟨b1, b2, -⟩ := CS_b (k := 3) (q := sk T n p) s1 (by decide)
      exact dead b1 (rmv_c (cmv_tr m1 b2))
    · rw [if_neg h60]
      refine ok_ifn (show ¬ nI c = 60 from fun z => h60 ((nI_eq (b := 60) (by omega) (by decide)).mp z)) ?_
      show ok (Option.bind (f_X1_readClause (wrd T n nm0 p) M1) _) _
      rw [ek, nI_clamp (show k < 2 ^ 31 by omega)]
      refine ok_bind (c_cls s1 (CB_m hB m1) hW tk hk) ?_
      rintro M2 ⟨m2, q2⟩
      generalize hb : bdy T n B k (lE T n (sk T n p)) (sk T n p) = X at q2
      rcases X with y | f
      · obtain ⟨s2, b2, w2⟩ := q2
        refine ok_bind (c_expect (c := 59) s2 (by decide)) ?_
        rintro M3 ⟨h3, m3⟩
        refine ok_some ⟨M3, by rw [nI_1], rmv_tr (rmv_c m1) (rmv_tr m2 (rmv_c m3)), ?_⟩
        rw [bd_l rfl]
        generalize hx : exq T n 59 y.1 = Y at h3
        rcases Y with e | f
        · rw [bd_l rfl]; exact ⟨h3, CB_m b2 m3, w2⟩
        · rw [bd_r rfl]; exact h3
      · refine ok_bind (c_expectF (c := 59) q2 (by decide)) ?_
        rintro M3 ⟨h3, m3⟩
        exact ok_some ⟨M3, by rw [nI_1], rmv_tr (rmv_c m1) (rmv_tr m2 (rmv_c m3)), h3⟩
def B0 : Bd := fun f j => if f = 0 ∧ (j = 3 ∨ j = 4) then 2 else 0
theorem WB_0 : WB B0 := by
  refine ⟨by decide, by decide, by decide, by decide, by decide, fun j hj => ?_, fun j hj => ?_, fun j hj => ?_⟩
  · exact absurd hj (by show ¬ j < 0; omega)
  · exact absurd hj (by show ¬ j < 0; omega)
  · exact absurd hj (by show ¬ j < 0; omega)
def RvC (T : Nat → Nat) (n : Nat) (x : Bd ⊕ (Nat × Nat)) (M : Mem) : Prop := match x with
  | Sum.inl B => CB B M ∧ WB B ∧ ∃ p, CS T n p M
  | Sum.inr f => CF T n f.1 f.2 M
theorem rv_1 {T : Nat → Nat} {n f c p : Nat} {B : Bd} {x : Nat × Nat} (h : sk T n p < n) (e : cla T n B c p = Sum.inr x) : rv T n (f + 1) c B p = Sum.inr x := by
  show (if sk T n p < n then _ else _) = _
  rw [if_pos h, e]; rfl
theorem rv_2 {T : Nat → Nat} {n f c p : Nat} {B : Bd} {y : Nat × Bd} (h : sk T n p < n) (e : cla T n B c p = Sum.inl y) : rv T n (f + 1) c B p = rv T n f (c + 1) y.2 y.1 := by
  show (if sk T n p < n then _ else _) = _
  rw [if_pos h, e]; rfl
theorem rv_3 {T : Nat → Nat} {n f c p : Nat} {B : Bd} (h : ¬ sk T n p < n) : rv T n (f + 1) c B p = Sum.inl B := by
  show (if sk T n p < n then _ else _) = _
  rw [if_neg h]
theorem cla_60 {T : Nat → Nat} {n p : Nat} {B : Bd} : ∃ f, cla T n B 60 p = Sum.inr f := by
  unfold cla
  by_cases hw : wrd T n nm0 p = -1
  · exact ⟨_, by rw [if_pos hw]⟩
  · exact ⟨_, by rw [if_neg hw, if_pos rfl]⟩
theorem c_read {T : Nat → Nat} {n : Nat} {M : Mem} (h : CS T n 0 M) : ok (f_X1_read M) (fun M' => rmv M M' ∧ RvC T n (rv T n 61 0 B0 0) M') := by
  unfold f_X1_read
  generalize hX : rv T n 61 0 B0 0 = X
  have f0 : rmv M (fillM (am_u3 (am_u3 (am_u3 (am_u3 (am_u3 M 13 0 0 (0 : Int32)) 13 0 5 (0 : Int32)) 13 0 8 (0 : Int32)) 13 0 12 (2 : Int32)) 13 0 13 (2 : Int32)) 17 16 (0 : Int32)) := by
    refine ⟨fr_tr (M1 := am_u3 (am_u3 (am_u3 (am_u3 (am_u3 M 13 0 0 (0 : Int32)) 13 0 5 (0 : Int32)) 13 0 8 (0 : Int32)) 13 0 12 (2 : Int32)) 13 0 13 (2 : Int32)) ?_ (fr_mono fill_c (by decide)), ?_⟩
    · repeat' (first | exact fr_rfl | refine fr_u3 ?_ (by decide))
    · rw [fill_c (c := 17) 1 (by decide), u3_c (by decide), u3_c (by decide), u3_c (by decide), u3_c (by decide), u3_c (by decide)]
  have e1 : (fillM (am_u3 (am_u3 (am_u3 (am_u3 (am_u3 M 13 0 0 (0 : Int32)) 13 0 5 (0 : Int32)) 13 0 8 (0 : Int32)) 13 0 12 (2 : Int32)) 13 0 13 (2 : Int32)) 17 16 (0 : Int32)) 1 = M 1 := by rw [fill_c (c := 17) 1 (by decide), u3_c (by decide), u3_c (by decide), u3_c (by decide), u3_c (by decide), u3_c (by decide)]
  have e2 : (fillM (am_u3 (am_u3 (am_u3 (am_u3 (am_u3 M 13 0 0 (0 : Int32)) 13 0 5 (0 : Int32)) 13 0 8 (0 : Int32)) 13 0 12 (2 : Int32)) 13 0 13 (2 : Int32)) 17 16 (0 : Int32)) 2 = M 2 := by rw [fill_c (c := 17) 2 (by decide), u3_c (by decide), u3_c (by decide), u3_c (by decide), u3_c (by decide), u3_c (by decide)]
  have b0 : CB B0 (fillM (am_u3 (am_u3 (am_u3 (am_u3 (am_u3 M 13 0 0 (0 : Int32)) 13 0 5 (0 : Int32)) 13 0 8 (0 : Int32)) 13 0 12 (2 : Int32)) 13 0 13 (2 : Int32)) 17 16 (0 : Int32)) := by
    refine ⟨?_, ?_, ?_, ?_, ?_, fun j hj => absurd hj (by show ¬ j < 0; omega), fun j hj _ => fill_e hj, fun j hj => absurd hj (by show ¬ j < 0; omega), fun j hj => absurd hj (by show ¬ j < 0; omega)⟩
    · rw [fill_c (c := 17) 13 (by decide), u3_j (by omega), u3_j (by omega), u3_j (by omega), u3_j (by omega), u3_e]; rfl
    · rw [fill_c (c := 17) 13 (by decide), u3_j (by omega), u3_j (by omega), u3_j (by omega), u3_e]; rfl
    · rw [fill_c (c := 17) 13 (by decide), u3_j (by omega), u3_j (by omega), u3_e]; rfl
    · rw [fill_c (c := 17) 13 (by decide), u3_j (by omega), u3_e]; rfl
    · rw [fill_c (c := 17) 13 (by decide), u3_e]; rfl
  generalize (fillM (am_u3 (am_u3 (am_u3 (am_u3 (am_u3 M 13 0 0 (0 : Int32)) 13 0 5 (0 : Int32)) 13 0 8 (0 : Int32)) 13 0 12 (2 : Int32)) 13 0 13 (2 : Int32)) 17 16 (0 : Int32)) = M0' at f0 e1 e2 b0
  have s0 : CS T n 0 M0' := CS_o h e1 e2
  refine ok_bind (P := fun M' => rmv M M' ∧ RvC T n X M') ?_ (fun _ h => ok_some h)
  refine ok_wh (fun k s => s.1 = nI k ∧ rmv M s.2 ∧ ((∃ B p, k ≤ 60 ∧ CS T n p s.2 ∧ CB B s.2 ∧ WB B ∧ rv T n (61 - k) k B p = X) ∨ (∃ f, X = Sum.inr f ∧ CF T n f.1 f.2 s.2))) 61 ⟨rfl, f0, Or.inl ⟨B0, 0, by decide, s0, b0, WB_0, hX⟩⟩ (by decide) ?_ ?_
  · rintro k ⟨y, M1⟩ hk ⟨e1, m1, g⟩
    simp only at e1 m1 g
    subst e1
    unfold L_X1_read_35
    refine ok_ifn (show ¬ (60 : Int32) < nI k from nI_nlt (a := 60) (by omega) (by decide)) ?_
    rcases g with ⟨B, p, hk6, s1, b1, w1, ex⟩ | ⟨f, ex, s1⟩
    · refine ok_ifp (fty0 s1) (ok_bindE (c_end s1) ?_)
      obtain ⟨-, s3, m3⟩ := CS_n s1
      rw [show 61 - k = (60 - k) + 1 by omega] at ex
      by_cases hend : sk T n p < n
      · rw [if_pos hend]
        refine ok_ifp rfl (ok_mono (c_clause s3 (CB_m b1 m3) w1 hk6) ?_)
        rintro e ⟨M5, rfl, m5, q5⟩
        rw [cla_sk s1.2.1] at q5
        refine ⟨rfl, rmv_tr m1 (rmv_tr (rmv_c m3) m5), ?_⟩
        generalize hb : cla T n B k p = Y at q5
        rcases Y with y | f
        · refine Or.inl ⟨y.2, y.1, ?_, q5.1, q5.2.1, q5.2.2, ?_⟩
          · by_cases h60 : k = 60
            · subst h60
              obtain ⟨f, hf⟩ := cla_60 (T := T) (n := n) (p := p) (B := B)
              rw [hf] at hb; cases hb
            · omega
          · rw [show 61 - (k + 1) = 60 - k by omega, ← ex, rv_2 hend hb]
        · exact Or.inr ⟨f, by rw [← ex, rv_1 hend hb], q5⟩
      · rw [if_neg hend]
        refine ok_ifn (by decide) (ok_some ⟨rmv_tr m1 (rmv_c m3), ?_⟩)
        rw [← ex, rv_3 hend]
        exact ⟨CB_m b1 m3, w1, _, s3⟩
    · refine ok_ifn (fty1 s1) (ok_some ⟨m1, ?_⟩)
      rw [ex]; exact s1
  · rintro ⟨y, M1⟩ ⟨e1, m1, g⟩
    simp only at e1 m1 g
    subst e1
    unfold L_X1_read_35
    refine ok_ifp (by decide) (ok_some ⟨m1, ?_⟩)
    rcases g with ⟨B, p, hk6, -⟩ | ⟨f, ex, s1⟩
    · omega
    · rw [ex]; exact s1
