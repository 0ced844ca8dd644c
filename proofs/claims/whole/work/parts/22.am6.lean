
theorem am_ldcW {X : am_X} {d : Nat} {mt : am_M} {pc : Nat} {L : List (Option am_V)} {st : List am_V} {h : am_H} {r : am_R} {idx : Nat} {v : Int32} (hd : decode mt.2.1 pc = .ok (.ldc_w idx, 3)) (hc : Cond.constant mt.1.cls idx v ∈ am_ws) (kk : am_At X d mt (pc + 3) L (am_I v :: st) h r) : am_At X d mt pc L st h r := by
  intro p l e R s m args below meth c0 H locs cells slots mc ms ls D cy A ad Q hC hX hP hD hS hL h1 h2 z1 z2 hQ
  obtain ⟨hx, htr, hb, hml, hown, hr, hlk, hnm, hex, hts, hG, hA, hRc, hRs, hRf, hRl⟩ := id hC
  exact lv_ldcw hx hb hown (hts _ hc) hd (kk p l e R s m args below meth c0 H locs cells slots mc ms ls D cy A ad Q hC hX hP hD hS hL h1 h2 z1 z2 hQ)
/-- a row's picture hangs on that row's numbers alone -/
theorem am_eM {cy : Nat → ClassId} {ad : Nat → Nat → Nat} {h : am_H} {M : Nat → Nat → Nat → Int32} {c' r' k' n' w' : Nat} (q : am_ok h c' r' k' n' w') (hr : M c' r' = h.2.1 c' r') : am_e cy ad (am_hM h M) c' r' k' n' w' = am_e cy ad h c' r' k' n' w' := by
  unfold am_e am_hM
  by_cases h1 : k' < 13
  · have e0 : r' = 0 := by rcases q.2 with z | z <;> omega
    subst e0
    simp only [h1, if_true]
    refine congrArg (fun z => Sum.inr (k', z)) (List.map_congr_left fun f _ => ?_)
    unfold am_fv
    simp only [hr]
  · simp only [h1, if_false]
    by_cases h2 : r' = 0
    · subst h2
      simp only [hr, if_true]
    · have h3 : k' = 103 := by rcases q.2 with z | z; exact absurd z h2; exact z.1
      subst h3
      simp [h2, hr]
theorem ac_1 : Cond.native arraycopyName ∈ am_ws := am_in 2 229 (by decide +kernel) rfl
theorem ac_2 : Cond.static arraycopyName ∈ am_ws := am_in 2 228 (by decide +kernel) rfl
theorem ac_3 : Cond.initialized "java/lang/System" ∈ am_ws := am_in 1 24 (by decide +kernel) rfl
set_option maxRecDepth 100000 in
theorem am_arith3 {a d rl : Nat} (h : a ≤ 8) (h2 : 64 * d + 256 ≤ rl) : a + (nativeFrameWords "java/lang/System" "arraycopy" 5 + 11) ≤ rl := by
  have : nativeFrameWords "java/lang/System" "arraycopy" 5 ≤ 100 := by decide +kernel
  omega
theorem am_copy {X : am_X} {d : Nat} {mt : am_M} {pc : Nat} {L : List (Option am_V)} {st : List am_V} {h : am_H} {r : am_R} {idx c0 r0 n0 c1 r1 n1 : Nat} {sp dp n : Int32} (hd : decode mt.2.1 pc = .ok (.invokestatic idx, 3)) (hl : Cond.methodLink mt.1.cls idx arraycopyName ∈ am_ws) (g0 : am_ia h c0 r0 n0) (g1 : am_ia h c1 r1 n1) (q1 : ¬ sp < 0) (q2 : ¬ dp < 0) (q3 : ¬ n < 0) (q4 : sp.toNatClampNeg + n.toNatClampNeg ≤ n0) (q5 : dp.toNatClampNeg + n.toNatClampNeg ≤ n1)
    (hst : ∀ ad, ((st.map (am_cv ad)).map fun v => v.category).sum ≤ 8) (kk : am_At X d mt (pc + 3) L st (am_hM h (am_cp h.2.1 c0 r0 sp.toNatClampNeg c1 r1 dp.toNatClampNeg n.toNatClampNeg)) r) : am_At X d mt pc L (am_I n :: am_I dp :: .inr (c1, r1) :: am_I sp :: .inr (c0, r0) :: st) h r := by
  intro p l e R s m args below meth cq H locs cells slots mc ms ls D cy A ad Q hC hX hP hD hS hL h1 h2 z1 z2 hQ
  obtain ⟨hx, htr, hb, hml, hown, hr, hlk, hnm, hex, hts, hG, hA, hRc, hRs, hRf, hRl⟩ := id hC
  have nn : ∀ z : Int32, ¬ z < 0 → z.toInt = (z.toNatClampNeg : Int) := by
    intro z hz
    have hz0 : (0 : Int) ≤ z.toInt := by
      have := Int32.not_lt.mp hz
      simpa using Int32.le_iff_toInt_le.mp this
    show z.toInt = ((z.toInt.toNat : Nat) : Int)
    omega
  obtain ⟨k0, m0, w0, ho0, g0⟩ := g0
  obtain ⟨k1, m1, w1, ho1, g1⟩ := g1
  have hc0 : H[ad c0 r0]? = some (vp_cell (cy 0) (n0, .inl (h.2.1 c0 r0))) := by have := hP c0 r0 k0 m0 w0 ho0; rw [am_ia.e g0] at this; exact this
  have hc1 : H[ad c1 r1]? = some (vp_cell (cy 0) (n1, .inl (h.2.1 c1 r1))) := by have := hP c1 r1 k1 m1 w1 ho1; rw [am_ia.e g1] at this; exact this
  intro T hT Xs
  obtain ⟨-, kk0, hk0, cm0, hkk0⟩ := (hG.1.2 0 _ rfl).1 n0 (fun j => .int (h.2.1 c0 r0 j))
  obtain ⟨-, kk1, hk1, cm1, hkk1⟩ := (hG.1.2 0 _ rfl).1 n1 (fun j => .int (h.2.1 c1 r1 j))
  obtain ⟨vm', X', step⟩ := Xs.arraycopy hx hown (hts _ hl) (hts _ ac_1) (hts _ ac_2) (hts _ ac_3) (src := ad c0 r0) (dst := ad c1 r1) (cs := vp_cell (cy 0) (n0, .inl (h.2.1 c0 r0))) (cd := vp_cell (cy 0) (n1, .inl (h.2.1 c1 r1))) (srcPos := sp) (destPos := dp) (n := n) (by rw [hT]; exact hc0) (by rw [hT]; exact hc1)
    (fun _ h => by cases h) (fun _ h => by cases h) (fun h => by cases h) (fun h => by cases h) hk0 hk1 hkk0 hkk1 (by simp [refKind]) q1 q2 q3
    (by rw [nn sp q1, nn n q3]; show ¬ _ > ((arrV _ n0 (fun j => .int (h.2.1 c0 r0 j))).slots.size : Int); rw [arrV_size]; omega)
    (by rw [nn dp q2, nn n q3]; show ¬ _ > ((arrV _ n1 (fun j => .int (h.2.1 c1 r1 j))).slots.size : Int); rw [arrV_size]; omega)
    (fun vm₁ _ i hi => by
      have e : (vp_cell (cy 0) (n0, .inl (h.2.1 c0 r0))).slots.getD (sp.toNatClampNeg + i) .null = .int (h.2.1 c0 r0 (sp.toNatClampNeg + i)) := by
        show (arrV _ n0 (fun j => .int (h.2.1 c0 r0 j))).slots.getD _ _ = _
        rw [Array.getD_eq_getD_getElem?, arrV_read _ _ (by omega)]
        rfl
      refine ⟨?_, ?_⟩
      · rw [e]
        rfl
      · rw [e]
        exact trivial)
    (g := F0 m pc ls (.int n :: .int dp :: .ref (ad c1 r1) :: .int sp :: .ref (ad c0 r0) :: st.map (am_cv ad))) rfl (by rw [hml]; exact hL.1) (rest := st.map (am_cv ad)) rfl (by rw [hb]; exact hd) (by omega) (by
      have := am_arith3 (hst ad) hRl
      show 2 * 0 + _ + _ ≤ _
      omega)
  have e1 : copied (vp_cell (cy 0) (n0, .inl (h.2.1 c0 r0))) (vp_cell (cy 0) (n1, .inl (h.2.1 c1 r1))) sp dp n = vp_cell (cy 0) (n1, .inl (va_cpy (h.2.1 c0 r0) (h.2.1 c1 r1) sp.toNatClampNeg dp.toNatClampNeg n.toNatClampNeg)) := va_copied (fun z => .int z) (cy 0) (cy 0) (h.2.1 c0 r0) (h.2.1 c1 r1) q4
  rw [e1] at X' step
  have hlt : ad c1 r1 < H.size := (Array.getElem?_eq_some_iff.mp hc1).1
  have oq : ∀ q : Nat, q ≠ ad c1 r1 → (H.setIfInBounds (ad c1 r1) (vp_cell (cy 0) (n1, .inl (va_cpy (h.2.1 c0 r0) (h.2.1 c1 r1) sp.toNatClampNeg dp.toNatClampNeg n.toNatClampNeg))))[q]? = H[q]? := fun q hq => by simp [Array.getElem?_setIfInBounds, Ne.symm hq]
  have hheap : ((T.setVm vm').setCell (ad c1 r1) (vp_cell (cy 0) (n1, .inl (va_cpy (h.2.1 c0 r0) (h.2.1 c1 r1) sp.toNatClampNeg dp.toNatClampNeg n.toNatClampNeg)))).heap = H.setIfInBounds (ad c1 r1) (vp_cell (cy 0) (n1, .inl (va_cpy (h.2.1 c0 r0) (h.2.1 c1 r1) sp.toNatClampNeg dp.toNatClampNeg n.toNatClampNeg))) := by rw [← hT]; rfl
  have hrow : am_cp h.2.1 c0 r0 sp.toNatClampNeg c1 r1 dp.toNatClampNeg n.toNatClampNeg c1 r1 = va_cpy (h.2.1 c0 r0) (h.2.1 c1 r1) sp.toNatClampNeg dp.toNatClampNeg n.toNatClampNeg := by
    funext j
    simp [am_cp, va_cpy]
  have hP1 : am_P D cy ad (am_hM h (am_cp h.2.1 c0 r0 sp.toNatClampNeg c1 r1 dp.toNatClampNeg n.toNatClampNeg)) (H.setIfInBounds (ad c1 r1) (vp_cell (cy 0) (n1, .inl (va_cpy (h.2.1 c0 r0) (h.2.1 c1 r1) sp.toNatClampNeg dp.toNatClampNeg n.toNatClampNeg)))) := by
    refine hP.set hD ho1 rfl (fun c' r' k' n' w' a b => am_eM a ?_) ?_ oq
    · funext j
      unfold am_cp
      rw [if_neg (fun z => b ⟨z.1, z.2.1⟩)]
    · rw [am_ia.e g1]
      show (H.setIfInBounds _ _)[ad c1 r1]? = some (vp_cell _ (n1, .inl (am_cp h.2.1 c0 r0 _ c1 r1 _ _ c1 r1)))
      rw [hrow]
      simp [Array.getElem?_setIfInBounds, hlt]
  obtain ⟨t, a1, b1⟩ := kk p l e R s m args below meth cq _ _ cells slots mc ms ls D cy A ad Q hC hX hP1 (hD.sh rfl) ⟨by simp; exact hS.1, fun q u1 u2 => by
      rw [oq q (fun e => u2 (by rw [e]; exact hD.2 c1 r1 k1 m1 w1 ho1))]
      exact hS.2.1 q u1 u2, fun q hq => by
      rcases List.mem_append.mp hq with h9 | h9
      · exact hS.2.2 q h9
      · obtain ⟨z, -, hz⟩ := List.mem_map.mp h9
        rw [← hz]
        exact hD.2 c1 r1 k1 m1 w1 ho1⟩ hL h1 h2 z1 z2 hQ _ hheap X'
  exact ⟨t, step t a1, b1⟩
set_option maxRecDepth 100000 in
theorem am_arith4 {a d rl : Nat} (h : a ≤ 8) (h2 : 64 * d + 256 ≤ rl) : a + 13 ≤ rl := by omega
theorem am_min {X : am_X} {d : Nat} {mt : am_M} {pc : Nat} {L : List (Option am_V)} {st : List am_V} {h : am_H} {r : am_R} {idx : Nat} {x y : Int32} (hd : decode mt.2.1 pc = .ok (.invokestatic idx, 3)) (hl : Cond.methodLink mt.1.cls idx mJ9_min_7cf53.1 ∈ am_ws) (hst : ∀ ad, ((st.map (am_cv ad)).map fun v => v.category).sum ≤ 8) (kk : am_At X d mt (pc + 3) L (am_I (if y < x then y else x) :: st) h r) : am_At X d mt pc L (am_I y :: am_I x :: st) h r := by
  intro p l e R s m args below meth c0 H locs cells slots mc ms ls D cy A ad Q hC hX hP hD hS hL h1 h2 z1 z2 hQ
  obtain ⟨hx, htr, hb, hml, hown, hr, hlk, hnm, hex, hts, hG, hA, hRc, hRs, hRf, hRl⟩ := id hC
  have h9 := hst ad
  exact va_mmin hx hb (hml.trans hL.1.symm) hown (hts _ hl) (hts _ sm_J9_min_7cf53.2) (hts _ sm_J9_min_7cf53.1.2.1) (hts _ sm_J9_min_7cf53.1.1) (by omega) (am_arith4 (hst ad) hRl) (by omega) (by omega) hd (kk p l e R s m args below meth c0 H locs cells slots mc ms ls D cy A ad Q hC hX hP hD hS hL h1 h2 z1 z2 hQ)
theorem am_max {X : am_X} {d : Nat} {mt : am_M} {pc : Nat} {L : List (Option am_V)} {st : List am_V} {h : am_H} {r : am_R} {idx : Nat} {x y : Int32} (hd : decode mt.2.1 pc = .ok (.invokestatic idx, 3)) (hl : Cond.methodLink mt.1.cls idx mJ9_max_7cf53.1 ∈ am_ws) (hst : ∀ ad, ((st.map (am_cv ad)).map fun v => v.category).sum ≤ 8) (kk : am_At X d mt (pc + 3) L (am_I (if x < y then y else x) :: st) h r) : am_At X d mt pc L (am_I y :: am_I x :: st) h r := by
  intro p l e R s m args below meth c0 H locs cells slots mc ms ls D cy A ad Q hC hX hP hD hS hL h1 h2 z1 z2 hQ
  obtain ⟨hx, htr, hb, hml, hown, hr, hlk, hnm, hex, hts, hG, hA, hRc, hRs, hRf, hRl⟩ := id hC
  have h9 := hst ad
  exact va_mmax hx hb (hml.trans hL.1.symm) hown (hts _ hl) (hts _ sm_J9_max_7cf53.2) (hts _ sm_J9_max_7cf53.1.2.1) (hts _ sm_J9_max_7cf53.1.1) (by omega) (am_arith4 (hst ad) hRl) (by omega) (by omega) hd (kk p l e R s m args below meth c0 H locs cells slots mc ms ls D cy A ad Q hC hX hP hD hS hL h1 h2 z1 z2 hQ)
theorem am_abs {X : am_X} {d : Nat} {mt : am_M} {pc : Nat} {L : List (Option am_V)} {st : List am_V} {h : am_H} {r : am_R} {idx : Nat} {x : Int32} (hd : decode mt.2.1 pc = .ok (.invokestatic idx, 3)) (hl : Cond.methodLink mt.1.cls idx mJ9_abs_0f7a4.1 ∈ am_ws) (hst : ∀ ad, ((st.map (am_cv ad)).map fun v => v.category).sum ≤ 8) (kk : am_At X d mt (pc + 3) L (am_I (if 0 ≤ x then x else 0 - x) :: st) h r) : am_At X d mt pc L (am_I x :: st) h r := by
  intro p l e R s m args below meth c0 H locs cells slots mc ms ls D cy A ad Q hC hX hP hD hS hL h1 h2 z1 z2 hQ
  obtain ⟨hx, htr, hb, hml, hown, hr, hlk, hnm, hex, hts, hG, hA, hRc, hRs, hRf, hRl⟩ := id hC
  have h9 := hst ad
  exact va_mabs hx hb (hml.trans hL.1.symm) hown (hts _ hl) (hts _ sm_J9_abs_0f7a4.2) (hts _ sm_J9_abs_0f7a4.1.2.1) (hts _ sm_J9_abs_0f7a4.1.1) (by omega) (am_arith4 (hst ad) hRl) (by omega) (by omega) hd (kk p l e R s m args below meth c0 H locs cells slots mc ms ls D cy A ad Q hC hX hP hD hS hL h1 h2 z1 z2 hQ)
theorem ml_X8_21 : Cond.methodLink RX8 21 arraycopyName ∈ am_ws := am_in 2 227 (by decide +kernel) rfl
theorem kc_J6_265 : Cond.constant RJ6 265 (1431655765) ∈ am_ws := am_in 3 24 (by decide +kernel) rfl
theorem kc_J6_266 : Cond.constant RJ6 266 (858993459) ∈ am_ws := am_in 3 25 (by decide +kernel) rfl
theorem kc_J6_267 : Cond.constant RJ6 267 (252645135) ∈ am_ws := am_in 3 26 (by decide +kernel) rfl
theorem ml_X7_40 : Cond.methodLink RX7 40 arraycopyName ∈ am_ws := am_in 3 35 (by decide +kernel) rfl
theorem kc_X10_60 : Cond.constant RX10 60 (1000000) ∈ am_ws := am_in 4 1 (by decide +kernel) rfl
theorem ml_X1_55 : Cond.methodLink RX1 55 arraycopyName ∈ am_ws := am_in 4 27 (by decide +kernel) rfl
theorem ml_X0_54 : Cond.methodLink RX0 54 arraycopyName ∈ am_ws := am_in 6 99 (by decide +kernel) rfl
theorem kc_X6_116 : Cond.constant RX6 116 (1103515245) ∈ am_ws := am_in 6 177 (by decide +kernel) rfl
theorem kc_X12_136 : Cond.constant RX12 136 (100000) ∈ am_ws := am_in 7 221 (by decide +kernel) rfl
theorem kc_X12_375 : Cond.constant RX12 375 (1103515245) ∈ am_ws := am_in 9 49 (by decide +kernel) rfl
