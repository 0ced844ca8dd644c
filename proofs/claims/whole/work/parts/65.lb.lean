/-! THE LAW'S BODY: its script lies in an old cell, ad 3000 0 -/
def am_XS (n : Nat) (scr : Nat → Int32) : am_X := fun ad A s => (∃ cell : Cell, s.heap[ad 3000 0]? = some cell ∧ s.isArrayOf cell .int ∧ cell.vm ≠ .unknown ∧ cell.slots.size = n ∧ ∀ j, j < n → cell.slots[j]? = some (.int (scr j))) ∧ ¬ A (ad 3000 0) ∧ lw_Nc s
theorem am_XS.st {n : Nat} {scr : Nat → Int32} : am_Xst (am_XS n scr) := by
  intro ad ad1 A s h hx
  unfold am_XS at hx ⊢
  rw [h 3000 0 (by decide)]
  exact hx
def rdI (n : Nat) (j : Int32) (q : Nat) : Prop := j.toNatClampNeg = q ∧ ¬ j < 0 ∧ q < n
section
variable {tb : am_Tb} {Po : am_Po} {X : am_X} {d : Nat} {mt : am_M} {pc : Nat} {L : List (Option am_V)} {st : List am_V} {r : Nat × Nat} {h : am_H}
theorem gm_sald {n : Nat} {scr : Nat → Int32} {j : Int32} (q : Nat) (hd : decode mt.2.1 pc = .ok (.iaload, 1)) (hj : rdI n j q) (kk : am_AtG tb Po (am_XS n scr) d mt (pc + 1) L (am_I (scr q) :: st) h r) : am_AtG tb Po (am_XS n scr) d mt pc L (am_I j :: .inr (3000, 0) :: st) h r := by
  intro p l e R s m args below meth c0 H locs cells slots mc ms ls D cy A ad Q hC hX hP hD hS hL h1 h2 z1 z2 hQ
  obtain ⟨⟨cell, hcell, harr, hvm, hsz, hval⟩, hA', hN⟩ := id hX
  have hlt : ad 3000 0 < s.heap.size := (Array.getElem?_eq_some_iff.mp hcell).1
  have hcH : H[ad 3000 0]? = some cell := (hS.2.1 _ hlt hA').trans hcell
  obtain ⟨j1, j2, j3⟩ := hj
  refine W.iald hC.1 hC.2.2.1 hcH harr hvm ?_ (v := .int (scr q)) ?_ rfl rfl hd (kk p l e R s m args below meth c0 H locs cells slots mc ms ls D cy A ad Q hC hX hP hD hS hL h1 h2 z1 z2 hQ)
  · rw [hsz, j1]
    intro z
    rcases z with z | z
    · exact j2 z
    · omega
  · rw [j1]
    exact hval q j3
theorem gm_slen {n : Nat} {scr : Nat → Int32} {v : Int32} (hd : decode mt.2.1 pc = .ok (.arraylength, 1)) (hv : n.toInt32 = v) (kk : am_AtG tb Po (am_XS n scr) d mt (pc + 1) L (am_I v :: st) h r) : am_AtG tb Po (am_XS n scr) d mt pc L (.inr (3000, 0) :: st) h r := by
  intro p l e R s m args below meth c0 H locs cells slots mc ms ls D cy A ad Q hC hX hP hD hS hL h1 h2 z1 z2 hQ
  obtain ⟨⟨cell, hcell, harr, hvm, hsz, hval⟩, hA', hN⟩ := id hX
  have hlt : ad 3000 0 < s.heap.size := (Array.getElem?_eq_some_iff.mp hcell).1
  have hcH : H[ad 3000 0]? = some cell := (hS.2.1 _ hlt hA').trans hcell
  exact W.alen hC.1 hC.2.2.1 hcH harr (by rw [hsz]; exact hv) rfl rfl hd (kk p l e R s m args below meth c0 H locs cells slots mc ms ls D cy A ad Q hC hX hP hD hS hL h1 h2 z1 z2 hQ)
theorem gm_drop (i : Nat) (k : am_AtG tb Po X d mt pc (L.set i none) st h r) : am_AtG tb Po X d mt pc L st h r := by
  intro p l e R s m args below meth c H locs cells slots mc ms ls D cy A ad Q hC hX hP hD hS hL h1 h2 z1 z2 hQ
  refine k p l e R s m args below meth c H locs cells slots mc ms ls D cy A ad Q hC hX hP hD hS ⟨hL.1, hL.2.1, by rw [List.length_set]; exact hL.2.2.1, fun j v hj => hL.2.2.2 j v ?_⟩ h1 h2 z1 z2 hQ
  by_cases hij : j = i
  · subst hij
    have hl : j < L.length := by
      have := (List.getElem?_eq_some_iff.mp hj).1
      rw [List.length_set] at this
      exact this
    rw [List.getElem?_set_self hl] at hj
    cases hj
  · rw [List.getElem?_set_ne (Ne.symm hij)] at hj
    exact hj
end
section
variable {tb : am_Tb} {Po : am_Po} {X : am_X} {d : Nat} {mt : am_M} {pc : Nat} {L : List (Option am_V)} {st : List am_V} {r : Nat × Nat} {n N : Nat} {R : List (Nat × Nat × Nat)} {M : Mem}
theorem hg_new {idx : Nat} (k l : Nat) (hX : am_Xst X) (hPo : ∀ D cy A ad ad1, Po D cy A ad = Po D cy A ad1) (hr : ncS N ≤ r.1 ∧ nsS N ≤ r.2) (hZ : am_Z n M) (hd : decode mt.2.1 pc = .ok (.new idx, 3)) (g : am_nd mt.1.cls idx k l) (hk : k ≠ 103) (hq : am_SH[n]? = some (k, l, 0)) (hb : (Nat.ble (n + 1) N && Nat.ble N 83 && bR n R && bL (bvn n) L && st.all (bvn n)) = true) (kk : am_AtG tb Po X d mt (pc + 3) L (.inr (n, 0) :: st) (HB (n + 1) R M) r) : am_AtG tb Po X d mt pc L st (HB n R M) r := by
  simp only [Bool.and_eq_true, Nat.ble_eq] at hb
  obtain ⟨⟨⟨⟨b1, b2⟩, b3⟩, b4⟩, b5⟩ := hb
  have hl : (HB n R M).1.length = n := HB.len (by omega)
  have c1 := ncS.s hq
  have c2 := nsS.s hq
  have c3 := ncS.le b1
  have c4 := nsS.le b1
  have c5 : am_c1 (k, l, 0) = 1 := by simp [am_c1, hk]
  have c6 : am_s1 (k, l, 0) = l := by simp [am_s1, hk]
  refine gm_new hPo k l hd g ?_ ?_ ?_ ?_ ?_ ?_ ?_ ?_ ?_ ?_
  · rw [hl]; exact fun f => hZ n 0 f (Nat.le_refl _)
  · rw [hl]; exact fun f => bR.s b3 f
  · omega
  · rw [hl]; exact fun c f => bR.t b3 c f
  · intro ad A s a hx
    exact hX _ _ _ _ (fun c r hc => am_ad.o (by omega)) hx
  · rw [hl]; exact bL.o b4
  · rw [hl]; exact bL.os b5
  · show ncS n + 1 ≤ _
    exact Nat.le_trans (by omega) hr.1
  · show nsS n + l ≤ _
    exact Nat.le_trans (by omega) hr.2
  · rw [hl, HB.hN hq]
    exact kk
theorem hg_newl {x : Int32} (l : Nat) (hX : am_Xst X) (hPo : ∀ D cy A ad ad1, Po D cy A ad = Po D cy A ad1) (hr : ncS N ≤ r.1 ∧ nsS N ≤ r.2) (hZ : am_Z n M) (hd : decode mt.2.1 pc = .ok (.newarray .long, 2)) (hx : (decide (0 ≤ x) && x.toNatClampNeg == l && Nat.ble l 10000) = true) (harr : Cond.arrayClass .long ∈ am_ws) (hq : am_SH[n]? = some (102, l, 0)) (hb : (Nat.ble (n + 1) N && Nat.ble N 83 && bR n R && bL (bvn n) L && st.all (bvn n)) = true) (kk : am_AtG tb Po X d mt (pc + 2) L (.inr (n, 0) :: st) (HB (n + 1) R M) r) : am_AtG tb Po X d mt pc L (am_I x :: st) (HB n R M) r := by
  simp only [Bool.and_eq_true, Nat.ble_eq, decide_eq_true_eq, beq_iff_eq] at hb hx
  obtain ⟨⟨⟨⟨b1, b2⟩, b3⟩, b4⟩, b5⟩ := hb
  have hl : (HB n R M).1.length = n := HB.len (by omega)
  have c1 := ncS.s hq
  have c2 := nsS.s hq
  have c3 := ncS.le b1
  have c4 := nsS.le b1
  have c5 : am_c1 (102, l, 0) = 1 := rfl
  have c6 : am_s1 (102, l, 0) = l := rfl
  refine gm_newl hPo l hd ?_ hx.1.2 ?_ harr ?_ ?_ ?_ ?_ ?_ ?_ ?_ ?_ ?_
  · have := hx.1.1
    simpa using this
  · have : componentBytes .long = 8 := rfl
    rw [this]
    have := hx.2
    omega
  · rw [hl]; exact fun f => bR.s b3 f
  · omega
  · rw [hl]; exact fun c f => bR.t b3 c f
  · intro ad A s a hx
    exact hX _ _ _ _ (fun c r hc => am_ad.o (by omega)) hx
  · rw [hl]; exact bL.o b4
  · rw [hl]; exact bL.os b5
  · show ncS n + 1 ≤ _
    exact Nat.le_trans (by omega) hr.1
  · show nsS n + l ≤ _
    exact Nat.le_trans (by omega) hr.2
  · rw [hl, HB.hN hq]
    exact kk
theorem hg_callI {idx c nA d1 n1 : Nat} {y : am_M} (as : List am_V) {stk : List am_V} {R1 : List (Nat × Nat × Nat)} {M1 : Mem} (hX : am_Xst X) (hPo : ∀ D cy A ad ad1, Po D cy A ad = Po D cy A ad1) (hr : ncS N ≤ r.1 ∧ nsS N ≤ r.2) (hd : decode mt.2.1 pc = .ok (.invokespecial idx, 3)) (hl : Cond.methodLink mt.1.cls idx y.1 ∈ am_ws) (g : am_im y nA) (hret : y.2.2.2 = none) (hn : as.length = nA) (hst : ∀ ad, ((st.map (am_cv ad)).map fun v => v.category).sum ≤ 8) (hd1 : d1 + 1 ≤ d) (hk : stk = as.reverse ++ .inr (c, 0) :: st) (E : am_Ev d1 y (.inr (c, 0) :: as) (HB n R M) (.inl (none, HB n1 R1 M1))) (hb : (Nat.ble n n1 && Nat.ble n1 N && Nat.ble N 83 && bL (bvl n) L && st.all (bvl n)) = true) (kk : am_AtG tb Po X d mt (pc + 3) L st (HB n1 R1 M1) r) : am_AtG tb Po X d mt pc L stk (HB n R M) r := by
  simp only [Bool.and_eq_true, Nat.ble_eq] at hb
  obtain ⟨⟨⟨⟨b0, b1⟩, b2⟩, b4⟩, b5⟩ := hb
  have hl1 : (HB n R M).1.length = n := HB.len (by omega)
  refine gm_callI hPo as hd hl g.1 g.2.1 g.2.2 hret hn hst hd1 hk E ?_ (bL.l hl1 b4) (bL.ls hl1 b5) (ncS.le b0) (nsS.le b0) (Nat.le_trans (ncS.le b1) hr.1) (Nat.le_trans (nsS.le b1) hr.2) kk
  intro ad ad1 A s ha hx
  exact hX _ _ _ _ (fun c r hc => ha.2.2 c r (Or.inr hc)) hx
end
/-- the law says true -/
def lawPo : am_Po := fun _ _ _ _ _ _ o _ => o = .returned (some (.int 1))
theorem lawPo.c : ∀ D cy A ad ad1, lawPo D cy A ad = lawPo D cy A ad1 := fun _ _ _ _ _ => rfl
/-- which heaps the loop meets -/
def LH (qc qd qs qn : Nat) (h : am_H) : Prop := lay h ∧ (h.2.2 23 0 = some qc ∧ h.2.2 23 2 = some qd) ∧ (h.2.2 45 1 = some qs ∧ h.2.2 45 2 = some qn)
theorem am_ur.ne {h : am_H} {c f c' f' : Nat} {t : Option Nat} (z : ¬ (c' = c ∧ f' = f)) : (am_ur h c f t).2.2 c' f' = h.2.2 c' f' := if_neg z
theorem am_ur.eq {h : am_H} {c f : Nat} {t : Option Nat} : (am_ur h c f t).2.2 c f = t := if_pos ⟨rfl, rfl⟩
theorem LH.out {qc qd qs qn : Nat} {h : am_H} {t : Option Nat} (g : LH qc qd qs qn h) : LH qc qd qs qn (am_ur h 82 0 t) := by
  obtain ⟨⟨g1, g2⟩, g3, g4⟩ := g
  have z : ∀ q ∈ am_RF, ¬ (q.1 = 82 ∧ q.2.1 = 0) := by decide
  exact ⟨⟨g1, fun q hq => (am_ur.ne (z q hq)).trans (g2 q hq)⟩, ⟨(am_ur.ne (by decide)).trans g3.1, (am_ur.ne (by decide)).trans g3.2⟩, ⟨(am_ur.ne (by decide)).trans g4.1, (am_ur.ne (by decide)).trans g4.2⟩⟩
theorem LH.nc {qc qd qs qn : Nat} {h : am_H} {M : Mem} (g : LH qc qd qs qn h) : am_nc (am_hM h M) = ncS 83 := by
  show (h.1.map am_c1).sum = _
  rw [g.1.1]; rfl
theorem LH.ns {qc qd qs qn : Nat} {h : am_H} {M : Mem} (g : LH qc qd qs qn h) : am_ns (am_hM h M) = nsS 83 := by
  show (h.1.map am_s1).sum = _
  rw [g.1.1]; rfl
theorem LH.o82 {h : am_H} {M : Mem} {t : Option Nat} : am_ur (am_hM h M) 82 0 t = am_hM (am_ur h 82 0 t) M := rfl
abbrev mLW : am_M := (x, code, maxLocals, some .boolean)

