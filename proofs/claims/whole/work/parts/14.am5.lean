
/-- a static method -/
def am_sm (y : am_M) (n : Nat) : Prop := am_md y n ∧ Cond.static y.1 ∈ am_ws
theorem am_cn {R : Room} {s : State} {args : Array Value} {own host : String} {idx n d d1 mc1 ms1 : Nat} {y : am_M} (hts : ∀ w ∈ am_ws, w.before args s = true) (hnw : ∀ w ∈ am_nw, va_Nw w s) (g : am_md y n) (hl : Cond.methodLinkNest own idx y.1 host ∈ am_nw) (hRf : d + 8 ≤ R.frames) (hRl : 64 * d + 256 ≤ R.locals) (hd : d1 + 1 ≤ d) :
    va_CN R s args own idx y.1 host y.2.1 y.2.2.1 y.2.2.2 (Cond.code y.1 y.2.1 y.2.2.1 y.2.2.2 :: am_ws) { frames := d1 + 8, cells := mc1, slots := ms1, locals := 64 * d1 + 256 } mc1 ms1 n := by
  obtain ⟨g1, g2, g3, g4⟩ := g
  have hf : d1 + 8 + 1 ≤ R.frames := by omega
  have hq : 8 + (y.2.2.1 + 11) + (64 * d1 + 256) ≤ R.locals := am_arith g4 hRl hd
  exact va_cnB n hts (am_goodc g1) rfl rfl rfl (hnw _ hl) (hts _ g2) g3 ⟨hf, hq⟩
theorem am_callV {X : am_X} {d : Nat} {mt : am_M} {pc : Nat} {L : List (Option am_V)} {st : List am_V} {h : am_H} {r : am_R} {idx c k n w nA d1 : Nat} {y : am_M} (as : List am_V) {stk : List am_V} {v : Option am_V} {h1 : am_H} (hd : decode mt.2.1 pc = .ok (.invokevirtual idx, 3)) (hl : Cond.methodLink mt.1.cls idx y.1 ∈ am_ws) (g : am_vm y k nA) (hs : h.1[c]? = some (k, n, w)) (hn : as.length = nA) (hst : ∀ ad, ((st.map (am_cv ad)).map fun v => v.category).sum ≤ 8) (hd1 : d1 + 1 ≤ d) (hk : stk = as.reverse ++ .inr (c, 0) :: st) (E : am_Ev d1 y (.inr (c, 0) :: as) h (.inl (v, h1))) (hsh : h1.1 = h.1) (kk : am_At X d mt (pc + 3) L (v.toList ++ st) h1 r) : am_At X d mt pc L stk h r := by
  intro p l e R s m args below meth c0 H locs cells slots mc ms ls D cy A ad Q hC hX hP hD hS hL h1' h2' z1 z2 hQ
  subst hk
  obtain ⟨hx, htr, hb, hml, hown, hr, hlk, hnm, hex, hts, hG, hA, hRc, hRs, hRf, hRl⟩ := id hC
  have e1 : am_rc (.inl (v, h1)) - am_nc h = 0 := by show am_nc h1 - am_nc h = 0; unfold am_nc; rw [hsh]; omega
  have e2 : am_rs (.inl (v, h1)) - am_ns h = 0 := by show am_ns h1 - am_ns h = 0; unfold am_ns; rw [hsh]; omega
  have hrc : cells ≤ mc := by omega
  have hrs : slots ≤ ms := by omega
  refine am_after (h := h) (r1 := (.inl (v, h1))) (vx_runV (As := as.map (am_cv ad)) (rest := st.map (am_cv ad)) (b := ad c 0) (C := g.2.2.2.choose.1) ⟨hx, hb, hml, hown, hts⟩ (E l htr D cy ad H.size) ⟨am_cb (d := d) hts g.1 hl hRf hRl hd1, hts _ g.2.1, by rw [g.2.2.2.choose_spec.2]; exact hts _ g.2.2.1⟩ ⟨am_blind, am_recv hP hG.1 hs g.2.2.2.choose_spec.1, am_pre (av := .ref (ad c 0) :: as.map (am_cv ad)) hP hD hA hS hG⟩ rfl (by simpa using hn) hL.1 (by simp [am_cv]) (lv_room (hst ad)) hd ⟨by rw [e1, hRc]; exact hrc, by rw [e2, hRs]; exact hrs⟩) (am_AB hD hA hS) hS ?_ ?_
  · intro E1 h9 ad1 H1 locs1 q9 ce z
    cases z
  · intro v9 h9 ad1 H1 locs1 z hag hP1 hD1 hS1
    cases z
    have ead : ad1 = ad := hag.2.1 (by rw [hsh])
    subst ead
    rw [e1, e2]
    have hn1 : am_nc h1 = am_nc h := by unfold am_nc; rw [hsh]
    have hn2 : am_ns h1 = am_ns h := by unfold am_ns; rw [hsh]
    have := kk p l e R s m args below meth c0 H1 locs1 (cells + 0) (slots + 0) mc ms ls D cy A ad1 Q hC hX hP1 hD1 hS1 hL (by rw [hn1]; exact h1') (by rw [hn2]; exact h2') (by rw [hn1]; exact z1) (by rw [hn2]; exact z2) (fun t ht => hQ t (am_MQ hag ht))
    cases v <;> exact this
theorem am_callVX {X : am_X} {d : Nat} {mt : am_M} {pc : Nat} {L : List (Option am_V)} {st : List am_V} {h : am_H} {idx c k n w nA d1 : Nat} {y : am_M} (as : List am_V) {stk : List am_V} {Ex : String} {h1 : am_H} (hd : decode mt.2.1 pc = .ok (.invokevirtual idx, 3)) (hl : Cond.methodLink mt.1.cls idx y.1 ∈ am_ws) (g : am_vm y k nA) (hs : h.1[c]? = some (k, n, w)) (hn : as.length = nA) (hst : ∀ ad, ((st.map (am_cv ad)).map fun v => v.category).sum ≤ 8) (hd1 : d1 + 1 ≤ d) (hk : stk = as.reverse ++ .inr (c, 0) :: st) (E : am_Ev d1 y (.inr (c, 0) :: as) h (.inr (Ex, h1))) (hsh : h1.1 = h.1) : am_At X d mt pc L stk h (.inr (Ex, h1)) := by
  intro p l e R s m args below meth c0 H locs cells slots mc ms ls D cy A ad Q hC hX hP hD hS hL h1' h2' z1 z2 hQ
  subst hk
  obtain ⟨hx, htr, hb, hml, hown, hr, hlk, hnm, hex, hts, hG, hA, hRc, hRs, hRf, hRl⟩ := id hC
  have n1 : am_nc h1 = am_nc h := by unfold am_nc; rw [hsh]
  have n2 : am_ns h1 = am_ns h := by unfold am_ns; rw [hsh]
  have e1 : am_rc (.inr (Ex, h1)) - am_nc h = 1 := by show am_nc h1 + 1 - am_nc h = 1; omega
  have e2 : am_rs (.inr (Ex, h1)) - am_ns h = 6 := by show am_ns h1 + 6 - am_ns h = 6; omega
  have h1' : cells + (am_nc h1 + 1) ≤ mc + am_nc h := h1'
  have h2' : slots + (am_ns h1 + 6) ≤ ms + am_ns h := h2'
  have hrc : cells + 1 ≤ mc := by omega
  have hrs : slots + 6 ≤ ms := by omega
  refine am_after (h := h) (r1 := (.inr (Ex, h1))) (vx_runV (As := as.map (am_cv ad)) (rest := st.map (am_cv ad)) (b := ad c 0) (C := g.2.2.2.choose.1) ⟨hx, hb, hml, hown, hts⟩ (E l htr D cy ad H.size) ⟨am_cb (d := d) hts g.1 hl hRf hRl hd1, hts _ g.2.1, by rw [g.2.2.2.choose_spec.2]; exact hts _ g.2.2.1⟩ ⟨am_blind, am_recv hP hG.1 hs g.2.2.2.choose_spec.1, am_pre (av := .ref (ad c 0) :: as.map (am_cv ad)) hP hD hA hS hG⟩ rfl (by simpa using hn) hL.1 (by simp [am_cv]) (lv_room (hst ad)) hd ⟨by rw [e1, hRc]; exact hrc, by rw [e2, hRs]; exact hrs⟩) (am_AB hD hA hS) hS ?_ ?_
  · intro E1 h9 ad1 H1 locs1 q9 ce z hag hP1 hD1 hS1 hce hcv hcl
    cases z
    rw [e1, e2]
    exact am_monoX (vx_out (XC := am_XC (.inr (Ex, h1)) D cy A ad h) (fun x hx9 => (hex x hx9).elim) hlk hce hcv hcl (fun t ht hal => ⟨⟨h1, ad1, rfl, hag, by rw [ht]; exact hP1, hD1⟩, hS1.F ht⟩) hS1.2.2 hrc hrs) hQ
  · intro v9 h9 ad1 H1 locs1 z
    cases z
theorem am_callS {X : am_X} {d : Nat} {mt : am_M} {pc : Nat} {L : List (Option am_V)} {st : List am_V} {h : am_H} {r : am_R} {idx c k n w nA d1 : Nat} {y : am_M} (as : List am_V) {stk : List am_V} {v : Option am_V} {h1 : am_H} (hd : decode mt.2.1 pc = .ok (.invokestatic idx, 3)) (hl : Cond.methodLink mt.1.cls idx y.1 ∈ am_ws) (g : am_sm y nA) (hn : as.length = nA) (hst : ∀ ad, ((st.map (am_cv ad)).map fun v => v.category).sum ≤ 8) (hd1 : d1 + 1 ≤ d) (hk : stk = as.reverse ++ st) (E : am_Ev d1 y as h (.inl (v, h1))) (hsh : h1.1 = h.1) (kk : am_At X d mt (pc + 3) L (v.toList ++ st) h1 r) : am_At X d mt pc L stk h r := by
  intro p l e R s m args below meth c0 H locs cells slots mc ms ls D cy A ad Q hC hX hP hD hS hL h1' h2' z1 z2 hQ
  subst hk
  obtain ⟨hx, htr, hb, hml, hown, hr, hlk, hnm, hex, hts, hG, hA, hRc, hRs, hRf, hRl⟩ := id hC
  have e1 : am_rc (.inl (v, h1)) - am_nc h = 0 := by show am_nc h1 - am_nc h = 0; unfold am_nc; rw [hsh]; omega
  have e2 : am_rs (.inl (v, h1)) - am_ns h = 0 := by show am_ns h1 - am_ns h = 0; unfold am_ns; rw [hsh]; omega
  have hrc : cells ≤ mc := by omega
  have hrs : slots ≤ ms := by omega
  refine am_after (h := h) (r1 := (.inl (v, h1))) (vx_runS (As := as.map (am_cv ad)) (rest := st.map (am_cv ad)) ⟨hx, hb, hml, hown, hts⟩ (E l htr D cy ad H.size) ⟨am_cb (d := d) hts g.1 hl hRf hRl hd1, hts _ g.2⟩ ⟨am_blind, am_pre (av := as.map (am_cv ad)) hP hD hA hS hG⟩ rfl (by simpa using hn) hL.1 (by simp [am_cv]) (lv_room (hst ad)) hd ⟨by rw [e1, hRc]; exact hrc, by rw [e2, hRs]; exact hrs⟩) (am_AB hD hA hS) hS ?_ ?_
  · intro E1 h9 ad1 H1 locs1 q9 ce z
    cases z
  · intro v9 h9 ad1 H1 locs1 z hag hP1 hD1 hS1
    cases z
    have ead : ad1 = ad := hag.2.1 (by rw [hsh])
    subst ead
    rw [e1, e2]
    have hn1 : am_nc h1 = am_nc h := by unfold am_nc; rw [hsh]
    have hn2 : am_ns h1 = am_ns h := by unfold am_ns; rw [hsh]
    have := kk p l e R s m args below meth c0 H1 locs1 (cells + 0) (slots + 0) mc ms ls D cy A ad1 Q hC hX hP1 hD1 hS1 hL (by rw [hn1]; exact h1') (by rw [hn2]; exact h2') (by rw [hn1]; exact z1) (by rw [hn2]; exact z2) (fun t ht => hQ t (am_MQ hag ht))
    cases v <;> exact this
theorem am_callSN {X : am_X} {d : Nat} {mt : am_M} {pc : Nat} {L : List (Option am_V)} {st : List am_V} {h : am_H} {r : am_R} {idx c k n w nA d1 : Nat} {y : am_M} (as : List am_V) {stk : List am_V} {v : Option am_V} {h1 : am_H} {host : String} (hd : decode mt.2.1 pc = .ok (.invokestatic idx, 3)) (hl : Cond.methodLinkNest mt.1.cls idx y.1 host ∈ am_nw) (g : am_sm y nA) (hn : as.length = nA) (hst : ∀ ad, ((st.map (am_cv ad)).map fun v => v.category).sum ≤ 8) (hd1 : d1 + 1 ≤ d) (hk : stk = as.reverse ++ st) (E : am_Ev d1 y as h (.inl (v, h1))) (hsh : h1.1 = h.1) (kk : am_At X d mt (pc + 3) L (v.toList ++ st) h1 r) : am_At X d mt pc L stk h r := by
  intro p l e R s m args below meth c0 H locs cells slots mc ms ls D cy A ad Q hC hX hP hD hS hL h1' h2' z1 z2 hQ
  subst hk
  obtain ⟨hx, htr, hb, hml, hown, hr, hlk, hnm, hex, hts, hG, hA, hRc, hRs, hRf, hRl⟩ := id hC
  have e1 : am_rc (.inl (v, h1)) - am_nc h = 0 := by show am_nc h1 - am_nc h = 0; unfold am_nc; rw [hsh]; omega
  have e2 : am_rs (.inl (v, h1)) - am_ns h = 0 := by show am_ns h1 - am_ns h = 0; unfold am_ns; rw [hsh]; omega
  have hrc : cells ≤ mc := by omega
  have hrs : slots ≤ ms := by omega
  refine am_after (h := h) (r1 := (.inl (v, h1))) (am_run (va_runSN (As := as.map (am_cv ad)) (rest := st.map (am_cv ad)) ⟨hx, hb, hml, hown, hts⟩ (E.met l htr D cy ad H.size) ⟨am_cn (d := d) hts hG.2.1 g.1 hl hRf hRl hd1, hts _ g.2, trivial⟩ ⟨am_blind, am_pre (av := as.map (am_cv ad)) hP hD hA hS hG⟩ rfl (by simpa using hn) hL.1 (by simp [am_cv]) (lv_room (hst ad)) hd ⟨by rw [e1, hRc]; exact hrc, by rw [e2, hRs]; exact hrs⟩)) (am_AB hD hA hS) hS ?_ ?_
  · intro E1 h9 ad1 H1 locs1 q9 ce z
    cases z
  · intro v9 h9 ad1 H1 locs1 z hag hP1 hD1 hS1
    cases z
    have ead : ad1 = ad := hag.2.1 (by rw [hsh])
    subst ead
    rw [e1, e2]
    have hn1 : am_nc h1 = am_nc h := by unfold am_nc; rw [hsh]
    have hn2 : am_ns h1 = am_ns h := by unfold am_ns; rw [hsh]
    have := kk p l e R s m args below meth c0 H1 locs1 (cells + 0) (slots + 0) mc ms ls D cy A ad1 Q hC hX hP1 hD1 hS1 hL (by rw [hn1]; exact h1') (by rw [hn2]; exact h2') (by rw [hn1]; exact z1) (by rw [hn2]; exact z2) (fun t ht => hQ t (am_MQ hag ht))
    cases v <;> exact this

set_option maxRecDepth 100000 in
theorem am_arith2 {a d rl : Nat} (h : a ≤ 3) (h2 : 64 * d + 256 ≤ rl) : (([] : List Value).map fun v => v.category).sum + (13 * (a + 1) + 43) ≤ rl := by simp; omega
/-- 'throw new E("text")' -/
theorem am_throw {X : am_X} {d : Nat} {mt : am_M} {pc : Nat} {L : List (Option am_V)} {st : List am_V} {h : am_H} {ik is ic k9 : Nat} {Ex text : String} {names : List String} (d0 : decode mt.2.1 pc = .ok (.new ik, 3)) (d3 : decode mt.2.1 (pc + 3) = .ok (.dup, 1)) (d4 : decode mt.2.1 (pc + 4) = .ok (.ldc_w is, 3)) (d7 : decode mt.2.1 (pc + 7) = .ok (.invokespecial ic, 3)) (d10 : decode mt.2.1 (pc + 10) = .ok (.athrow, 1))
    (hcls : Bundle.fit Ex = true) (hnames : ∀ n ∈ names, Bundle.fit n = true) (hnl : names.length ≤ 3) (hk : Cond.classLink mt.1.cls ik Ex ∈ am_ws) (hini : Cond.initialized Ex ∈ am_ws) (hq : (mt.1.cls, is, text, k9) ∈ am_Srefs)
    (hg1 : ∀ w ∈ (vx_atS mt.1.cls ic Ex names).filter goodWord, w ∈ am_ws) (hg2 : ∀ w ∈ (vx_atS mt.1.cls ic Ex names).filter (fun w => !goodWord w), w ∈ am_nw ∧ w.onTables = true) (hgood : ∀ w ∈ Cond.classLink mt.1.cls ik Ex :: Cond.initialized Ex :: vx_atS mt.1.cls ic Ex names, vx_ot w = true) :
    am_At X d mt pc L [] h (.inr (Ex, h)) := by
  intro p l e R s m args below meth c0 H locs cells slots mc ms ls D cy A ad Q hC hX hP hD hS hL h1 h2 z1 z2 hQ
  obtain ⟨hx, htr, hb, hml, hown, hr, hlk, hnm, hex, hts, hG, hA, hRc, hRs, hRf, hRl⟩ := id hC
  have h1 : cells + (am_nc h + 1) ≤ mc + am_nc h := h1
  have h2 : slots + (am_ns h + 6) ≤ ms + am_ns h := h2
  have hat : ∀ w ∈ vx_atS mt.1.cls ic Ex names, w.before args s = true := vx_hat (B := (vx_atS mt.1.cls ic Ex names).filter (fun w => !goodWord w)) (fun w hw => hts w (hg1 w hw)) (fun w hw => hw) (fun w hw => va_Nw.use (hg2 w hw).2 (hG.2.1 w (hg2 w hw).1))
  exact am_mono (vx_throwSW (XC := am_XC (.inr (Ex, h)) D cy A ad h) hx hb htr hown hcls hnames (hts _ hk) (hts _ hini) (hG.2.2.2.2.2.1 _ hq) hat hgood hG.2.2.1 hG.2.2.2.1 hS (hL.1.trans hml.symm) d0 d3 d4 d7 d10 (fun x hx9 => (hex x hx9).elim) (by omega) (am_arith2 hnl hRl) (by omega) (by omega) hlk
    (fun t hal hz hk9 => ⟨⟨h, ad, rfl, am_ag.rf rfl, fun c r k n w ho => (hP c r k n w ho).kept (hk9 _ (hP c r k n w ho).lt), hD⟩, ⟨Nat.le_trans hS.1 hz, fun q q1 q2 => (hk9 q (Nat.lt_of_lt_of_le q1 hS.1)).trans (hS.2.1 q q1 q2)⟩⟩) hS.2.2 (by omega) (by omega)) hQ
/-- constants of the pool -/
theorem am_ldcI {X : am_X} {d : Nat} {mt : am_M} {pc : Nat} {L : List (Option am_V)} {st : List am_V} {h : am_H} {r : am_R} {idx : Nat} {v : Int32} (hd : decode mt.2.1 pc = .ok (.ldc idx, 2)) (hc : Cond.constant mt.1.cls idx v ∈ am_ws) (kk : am_At X d mt (pc + 2) L (am_I v :: st) h r) : am_At X d mt pc L st h r := by
  intro p l e R s m args below meth c0 H locs cells slots mc ms ls D cy A ad Q hC hX hP hD hS hL h1 h2 z1 z2 hQ
  obtain ⟨hx, htr, hb, hml, hown, hr, hlk, hnm, hex, hts, hG, hA, hRc, hRs, hRf, hRl⟩ := id hC
  exact lv_ldc hx hb hown (hts _ hc) hd (kk p l e R s m args below meth c0 H locs cells slots mc ms ls D cy A ad Q hC hX hP hD hS hL h1 h2 z1 z2 hQ)
theorem am_ldcS {X : am_X} {d : Nat} {mt : am_M} {pc : Nat} {L : List (Option am_V)} {st : List am_V} {h : am_H} {r : am_R} {idx k9 : Nat} {text : String} (hd : decode mt.2.1 pc = .ok (.ldc idx, 2)) (hc : (mt.1.cls, idx, text, k9) ∈ am_Srefs) (kk : am_At X d mt (pc + 2) L (.inr (1000 + k9, 0) :: st) h r) : am_At X d mt pc L st h r := by
  intro p l e R s m args below meth c0 H locs cells slots mc ms ls D cy A ad Q hC hX hP hD hS hL h1 h2 z1 z2 hQ
  obtain ⟨hx, htr, hb, hml, hown, hr, hlk, hnm, hex, hts, hG, hA, hRc, hRs, hRf, hRl⟩ := id hC
  exact va_ldcS hx hb hown (hG.2.2.2.2.2.1 _ hc) hd (kk p l e R s m args below meth c0 H locs cells slots mc ms ls D cy A ad Q hC hX hP hD hS hL h1 h2 z1 z2 hQ)
theorem am_lcmp {X : am_X} {d : Nat} {mt : am_M} {pc : Nat} {L : List (Option am_V)} {st : List am_V} {h : am_H} {r : am_R} {x y : Int64} (hd : decode mt.2.1 pc = .ok (.lcmp, 1)) (kk : am_At X d mt (pc + 1) L (am_I (lg_cmp x y) :: st) h r) : am_At X d mt pc L (.inl (.long y) :: .inl (.long x) :: st) h r := by
  intro p l e R s m args below meth c0 H locs cells slots mc ms ls D cy A ad Q hC hX hP hD hS hL h1 h2 z1 z2 hQ
  obtain ⟨hx, htr, hb, hml, hown, hr, hlk, hnm, hex, hts, hG, hA, hRc, hRs, hRf, hRl⟩ := id hC
  exact W.lcmp hx hb hd (kk p l e R s m args below meth c0 H locs cells slots mc ms ls D cy A ad Q hC hX hP hD hS hL h1 h2 z1 z2 hQ)
theorem am_tabIn {X : am_X} {d : Nat} {mt : am_M} {pc : Nat} {L : List (Option am_V)} {st : List am_V} {h : am_H} {r : am_R} {dflt lo hi : Int} {offs : Array Int} {len : Nat} {x : Int32} (off : Int) (tgt : Nat) (hd : decode mt.2.1 pc = .ok (.tableswitch dflt lo hi offs, len)) (q1 : ¬ x.toInt < lo) (q2 : ¬ hi < x.toInt) (ho : offs[(x.toInt - lo).toNat]? = some off) (ht : (pc : Int) + off = (tgt : Int)) (kk : am_At X d mt tgt L st h r) : am_At X d mt pc L (am_I x :: st) h r := by
  intro p l e R s m args below meth c0 H locs cells slots mc ms ls D cy A ad Q hC hX hP hD hS hL h1 h2 z1 z2 hQ
  obtain ⟨hx, htr, hb, hml, hown, hr, hlk, hnm, hex, hts, hG, hA, hRc, hRs, hRf, hRl⟩ := id hC
  exact lv_tableIn hx hb hd q1 q2 ho ht (kk p l e R s m args below meth c0 H locs cells slots mc ms ls D cy A ad Q hC hX hP hD hS hL h1 h2 z1 z2 hQ)
theorem am_tabOut {X : am_X} {d : Nat} {mt : am_M} {pc : Nat} {L : List (Option am_V)} {st : List am_V} {h : am_H} {r : am_R} {dflt lo hi : Int} {offs : Array Int} {len : Nat} {x : Int32} (tgt : Nat) (hd : decode mt.2.1 pc = .ok (.tableswitch dflt lo hi offs, len)) (q1 : x.toInt < lo ∨ hi < x.toInt) (ht : (pc : Int) + dflt = (tgt : Int)) (kk : am_At X d mt tgt L st h r) : am_At X d mt pc L (am_I x :: st) h r := by
  intro p l e R s m args below meth c0 H locs cells slots mc ms ls D cy A ad Q hC hX hP hD hS hL h1 h2 z1 z2 hQ
  obtain ⟨hx, htr, hb, hml, hown, hr, hlk, hnm, hex, hts, hG, hA, hRc, hRs, hRf, hRl⟩ := id hC
  exact lv_tableOut hx hb hd q1 ht (kk p l e R s m args below meth c0 H locs cells slots mc ms ls D cy A ad Q hC hX hP hD hS hL h1 h2 z1 z2 hQ)
