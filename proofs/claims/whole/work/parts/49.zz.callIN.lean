/-! .. a private constructor of a nest mate -/
theorem am_callIN {X : am_X} {d : Nat} {mt : am_M} {pc : Nat} {L : List (Option am_V)} {st : List am_V} {h : am_H} {r : am_R} {idx c nA d1 : Nat} {y : am_M} {host : String} (as : List am_V) {stk : List am_V} {h1 : am_H} (hd : decode mt.2.1 pc = .ok (.invokespecial idx, 3)) (hl : Cond.methodLinkNest mt.1.cls idx y.1 host ∈ am_nw) (g : am_md y nA) (hin : Cond.instanceMethod y.1 ∈ am_ws) (hy : y.1.name = "<init>") (hret : y.2.2.2 = none) (hn : as.length = nA) (hst : ∀ ad, ((st.map (am_cv ad)).map fun v => v.category).sum ≤ 8) (hd1 : d1 + 1 ≤ d) (hk : stk = as.reverse ++ .inr (c, 0) :: st) (E : am_Ev d1 y (.inr (c, 0) :: as) h (.inl (none, h1))) (hXs : ∀ ad ad1 A s, am_ag h h1 ad ad1 → X ad A s → X ad1 A s) (hLo : ∀ v, some v ∈ L → am_inh h v) (hso : ∀ v, v ∈ st → am_inh h v) (m1 : am_nc h ≤ am_nc h1) (m2 : am_ns h ≤ am_ns h1) (b1 : am_nc h1 ≤ am_rc r) (b2 : am_ns h1 ≤ am_rs r) (kk : am_At X d mt (pc + 3) L st h1 r) : am_At X d mt pc L stk h r := by
  intro p l e R s m args below meth c0 H locs cells slots mc ms ls D cy A ad Q hC hX hP hD hS hL h1' h2' z1 z2 hQ
  subst hk
  obtain ⟨hx, htr, hb, hml, hown, hr, hlk, hnm, hex, hts, hG, hA, hRc, hRs, hRf, hRl⟩ := id hC
  have e1 : am_rc (.inl (none, h1)) - am_nc h = am_nc h1 - am_nc h := rfl
  have e2 : am_rs (.inl (none, h1)) - am_ns h = am_ns h1 - am_ns h := rfl
  obtain ⟨yn, yc, ym, yr⟩ := y
  simp only at hret
  subst hret
  refine am_after (h := h) (r1 := (.inl (none, h1))) (am_run (va_runIN (As := as.map (am_cv ad)) (rest := st.map (am_cv ad)) (b := ad c 0) ⟨hx, hb, hml, hown, hts⟩ (E.met l htr D cy ad H.size) ⟨am_cn (d := d) hts hG.2.1 g hl hRf hRl hd1, hy, hts _ hin⟩ ⟨am_blind, am_pre (av := .ref (ad c 0) :: as.map (am_cv ad)) hP hD hA hS hG⟩ rfl (by simpa using hn) hL.1 (by simp [am_cv]) (lv_room (hst ad)) hd ⟨by rw [e1, hRc]; omega, by rw [e2, hRs]; omega⟩)) (am_AB hD hA hS) hS ?_ ?_
  · intro E1 h9 ad1 H1 locs1 q9 ce z
    cases z
  · intro v9 h9 ad1 H1 locs1 z hag hP1 hD1 hS1
    cases z
    rw [e1, e2]
    have hst1 : st.map (am_cv ad) = st.map (am_cv ad1) := List.map_congr_left (fun v hv => (am_inh.cv hag (hso v hv)).symm)
    show W p l e R s m args below meth c0 H1 locs1 (cells + (am_nc h1 - am_nc h)) (slots + (am_ns h1 - am_ns h)) Q (F0 m (pc + 3) ls (st.map (am_cv ad)))
    rw [hst1]
    refine kk p l e R s m args below meth c0 H1 locs1 _ _ mc ms ls D cy A ad1 Q ⟨hx, htr, hb, hml, hown, hr, hlk, hnm, hex, hts, hG.ag hag, hA, hRc, hRs, hRf, hRl⟩ (hXs _ _ _ _ hag hX) hP1 hD1 hS1 ?_ (by omega) (by omega) b1 b2 (fun t ht => hQ t (am_MQ hag ht))
    refine ⟨hL.1, hL.2.1, hL.2.2.1, fun i v hv => ?_⟩
    have hm : some v ∈ L := List.mem_of_getElem? hv
    rw [am_inh.cv hag (hLo v hm)]
    exact hL.2.2.2 i v hv
