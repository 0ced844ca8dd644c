/-! a constructor is called: the heap may grow -/
def am_inh (h : am_H) (v : am_V) : Prop := match v with
  | .inl _ => True
  | .inr q => q.1 < h.1.length ∨ 1000 ≤ q.1
theorem am_inh.cv {h h1 : am_H} {ad ad1 : Nat → Nat → Nat} {v : am_V} (hag : am_ag h h1 ad ad1) (hv : am_inh h v) : am_cv ad1 v = am_cv ad v := by
  cases v with
  | inl v => rfl
  | inr q => exact congrArg Value.ref (hag.2.2 q.1 q.2 hv)
theorem am_G.ag {D : va_G} {cy : Nat → ClassId} {ad ad1 : Nat → Nat → Nat} {A : Nat → Prop} {s : State} {h h1 : am_H} (hag : am_ag h h1 ad ad1) (hG : am_G D cy ad A s) : am_G D cy ad1 A s := by
  obtain ⟨g1, g2, g3, g4, g5, g6, g7, g8⟩ := hG
  refine ⟨g1, g2, g3, g4, ?_, fun q hq => ?_, g7, g8⟩
  · have e1 : (fun k => ad1 (1000 + k) 0) = (fun k => ad (1000 + k) 0) := funext (fun k => hag.2.2 _ _ (Or.inr (by omega)))
    have e2 : (fun k => ad1 (2000 + k) 0) = (fun k => ad (2000 + k) 0) := funext (fun k => hag.2.2 _ _ (Or.inr (by omega)))
    rw [e1, e2]
    exact g5
  · rw [hag.2.2 _ _ (Or.inr (by omega))]
    exact g6 q hq
theorem am_callI {X : am_X} {d : Nat} {mt : am_M} {pc : Nat} {L : List (Option am_V)} {st : List am_V} {h : am_H} {r : am_R} {idx c nA d1 : Nat} {y : am_M} (as : List am_V) {stk : List am_V} {h1 : am_H} (hd : decode mt.2.1 pc = .ok (.invokespecial idx, 3)) (hl : Cond.methodLink mt.1.cls idx y.1 ∈ am_ws) (g : am_md y nA) (hin : Cond.instanceMethod y.1 ∈ am_ws) (hy : y.1.name = "<init>") (hret : y.2.2.2 = none) (hn : as.length = nA) (hst : ∀ ad, ((st.map (am_cv ad)).map fun v => v.category).sum ≤ 8) (hd1 : d1 + 1 ≤ d) (hk : stk = as.reverse ++ .inr (c, 0) :: st) (E : am_Ev d1 y (.inr (c, 0) :: as) h (.inl (none, h1))) (hXs : ∀ ad ad1 A s, am_ag h h1 ad ad1 → X ad A s → X ad1 A s) (hLo : ∀ v, some v ∈ L → am_inh h v) (hso : ∀ v, v ∈ st → am_inh h v) (m1 : am_nc h ≤ am_nc h1) (m2 : am_ns h ≤ am_ns h1) (b1 : am_nc h1 ≤ am_rc r) (b2 : am_ns h1 ≤ am_rs r) (kk : am_At X d mt (pc + 3) L st h1 r) : am_At X d mt pc L stk h r := by
  intro p l e R s m args below meth c0 H locs cells slots mc ms ls D cy A ad Q hC hX hP hD hS hL h1' h2' z1 z2 hQ
  subst hk
  obtain ⟨hx, htr, hb, hml, hown, hr, hlk, hnm, hex, hts, hG, hA, hRc, hRs, hRf, hRl⟩ := id hC
  have e1 : am_rc (.inl (none, h1)) - am_nc h = am_nc h1 - am_nc h := rfl
  have e2 : am_rs (.inl (none, h1)) - am_ns h = am_ns h1 - am_ns h := rfl
  obtain ⟨yn, yc, ym, yr⟩ := y
  simp only at hret
  subst hret
  refine am_after (h := h) (r1 := (.inl (none, h1))) (am_run (va_runI (As := as.map (am_cv ad)) (rest := st.map (am_cv ad)) (b := ad c 0) ⟨hx, hb, hml, hown, hts⟩ (E.met l htr D cy ad H.size) ⟨am_cb (d := d) hts g hl hRf hRl hd1, hy, hts _ hin⟩ ⟨am_blind, am_pre (av := .ref (ad c 0) :: as.map (am_cv ad)) hP hD hA hS hG⟩ rfl (by simpa using hn) hL.1 (by simp [am_cv]) (lv_room (hst ad)) hd ⟨by rw [e1, hRc]; omega, by rw [e2, hRs]; omega⟩)) (am_AB hD hA hS) hS ?_ ?_
  · intro E1 h9 ad1 H1 locs1 q9 ce z
    cases z
  · intro v9 h9 ad1 H1 locs1 z hag hP1 hD1 hS1
    cases z
    rw [e1, e2]
    have hst1 : st.map (am_cv ad) = st.map (am_cv ad1) := List.map_congr_left (fun v hv => (am_inh.cv hag (hso v hv)).symm)
    show W p l e R s m args below meth c0 H1 locs1 (cells + (am_nc h1 - am_nc h)) (slots + (am_ns h1 - am_ns h)) Q (F0 m (pc + 3) ls (st.map (am_cv ad)))
    rw [hst1]
    refine kk p l e R s m args below meth c0 H1 locs1 _ _ mc ms ls D cy A ad1 Q ⟨hx, htr, hb, hml, hown, hr, hlk, hnm, hex, hts, hG.ag hag, hA, hRc, hRs, hRf, hRl⟩ (hXs _ _ _ _ hag hX) hP1 hD1 hS1 ?_ (by omega) (by omega) b1 b2 (fun t ht => hQ t (am_MQ hag ht))
    refine ⟨hL.1, hL.2.1, hL.2.2.1, fun i v hv => ?_⟩
    have hm : some v ∈ L := List.mem_of_getElem? hv
    rw [am_inh.cv hag (hLo v hm)]
    exact hL.2.2.2 i v hv
