/-! THE LAW'S HELPERS: a method with an exception table that always returns -/
def lwI : String := "java/lang/IllegalArgumentException"
def lwN : String := "java/util/NoSuchElementException"
def lw_Nc (s : State) : Prop := va_Nc lwI lwN s
def am_XH : am_X := fun _ _ s => lw_Nc s
def am_PoH (v : am_V) (h h1 : am_H) : am_Po := fun D cy A ad => am_Qc (.inl (some v, h1)) D cy A ad h
def am_EvH (d : Nat) (tb : am_Tb) (mt : am_M) (as : List am_V) (h : am_H) (v : am_V) (h1 : am_H) : Prop :=
  ∀ (l : Launch), l.stackTraces = false → ∀ (D : va_G) (cy : Nat → ClassId) (ad : Nat → Nat → Nat) (sz : Nat),
    Met l mt.1 (Cond.codeWith mt.1 mt.2.1 mt.2.2.1 mt.2.2.2 tb :: am_ws) { frames := d + 8, cells := 1, slots := 6, locals := 64 * d + 256 }
      (va_Pc (as.map (am_cv ad)) (fun U => (U.heap.size = sz ∧ am_P D cy ad h U.heap ∧ am_D (fun _ => True) ad h ∧ am_G D cy ad (am_A ad h sz) U) ∧ lw_Nc U))
      (am_Qc (.inl (some v, h1)) D cy (am_A ad h sz) ad h) 1 6 (am_A ad h sz)
theorem am_EvH.of {d : Nat} {tb : am_Tb} {mt : am_M} {as : List am_V} {h h1 : am_H} {v : am_V} (hy : plainName mt.1.cls = true) (hc : am_cat as = true) (hn : Nat.ble as.length mt.2.2.1 = true) (k : am_AtG tb (am_PoH v h h1) am_XH d mt 0 (as.map some ++ List.replicate (mt.2.2.1 - as.length) none) [] h (am_nc h + 1, am_ns h + 6)) : am_EvH d tb mt as h v h1 := by
  have hc := am_catc hc
  have hn := Nat.le_of_ble_eq_true hn
  intro l hl D cy ad sz
  refine va_MetW hy rfl ?_
  intro p e s m args below meth c s₁ B hml hv
  obtain ⟨rfl, ⟨hsz, hP, hD0, hG⟩, hNc⟩ := hv
  have hts := atoms_spec (ws := Cond.codeWith mt.1 mt.2.1 mt.2.2.1 mt.2.2.2 tb :: am_ws) B.pre
  subst hsz
  have htab : c.exceptionTable.toList.map (fun h => (h.startPc, h.endPc, h.handlerPc, h.catchType)) = tb := by
    obtain ⟨m9, meth9, c9, hn9, h1, h2, -, -, h6, -⟩ := Cond.codeWith_spec (hts _ List.mem_cons_self)
    cases Option.some.inj (hn9.symm.trans B.named)
    cases Option.some.inj (h1.symm.trans B.method)
    cases Option.some.inj (h2.symm.trans (Stand.of_body B).code)
    exact h6
  rw [lg_entry_eq]
  have hlen := am_sl (ad := ad) hc
  have hL0 := lv_entry (as.map (am_cv ad)) (n := mt.2.2.1) (by rw [hlen]; exact hn)
  generalize (lg_sl (as.map (am_cv ad)) ++ List.replicate (mt.2.2.1 - (lg_sl (as.map (am_cv ad))).length) Slot.unset).toArray = ls at hL0 ⊢
  have hL : am_L ad ls mt.2.2.1 (as.map some ++ List.replicate (mt.2.2.1 - as.length) none) := by
    refine ⟨hL0.1, hL0.2.1, by simp; omega, fun k v hk => ?_⟩
    by_cases hka : k < as.length
    · rw [List.getElem?_append_left (by simpa using hka), List.getElem?_map] at hk
      cases e : as[k]? with
      | none => rw [e] at hk; cases hk
      | some w =>
        rw [e] at hk
        cases hk
        have := hL0.2.2 (0 + k, am_cv ad v) (am_entryL hc 0 k v e)
        rw [Nat.zero_add] at this
        exact ⟨this, hc v (List.mem_of_getElem? e) ad⟩
    · rw [List.getElem?_append_right (by simpa using hka)] at hk
      have := List.eq_of_mem_replicate (List.mem_of_getElem? hk)
      cases this
  exact k p l e _ s m _ below meth c s.heap [] 0 0 1 6 ls D cy (am_A ad h s.heap.size) ad _ ⟨B.exec, hl, B.bytes, hml, findClass_of_methodNamed B.named, B.returns, B.notSynchronized, (name_of_methodNamed B.named B.method).1, htab, fun w hw => hts w (List.mem_cons_of_mem _ hw), hG, fun q hq => Or.inr hq, rfl, rfl, Nat.le_refl _, Nat.le_refl _⟩ hNc hP (am_A.D _ hD0) va_S.rf hL (by show 0 + (am_nc h + 1) ≤ 1 + am_nc h; omega) (by show 0 + (am_ns h + 6) ≤ 6 + am_ns h; omega) (Nat.le_succ _) (Nat.le_add_right _ _) (fun t z => z)
theorem am_blindH {av : List Value} {D : va_G} {cy : Nat → ClassId} {ad : Nat → Nat → Nat} {A : Nat → Prop} {h : am_H} {sz : Nat} : FrameBlind (va_Pc av (fun U => (U.heap.size = sz ∧ am_P D cy ad h U.heap ∧ am_D (fun _ => True) ad h ∧ am_G D cy ad A U) ∧ lw_Nc U)) := by
  intro a U g mk q
  obtain ⟨q0, q1, q2⟩ := q
  have hal : U.vm.Alike (U.calling g mk a).vm := Vm.Alike.refl U.vm
  exact ⟨q0, (am_blind (av := av) a U g mk ⟨q0, q1⟩).2, va_Nc.moved hal q2⟩
/-- what the tables say of a helper -/
def am_hd (tb : am_Tb) (y : am_M) (n : Nat) : Prop := Cond.codeWith y.1 y.2.1 y.2.2.1 y.2.2.2 tb ∈ am_ws ∧ Cond.initialized y.1.cls ∈ am_ws ∧ (y.1.cls ≠ "java/lang/invoke/MethodHandle" ∧ y.1.cls ≠ "java/lang/invoke/VarHandle" ∧ (parseMethodDescriptor y.1.desc).map (fun d => d.parameters.length) = some n) ∧ y.2.2.1 ≤ 40 ∧ Cond.static y.1 ∈ am_ws
theorem gm_callH {tb : am_Tb} {Po : am_Po} {X : am_X} {d : Nat} {mt : am_M} {pc : Nat} {L : List (Option am_V)} {st : List am_V} {h : am_H} {r r' : Nat × Nat} {idx nA d1 : Nat} {tbh : am_Tb} {y : am_M} (as : List am_V) {stk : List am_V} {v : am_V} {h1 : am_H} (hd : decode mt.2.1 pc = .ok (.invokestatic idx, 3)) (hl : Cond.methodLink mt.1.cls idx y.1 ∈ am_ws) (g : am_hd tbh y nA) (hn : as.length = nA) (hst : ∀ ad, ((st.map (am_cv ad)).map fun v => v.category).sum ≤ 8) (hd1 : d1 + 1 ≤ d) (hk : stk = as.reverse ++ st) (E : am_EvH d1 tbh y as h v h1) (hsh : h1.1 = h.1) (hN : ∀ ad A s, X ad A s → lw_Nc s) (hr1 : r'.1 + 1 ≤ r.1) (hr2 : r'.2 + 6 ≤ r.2) (hr3 : am_nc h ≤ r'.1) (hr4 : am_ns h ≤ r'.2) (kk : am_AtG tb Po X d mt (pc + 3) L (v :: st) h1 r') : am_AtG tb Po X d mt pc L stk h r := by
  intro p l e R s m args below meth c0 H locs cells slots mc ms ls D cy A ad Q hC hX hP hD hS hL h1' h2' z1 z2 hQ
  subst hk
  obtain ⟨hx, htr, hb, hml, hown, hr, hlk, hnm, hex, hts, hG, hA, hRc, hRs, hRf, hRl⟩ := id hC
  have n1 : am_nc h1 = am_nc h := by unfold am_nc; rw [hsh]
  have n2 : am_ns h1 = am_ns h := by unfold am_ns; rw [hsh]
  have hrc : cells + 1 ≤ mc := by omega
  have hrs : slots + 6 ≤ ms := by omega
  obtain ⟨g1, g2, g3, g4, g5⟩ := g
  have hf : d1 + 8 + 1 ≤ R.frames := by omega
  have hq : 8 + (y.2.2.1 + 11) + (64 * d1 + 256) ≤ R.locals := am_arith g4 hRl hd1
  have hgi : GoodIn am_ws (Cond.codeWith y.1 y.2.1 y.2.2.1 y.2.2.2 tbh :: am_ws) := by
    intro w hw
    have hm : w ∈ am_ws := by
      rcases List.mem_cons.mp hw with e | e
      · rw [e]; exact g1
      · exact e
    exact ⟨hm, good_of_word (List.mem_filter.mp hm).2⟩
  have hlen : ∀ sig, parseMethodDescriptor y.1.desc = some sig → nA = sig.parameters.length := by
    intro sig hsig
    have h2 := g3.2.2
    rw [hsig] at h2
    exact (Option.some.inj h2).symm
  refine am_after (h := h) (r1 := (.inl (some v, h1))) (am_run (vx_runSW (As := as.map (am_cv ad)) (rest := st.map (am_cv ad)) ⟨hx, hb, hml, hown, hts⟩ (E l htr D cy ad H.size) ⟨⟨rfl, rfl, hf, hq, pay_in hts hgi, List.mem_cons_self⟩, hts _ g1, hts _ g2, ⟨g3.1, g3.2.1⟩, hlen, hts _ hl, hts _ g5⟩ ⟨am_blindH, fun U hU hW => ⟨rfl, (am_pre (av := as.map (am_cv ad)) hP hD hA hS hG U hU hW).2, va_Nc.moved hW.alike (hN _ _ _ hX)⟩⟩ rfl (by simpa using hn) hL.1 (by simp [am_cv]) (lv_room (hst ad)) hd ⟨by rw [hRc]; exact hrc, by rw [hRs]; exact hrs⟩)) (am_AB hD hA hS) hS ?_ ?_
  · intro E1 h9 ad1 H1 locs1 q9 ce z
    cases z
  · intro v9 h9 ad1 H1 locs1 z hag hP1 hD1 hS1
    cases z
    have had : ad1 = ad := hag.2.1 (by rw [hsh])
    subst had
    exact kk p l e R s m args below meth c0 H1 locs1 (cells + 1) (slots + 6) mc ms ls D cy A ad1 Q hC hX hP1 hD1 hS1 hL (by omega) (by omega) (by omega) (by omega) hQ
