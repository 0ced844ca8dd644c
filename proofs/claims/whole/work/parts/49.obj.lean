/-! java.lang.Object's own constructor -/
theorem am_obj {X : am_X} {d : Nat} {mt : am_M} {pc : Nat} {L : List (Option am_V)} {st : List am_V} {h : am_H} {r : am_R} {idx c : Nat} (hd : decode mt.2.1 pc = .ok (.invokespecial idx, 3)) (hl : Cond.methodLink mt.1.cls idx Lib.objectInit ∈ am_ws) (hi : Cond.instanceMethod Lib.objectInit ∈ am_ws) (hc : Cond.code Lib.objectInit ⟨#[0xb1]⟩ 1 none ∈ am_ws) (hst : ∀ ad, ((st.map (am_cv ad)).map fun v => v.category).sum ≤ 8) (kk : am_At X d mt (pc + 3) L st h r) : am_At X d mt pc L (.inr (c, 0) :: st) h r := by
  intro p l e R s m args below meth c0 H locs cells slots mc ms ls D cy A ad Q hC hX hP hD hS hL h1 h2 z1 z2 hQ
  obtain ⟨hx, htr, hb, hml, hown, hr, hlk, hnm, hex, hts, hG, hA, hRc, hRs, hRf, hRl⟩ := id hC
  have K := kk p l e R s m args below meth c0 H locs cells slots mc ms ls D cy A ad Q hC hX hP hD hS hL h1 h2 z1 z2 hQ
  have hroom : 2 * (F0 m pc ls ((.inr (c, 0) :: st : List am_V).map (am_cv ad))).monitorRoom + ((st.map (am_cv ad)).map fun v => v.category).sum ≤ 8 := lv_room (hst ad)
  exact W.objInit (g := F0 m pc ls ((.inr (c, 0) :: st : List am_V).map (am_cv ad))) hx hb hown (hts _ hl) (hts _ hi) (hts _ hc) rfl (hL.1.trans hml.symm) rfl hd (by omega) (by omega) K
