/-! NEW CELLS: bytes, longs -/
theorem am_newb {X : am_X} {d : Nat} {mt : am_M} {pc : Nat} {L : List (Option am_V)} {st : List am_V} {h : am_H} {r : am_R} {x : Int32} (n : Nat) (hd : decode mt.2.1 pc = .ok (.newarray .byte, 2)) (hx0 : ¬ x < 0) (hxn : x.toNatClampNeg = n) (hb4 : n * componentBytes .byte ≤ 536870912) (harr : Cond.arrayClass .byte ∈ am_ws) (hz : ∀ f, h.2.1 h.1.length 0 f = 0) (hN : h.1.length < 1000) (hrf : ∀ c f, h.2.2 c f ≠ some h.1.length) (hXs : ∀ ad A s a, X ad A s → X (am_ad ad h.1.length a) A s) (hLo : ∀ v, some v ∈ L → am_old h.1.length v) (hso : ∀ v, v ∈ st → am_old h.1.length v) (b1 : am_nc h + 1 ≤ am_rc r) (b2 : am_ns h + n ≤ am_rs r) (kk : am_At X d mt (pc + 2) L (.inr (h.1.length, 0) :: st) (am_hN h (101, n, 0)) r) : am_At X d mt pc L (am_I x :: st) h r := by
  refine am_grow (w := 0) (by decide) hN hrf hXs hLo hso b1 b2 kk ?_
  intro p l e R s m args below meth c0 H locs cells slots mc ms ls D cy A ad Q hC hc hs K
  obtain ⟨hx, htr, hb, hml, hown, hr, hlk', hnm, hex, hts, hG, hA, hRc, hRs, hRf, hRl⟩ := id hC
  refine va_newaK hx hb (atype := .byte) (hts _ harr) rfl hd rfl hx0 hxn hb4 hc hs rfl fun H1 cA e1 z1 o1 hAr hNm => K H1 z1 o1 ?_
  have hcy : cA = cy 1 := by
    have := (hG.1.2 1 (cy 1, .byte) rfl).2
    exact Option.some.inj (hNm.symm.trans this)
  subst hcy
  show H1[H.size]? = some _
  rw [e1]
  refine congrArg some ?_
  show arrV (cy 1) n _ = arrV (cy 1) n (fun j => .int ((am_hN h (101, n, 0)).2.1 h.1.length 0 j))
  refine congrArg (arrV (cy 1) n) (funext fun j => ?_)
  show _ = Value.int (h.2.1 h.1.length 0 j)
  rw [hz]; rfl
theorem am_newl {X : am_X} {d : Nat} {mt : am_M} {pc : Nat} {L : List (Option am_V)} {st : List am_V} {h : am_H} {r : am_R} {x : Int32} (n : Nat) (hd : decode mt.2.1 pc = .ok (.newarray .long, 2)) (hx0 : ¬ x < 0) (hxn : x.toNatClampNeg = n) (hb4 : n * componentBytes .long ≤ 536870912) (harr : Cond.arrayClass .long ∈ am_ws) (hz : ∀ f, h.2.2 h.1.length f = none) (hN : h.1.length < 1000) (hrf : ∀ c f, h.2.2 c f ≠ some h.1.length) (hXs : ∀ ad A s a, X ad A s → X (am_ad ad h.1.length a) A s) (hLo : ∀ v, some v ∈ L → am_old h.1.length v) (hso : ∀ v, v ∈ st → am_old h.1.length v) (b1 : am_nc h + 1 ≤ am_rc r) (b2 : am_ns h + n ≤ am_rs r) (kk : am_At X d mt (pc + 2) L (.inr (h.1.length, 0) :: st) (am_hN h (102, n, 0)) r) : am_At X d mt pc L (am_I x :: st) h r := by
  refine am_grow (w := 0) (by decide) hN hrf hXs hLo hso b1 b2 kk ?_
  intro p l e R s m args below meth c0 H locs cells slots mc ms ls D cy A ad Q hC hc hs K
  obtain ⟨hx, htr, hb, hml, hown, hr, hlk', hnm, hex, hts, hG, hA, hRc, hRs, hRf, hRl⟩ := id hC
  refine va_newaK hx hb (atype := .long) (hts _ harr) rfl hd rfl hx0 hxn hb4 hc hs rfl fun H1 cA e1 z1 o1 hAr hNm => K H1 z1 o1 ?_
  have hcy : cA = cy 2 := by
    have := (hG.1.2 2 (cy 2, .long) rfl).2
    exact Option.some.inj (hNm.symm.trans this)
  subst hcy
  show H1[H.size]? = some _
  rw [e1]
  refine congrArg some ?_
  show arrV (cy 2) n _ = arrV (cy 2) n (fun j => .long (am_lg ((am_hN h (102, n, 0)).2.2 h.1.length j)))
  refine congrArg (arrV (cy 2) n) (funext fun j => ?_)
  show _ = Value.long (am_lg (h.2.2 h.1.length j))
  rw [hz]; rfl
