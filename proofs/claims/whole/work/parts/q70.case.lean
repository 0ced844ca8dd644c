/-! THE CASES OF THE LAW, BOTH SIDES -/
theorem swW.LH {qc qd qs qn : Nat} {h : am_H} (g : LH qc qd qs qn h) : LH qd qc qs qn (swW h qc qd) := ⟨lay.swW g.1, ⟨rfl, rfl⟩, ⟨((am_ur.ne (by decide)).trans (am_ur.ne (by decide))).trans g.2.2.1, ((am_ur.ne (by decide)).trans (am_ur.ne (by decide))).trans g.2.2.2⟩⟩
theorem swN.LH {qc qd qs qn : Nat} {h : am_H} (g : LH qc qd qs qn h) : LH qc qd qn qs (swN h qs qn) := ⟨lay.swN g.1, ⟨((am_ur.ne (by decide)).trans (am_ur.ne (by decide))).trans g.2.1.1, ((am_ur.ne (by decide)).trans (am_ur.ne (by decide))).trans g.2.1.2⟩, ⟨rfl, rfl⟩⟩
theorem lw_ho {h : am_H} {v w : Int32} (e : v = w) : (0 : Int32) = 0 → am_lg ((am_ur h 82 0 (am_lc v)).2.2 82 0) = w.toInt64 := by
  intro _
  rw [am_ur.eq, am_lgc, e]
theorem cs_feed {n b : Nat} {scr : Nat → Int32} {i : Int32} {r r' : Nat × Nat} {qc qd qs qn : Nat} {h : am_H} {M : Mem} (hR : Rd n b i) (g : LH qc qd qs qn h) (hI : INV qc qd qs qn M) (hr1 : r'.1 + 1 ≤ r.1) (hr2 : r'.2 + 6 ≤ r.2) (hr3 : ncS 83 ≤ r'.1) (hr4 : nsS 83 ≤ r'.2) (K : ∀ (qc qd qs qn : Nat) (h : am_H) (M : Mem), LH qc qd qs qn h → INV qc qd qs qn M → am_AtG [] lawPo (am_XS n scr) 202 mLW 2467 (lwL i none none) [] (am_hM h M) r') : am_AtG [] lawPo (am_XS n scr) 202 mLW 212 (lwL i none none) [] (am_hM h M) r := by
  obtain ⟨⟨v, M1⟩, hy, ⟨w, M2⟩, hy', e, hI2⟩ := u_feed (a := scr (b + 1)) (b := scr (b + 2)) (c := scr (b + 3)) (d := scr (b + 4)) (e := scr (b + 5)) hI
  have e : v = w := e
  subst e
  have E : am_Ev 200 mX11_feed [.inr (0, 0), am_I (scr (b + 1)), am_I (scr (b + 2)), am_I (scr (b + 3)), am_I (scr (b + 4)), am_I (scr (b + 5))] (am_hM h M) (.inl (some (am_I v), am_hM h M1)) := by
    exact ef_X11_feed (d := 199) (h := h) g.1 hy
  exact pl_feed hR (d1 := 200) g.1 E (ef_X12_feed (d := 200) g.1 hy') (by decide) (am_AtG.less (r' := r') (by omega) (by omega) (by rw [LH.nc g]; exact hr3) (by rw [LH.ns g]; exact hr4) (K _ _ _ _ _ _ g hI2))
theorem cs_river {n b : Nat} {scr : Nat → Int32} {i : Int32} {r r' : Nat × Nat} {qc qd qs qn : Nat} {h : am_H} {M : Mem} (hR : Rd n b i) (g : LH qc qd qs qn h) (hI : INV qc qd qs qn M) (hr1 : r'.1 + 1 ≤ r.1) (hr2 : r'.2 + 6 ≤ r.2) (hr3 : ncS 83 ≤ r'.1) (hr4 : nsS 83 ≤ r'.2) (K : ∀ (qc qd qs qn : Nat) (h : am_H) (M : Mem), LH qc qd qs qn h → INV qc qd qs qn M → am_AtG [] lawPo (am_XS n scr) 202 mLW 2467 (lwL i none none) [] (am_hM h M) r') : am_AtG [] lawPo (am_XS n scr) 202 mLW 285 (lwL i none none) [] (am_hM h M) r := by
  obtain ⟨⟨y1, bb, M1⟩, hy, ⟨w, M2⟩, hy', ha, hI2⟩ := u_river (x := scr (b + 1)) hI
  have E : am_Ev 200 mX11_river [.inr (0, 0), am_I (scr (b + 1))] (am_hM h M) (am_o1w (fun b => swb b (swW h qc qd) h) (y1, bb, M1)) := by
    rcases hI.2.2.1 with ⟨rfl, rfl⟩ | ⟨rfl, rfl⟩
    · rcases hI.2.2.2 with ⟨rfl, rfl⟩ | ⟨rfl, rfl⟩
      · exact ef_X11_river_24_46 (d := 193) (h := h) g.1 g.2.1 g.2.2 hy
      · exact ef_X11_river_24_47 (d := 193) (h := h) g.1 g.2.1 g.2.2 hy
    · rcases hI.2.2.2 with ⟨rfl, rfl⟩ | ⟨rfl, rfl⟩
      · exact ef_X11_river_25_46 (d := 193) (h := h) g.1 g.2.1 g.2.2 hy
      · exact ef_X11_river_25_47 (d := 193) (h := h) g.1 g.2.1 g.2.2 hy
  cases bb with
  | true =>
    have g1 := (swW.LH g)
    cases y1 with
    | inl v =>
      obtain ⟨ht, hv⟩ := ha
      refine hd'_river (d1 := 201) hR (h1 := am_ur (swW h qc qd) 82 0 (am_lc v)) (M1 := M1) (k := 0) (r' := r') (hp_river (d := 200) (h := am_hM h M) (h1 := am_hM (swW h qc qd) M1) (sh_0 g.1) (sh_82 g.1) rfl E) rfl (by decide) hr1 hr2 (by rw [g.nc]; exact hr3) (by rw [g.ns]; exact hr4) ?_
      exact tl_river (d1 := 200) hR (LH.out g1).1 (ef_X12_river (d := 194) (LH.out g1).1 hy') (by decide) ht (lw_ho hv) (K _ _ _ _ _ _ (LH.out g1) hI2)
    | inr Ex =>
      obtain ⟨rfl, ht⟩ := ha
      refine hd'_river (d1 := 201) hR (h1 := swW h qc qd) (M1 := M1) (k := 1) (r' := r') (hx_river_I (d := 200) (h := am_hM h M) (h1 := am_hM (swW h qc qd) M1) (sh_0 g.1) (sh_82 g.1) rfl E) rfl (by decide) hr1 hr2 (by rw [g.nc]; exact hr3) (by rw [g.ns]; exact hr4) ?_
      exact tl_river (d1 := 200) hR g1.1 (ef_X12_river (d := 194) g1.1 hy') (by decide) ht (fun z => absurd z (by decide)) (K _ _ _ _ _ _ g1 hI2)
  | false =>
    have g1 := g
    cases y1 with
    | inl v =>
      obtain ⟨ht, hv⟩ := ha
      refine hd'_river (d1 := 201) hR (h1 := am_ur (h) 82 0 (am_lc v)) (M1 := M1) (k := 0) (r' := r') (hp_river (d := 200) (h := am_hM h M) (h1 := am_hM (h) M1) (sh_0 g.1) (sh_82 g.1) rfl E) rfl (by decide) hr1 hr2 (by rw [g.nc]; exact hr3) (by rw [g.ns]; exact hr4) ?_
      exact tl_river (d1 := 200) hR (LH.out g1).1 (ef_X12_river (d := 194) (LH.out g1).1 hy') (by decide) ht (lw_ho hv) (K _ _ _ _ _ _ (LH.out g1) hI2)
    | inr Ex =>
      obtain ⟨rfl, ht⟩ := ha
      refine hd'_river (d1 := 201) hR (h1 := h) (M1 := M1) (k := 1) (r' := r') (hx_river_I (d := 200) (h := am_hM h M) (h1 := am_hM (h) M1) (sh_0 g.1) (sh_82 g.1) rfl E) rfl (by decide) hr1 hr2 (by rw [g.nc]; exact hr3) (by rw [g.ns]; exact hr4) ?_
      exact tl_river (d1 := 200) hR g1.1 (ef_X12_river (d := 194) g1.1 hy') (by decide) ht (fun z => absurd z (by decide)) (K _ _ _ _ _ _ g1 hI2)
theorem cs_law {n b : Nat} {scr : Nat → Int32} {i : Int32} {r r' : Nat × Nat} {qc qd qs qn : Nat} {h : am_H} {M : Mem} (hR : Rd n b i) (g : LH qc qd qs qn h) (hI : INV qc qd qs qn M) (hr1 : r'.1 + 1 ≤ r.1) (hr2 : r'.2 + 6 ≤ r.2) (hr3 : ncS 83 ≤ r'.1) (hr4 : nsS 83 ≤ r'.2) (K : ∀ (qc qd qs qn : Nat) (h : am_H) (M : Mem), LH qc qd qs qn h → INV qc qd qs qn M → am_AtG [] lawPo (am_XS n scr) 202 mLW 2467 (lwL i none none) [] (am_hM h M) r') : am_AtG [] lawPo (am_XS n scr) 202 mLW 341 (lwL i none none) [] (am_hM h M) r := by
  obtain ⟨⟨y1, bb, M1⟩, hy, ⟨w, M2⟩, hy', ha, hI2⟩ := u_law (x := scr (b + 1)) hI
  have E : am_Ev 200 mX11_law [.inr (0, 0), am_I (scr (b + 1))] (am_hM h M) (am_o1w (fun b => swb b (swW h qc qd) h) (y1, bb, M1)) := by
    rcases hI.2.2.1 with ⟨rfl, rfl⟩ | ⟨rfl, rfl⟩
    · exact ef_X11_law_24 (d := 163) (h := h) g.1 g.2.1 hy
    · exact ef_X11_law_25 (d := 163) (h := h) g.1 g.2.1 hy
  cases bb with
  | true =>
    have g1 := (swW.LH g)
    cases y1 with
    | inl v =>
      obtain ⟨ht, hv⟩ := ha
      refine hd'_law (d1 := 201) hR (h1 := am_ur (swW h qc qd) 82 0 (am_lc v)) (M1 := M1) (k := 0) (r' := r') (hp_law (d := 200) (h := am_hM h M) (h1 := am_hM (swW h qc qd) M1) (sh_0 g.1) (sh_82 g.1) rfl E) rfl (by decide) hr1 hr2 (by rw [g.nc]; exact hr3) (by rw [g.ns]; exact hr4) ?_
      exact tl_law (d1 := 200) hR (LH.out g1).1 (ef_X12_law (d := 164) (LH.out g1).1 hy') (by decide) ht (lw_ho hv) (K _ _ _ _ _ _ (LH.out g1) hI2)
    | inr Ex =>
      obtain ⟨rfl, ht⟩ := ha
      refine hd'_law (d1 := 201) hR (h1 := swW h qc qd) (M1 := M1) (k := 1) (r' := r') (hx_law_I (d := 200) (h := am_hM h M) (h1 := am_hM (swW h qc qd) M1) (sh_0 g.1) (sh_82 g.1) rfl E) rfl (by decide) hr1 hr2 (by rw [g.nc]; exact hr3) (by rw [g.ns]; exact hr4) ?_
      exact tl_law (d1 := 200) hR g1.1 (ef_X12_law (d := 164) g1.1 hy') (by decide) ht (fun z => absurd z (by decide)) (K _ _ _ _ _ _ g1 hI2)
  | false =>
    have g1 := g
    cases y1 with
    | inl v =>
      obtain ⟨ht, hv⟩ := ha
      refine hd'_law (d1 := 201) hR (h1 := am_ur (h) 82 0 (am_lc v)) (M1 := M1) (k := 0) (r' := r') (hp_law (d := 200) (h := am_hM h M) (h1 := am_hM (h) M1) (sh_0 g.1) (sh_82 g.1) rfl E) rfl (by decide) hr1 hr2 (by rw [g.nc]; exact hr3) (by rw [g.ns]; exact hr4) ?_
      exact tl_law (d1 := 200) hR (LH.out g1).1 (ef_X12_law (d := 164) (LH.out g1).1 hy') (by decide) ht (lw_ho hv) (K _ _ _ _ _ _ (LH.out g1) hI2)
    | inr Ex =>
      obtain ⟨rfl, ht⟩ := ha
      refine hd'_law (d1 := 201) hR (h1 := h) (M1 := M1) (k := 1) (r' := r') (hx_law_I (d := 200) (h := am_hM h M) (h1 := am_hM (h) M1) (sh_0 g.1) (sh_82 g.1) rfl E) rfl (by decide) hr1 hr2 (by rw [g.nc]; exact hr3) (by rw [g.ns]; exact hr4) ?_
      exact tl_law (d1 := 200) hR g1.1 (ef_X12_law (d := 164) g1.1 hy') (by decide) ht (fun z => absurd z (by decide)) (K _ _ _ _ _ _ g1 hI2)
theorem cs_work {n b : Nat} {scr : Nat → Int32} {i : Int32} {r r' : Nat × Nat} {qc qd qs qn : Nat} {h : am_H} {M : Mem} (hR : Rd n b i) (g : LH qc qd qs qn h) (hI : INV qc qd qs qn M) (hr1 : r'.1 + 1 ≤ r.1) (hr2 : r'.2 + 6 ≤ r.2) (hr3 : ncS 83 ≤ r'.1) (hr4 : nsS 83 ≤ r'.2) (K : ∀ (qc qd qs qn : Nat) (h : am_H) (M : Mem), LH qc qd qs qn h → INV qc qd qs qn M → am_AtG [] lawPo (am_XS n scr) 202 mLW 2467 (lwL i none none) [] (am_hM h M) r') : am_AtG [] lawPo (am_XS n scr) 202 mLW 397 (lwL i none none) [] (am_hM h M) r := by
  obtain ⟨⟨y1, M1⟩, hy, ⟨w, M2⟩, hy', ha, hI2⟩ := u_work (x := scr (b + 1)) hI
  have E : am_Ev 200 mX11_work [.inr (0, 0), am_I (scr (b + 1))] (am_hM h M) (am_o1 h (y1, M1)) := by
    rcases hI.2.2.1 with ⟨rfl, rfl⟩ | ⟨rfl, rfl⟩
    · exact ef_X11_work_24 (d := 163) (h := h) g.1 g.2.1 hy
    · exact ef_X11_work_25 (d := 163) (h := h) g.1 g.2.1 hy
  have g1 := g
  cases y1 with
  | inl v =>
    obtain ⟨ht, hv⟩ := ha
    refine hd'_work (d1 := 201) hR (h1 := am_ur (h) 82 0 (am_lc v)) (M1 := M1) (k := 0) (r' := r') (hp_work (d := 200) (h := am_hM h M) (h1 := am_hM (h) M1) (sh_0 g.1) (sh_82 g.1) rfl E) rfl (by decide) hr1 hr2 (by rw [g.nc]; exact hr3) (by rw [g.ns]; exact hr4) ?_
    exact tl_work (d1 := 200) hR (LH.out g1).1 (ef_X12_work (d := 161) (LH.out g1).1 hy') (by decide) ht (lw_ho hv) (K _ _ _ _ _ _ (LH.out g1) hI2)
  | inr Ex =>
    obtain ⟨rfl, ht⟩ := ha
    refine hd'_work (d1 := 201) hR (h1 := h) (M1 := M1) (k := 1) (r' := r') (hx_work_I (d := 200) (h := am_hM h M) (h1 := am_hM (h) M1) (sh_0 g.1) (sh_82 g.1) rfl E) rfl (by decide) hr1 hr2 (by rw [g.nc]; exact hr3) (by rw [g.ns]; exact hr4) ?_
    exact tl_work (d1 := 200) hR g1.1 (ef_X12_work (d := 161) g1.1 hy') (by decide) ht (fun z => absurd z (by decide)) (K _ _ _ _ _ _ g1 hI2)
theorem cs_book {n b : Nat} {scr : Nat → Int32} {i : Int32} {r r' : Nat × Nat} {qc qd qs qn : Nat} {h : am_H} {M : Mem} (hR : Rd n b i) (g : LH qc qd qs qn h) (hI : INV qc qd qs qn M) (hr1 : r'.1 + 1 ≤ r.1) (hr2 : r'.2 + 6 ≤ r.2) (hr3 : ncS 83 ≤ r'.1) (hr4 : nsS 83 ≤ r'.2) (K : ∀ (qc qd qs qn : Nat) (h : am_H) (M : Mem), LH qc qd qs qn h → INV qc qd qs qn M → am_AtG [] lawPo (am_XS n scr) 202 mLW 2467 (lwL i none none) [] (am_hM h M) r') : am_AtG [] lawPo (am_XS n scr) 202 mLW 453 (lwL i none none) [] (am_hM h M) r := by
  obtain ⟨⟨y1, bb, M1⟩, hy, ⟨w, M2⟩, hy', ha, hI2⟩ := u_book (x := scr (b + 1)) hI
  have E : am_Ev 200 mX11_book [.inr (0, 0), am_I (scr (b + 1))] (am_hM h M) (am_o1w (fun b => swb b (swN h qs qn) h) (y1, bb, M1)) := by
    rcases hI.2.2.2 with ⟨rfl, rfl⟩ | ⟨rfl, rfl⟩
    · exact ef_X11_book_46 (d := 196) (h := h) g.1 g.2.2 hy
    · exact ef_X11_book_47 (d := 196) (h := h) g.1 g.2.2 hy
  cases bb with
  | true =>
    have g1 := (swN.LH g)
    cases y1 with
    | inl v =>
      obtain ⟨ht, hv⟩ := ha
      refine hd'_book (d1 := 201) hR (h1 := am_ur (swN h qs qn) 82 0 (am_lc v)) (M1 := M1) (k := 0) (r' := r') (hp_book (d := 200) (h := am_hM h M) (h1 := am_hM (swN h qs qn) M1) (sh_0 g.1) (sh_82 g.1) rfl E) rfl (by decide) hr1 hr2 (by rw [g.nc]; exact hr3) (by rw [g.ns]; exact hr4) ?_
      exact tl_book (d1 := 200) hR (LH.out g1).1 (ef_X12_book (d := 197) (LH.out g1).1 hy') (by decide) ht (lw_ho hv) (K _ _ _ _ _ _ (LH.out g1) hI2)
    | inr Ex =>
      obtain ⟨rfl, ht⟩ := ha
      refine hd'_book (d1 := 201) hR (h1 := swN h qs qn) (M1 := M1) (k := 1) (r' := r') (hx_book_I (d := 200) (h := am_hM h M) (h1 := am_hM (swN h qs qn) M1) (sh_0 g.1) (sh_82 g.1) rfl E) rfl (by decide) hr1 hr2 (by rw [g.nc]; exact hr3) (by rw [g.ns]; exact hr4) ?_
      exact tl_book (d1 := 200) hR g1.1 (ef_X12_book (d := 197) g1.1 hy') (by decide) ht (fun z => absurd z (by decide)) (K _ _ _ _ _ _ g1 hI2)
  | false =>
    have g1 := g
    cases y1 with
    | inl v =>
      obtain ⟨ht, hv⟩ := ha
      refine hd'_book (d1 := 201) hR (h1 := am_ur (h) 82 0 (am_lc v)) (M1 := M1) (k := 0) (r' := r') (hp_book (d := 200) (h := am_hM h M) (h1 := am_hM (h) M1) (sh_0 g.1) (sh_82 g.1) rfl E) rfl (by decide) hr1 hr2 (by rw [g.nc]; exact hr3) (by rw [g.ns]; exact hr4) ?_
      exact tl_book (d1 := 200) hR (LH.out g1).1 (ef_X12_book (d := 197) (LH.out g1).1 hy') (by decide) ht (lw_ho hv) (K _ _ _ _ _ _ (LH.out g1) hI2)
    | inr Ex =>
      obtain ⟨rfl, ht⟩ := ha
      refine hd'_book (d1 := 201) hR (h1 := h) (M1 := M1) (k := 1) (r' := r') (hx_book_I (d := 200) (h := am_hM h M) (h1 := am_hM (h) M1) (sh_0 g.1) (sh_82 g.1) rfl E) rfl (by decide) hr1 hr2 (by rw [g.nc]; exact hr3) (by rw [g.ns]; exact hr4) ?_
      exact tl_book (d1 := 200) hR g1.1 (ef_X12_book (d := 197) g1.1 hy') (by decide) ht (fun z => absurd z (by decide)) (K _ _ _ _ _ _ g1 hI2)
theorem cs_fault {n b : Nat} {scr : Nat → Int32} {i : Int32} {r r' : Nat × Nat} {qc qd qs qn : Nat} {h : am_H} {M : Mem} (hR : Rd n b i) (g : LH qc qd qs qn h) (hI : INV qc qd qs qn M) (hr1 : r'.1 + 1 ≤ r.1) (hr2 : r'.2 + 6 ≤ r.2) (hr3 : ncS 83 ≤ r'.1) (hr4 : nsS 83 ≤ r'.2) (K : ∀ (qc qd qs qn : Nat) (h : am_H) (M : Mem), LH qc qd qs qn h → INV qc qd qs qn M → am_AtG [] lawPo (am_XS n scr) 202 mLW 2467 (lwL i none none) [] (am_hM h M) r') : am_AtG [] lawPo (am_XS n scr) 202 mLW 509 (lwL i none none) [] (am_hM h M) r := by
  obtain ⟨hy, hI2⟩ := u_fault  hI
  exact pl_fault hR (d1 := 200) (v := (f_X12_fault M).1) (M1 := M) (M2 := (f_X12_fault M).2) g.1 (ef_X11_fault (d := 200) g.1 hy) (ef_X12_fault (d := 200) g.1 rfl) (by decide) (am_AtG.less (r' := r') (by omega) (by omega) (by rw [LH.nc g]; exact hr3) (by rw [LH.ns g]; exact hr4) (K _ _ _ _ _ _ g hI2))
theorem cs_undo {n b : Nat} {scr : Nat → Int32} {i : Int32} {r r' : Nat × Nat} {qc qd qs qn : Nat} {h : am_H} {M : Mem} (hR : Rd n b i) (g : LH qc qd qs qn h) (hI : INV qc qd qs qn M) (hr1 : r'.1 + 1 ≤ r.1) (hr2 : r'.2 + 6 ≤ r.2) (hr3 : ncS 83 ≤ r'.1) (hr4 : nsS 83 ≤ r'.2) (K : ∀ (qc qd qs qn : Nat) (h : am_H) (M : Mem), LH qc qd qs qn h → INV qc qd qs qn M → am_AtG [] lawPo (am_XS n scr) 202 mLW 2467 (lwL i none none) [] (am_hM h M) r') : am_AtG [] lawPo (am_XS n scr) 202 mLW 522 (lwL i none none) [] (am_hM h M) r := by
  obtain ⟨⟨v, M1⟩, hy, ⟨w, M2⟩, hy', e, hI2⟩ := u_undo  hI
  have e : v = w := e
  subst e
  have E : am_Ev 200 mX11_undo [.inr (0, 0)] (am_hM h M) (.inl (some (am_I v), am_hM h M1)) := by
    exact ef_X11_undo (d := 198) (h := h) g.1 hy
  exact pl_undo hR (d1 := 200) g.1 E (ef_X12_undo (d := 199) g.1 hy') (by decide) (am_AtG.less (r' := r') (by omega) (by omega) (by rw [LH.nc g]; exact hr3) (by rw [LH.ns g]; exact hr4) (K _ _ _ _ _ _ g hI2))
theorem cs_told {n b : Nat} {scr : Nat → Int32} {i : Int32} {r r' : Nat × Nat} {qc qd qs qn : Nat} {h : am_H} {M : Mem} (hR : Rd n b i) (g : LH qc qd qs qn h) (hI : INV qc qd qs qn M) (hr1 : r'.1 + 1 ≤ r.1) (hr2 : r'.2 + 6 ≤ r.2) (hr3 : ncS 83 ≤ r'.1) (hr4 : nsS 83 ≤ r'.2) (K : ∀ (qc qd qs qn : Nat) (h : am_H) (M : Mem), LH qc qd qs qn h → INV qc qd qs qn M → am_AtG [] lawPo (am_XS n scr) 202 mLW 2467 (lwL i none none) [] (am_hM h M) r') : am_AtG [] lawPo (am_XS n scr) 202 mLW 535 (lwL i none none) [] (am_hM h M) r := by
  obtain ⟨⟨y1, M1⟩, hy, ⟨w, M2⟩, hy', ha, hI2⟩ := u_told (x := scr (b + 1)) hI
  have E : am_Ev 200 mX11_told [.inr (0, 0), am_I (scr (b + 1))] (am_hM h M) (am_o1 h (y1, M1)) := by
    rcases hI.2.2.1 with ⟨rfl, rfl⟩ | ⟨rfl, rfl⟩
    · exact ef_X11_told_24 (d := 194) (h := h) g.1 g.2.1 hy
    · exact ef_X11_told_25 (d := 194) (h := h) g.1 g.2.1 hy
  have g1 := g
  cases y1 with
  | inl v =>
    obtain ⟨ht, hv⟩ := ha
    refine hd'_told (d1 := 201) hR (h1 := am_ur (h) 82 0 (am_lc v)) (M1 := M1) (k := 0) (r' := r') (hp_told (d := 200) (h := am_hM h M) (h1 := am_hM (h) M1) (sh_0 g.1) (sh_82 g.1) rfl E) rfl (by decide) hr1 hr2 (by rw [g.nc]; exact hr3) (by rw [g.ns]; exact hr4) ?_
    exact tl_told (d1 := 200) hR (LH.out g1).1 (ef_X12_told (d := 193) (LH.out g1).1 hy') (by decide) ht (lw_ho hv) (K _ _ _ _ _ _ (LH.out g1) hI2)
  | inr Ex =>
    obtain ⟨rfl, ht⟩ := ha
    refine hd'_told (d1 := 201) hR (h1 := h) (M1 := M1) (k := 1) (r' := r') (hx_told_I (d := 200) (h := am_hM h M) (h1 := am_hM (h) M1) (sh_0 g.1) (sh_82 g.1) rfl E) rfl (by decide) hr1 hr2 (by rw [g.nc]; exact hr3) (by rw [g.ns]; exact hr4) ?_
    exact tl_told (d1 := 200) hR g1.1 (ef_X12_told (d := 193) g1.1 hy') (by decide) ht (fun z => absurd z (by decide)) (K _ _ _ _ _ _ g1 hI2)
theorem cs_board {n b : Nat} {scr : Nat → Int32} {i : Int32} {r r' : Nat × Nat} {qc qd qs qn : Nat} {h : am_H} {M : Mem} (hR : Rd n b i) (g : LH qc qd qs qn h) (hI : INV qc qd qs qn M) (hr1 : r'.1 + 1 ≤ r.1) (hr2 : r'.2 + 6 ≤ r.2) (hr3 : ncS 83 ≤ r'.1) (hr4 : nsS 83 ≤ r'.2) (K : ∀ (qc qd qs qn : Nat) (h : am_H) (M : Mem), LH qc qd qs qn h → INV qc qd qs qn M → am_AtG [] lawPo (am_XS n scr) 202 mLW 2467 (lwL i none none) [] (am_hM h M) r') : am_AtG [] lawPo (am_XS n scr) 202 mLW 591 (lwL i none none) [] (am_hM h M) r := by
  obtain ⟨⟨y1, M1⟩, hy, ⟨w, M2⟩, hy', ha, hI2⟩ := u_board (x := scr (b + 1)) (y := scr (b + 2)) hI
  have E : am_Ev 200 mX11_board [.inr (0, 0), am_I (scr (b + 1)), am_I (scr (b + 2))] (am_hM h M) (am_o1 h (y1, M1)) := by
    rcases hI.2.2.1 with ⟨rfl, rfl⟩ | ⟨rfl, rfl⟩
    · exact ef_X11_board_24 (d := 194) (h := h) g.1 g.2.1 hy
    · exact ef_X11_board_25 (d := 194) (h := h) g.1 g.2.1 hy
  have g1 := g
  cases y1 with
  | inl v =>
    obtain ⟨ht, hv⟩ := ha
    refine hd'_board (d1 := 201) hR (h1 := am_ur (h) 82 0 (am_lc v)) (M1 := M1) (k := 0) (r' := r') (hp_board (d := 200) (h := am_hM h M) (h1 := am_hM (h) M1) (sh_0 g.1) (sh_82 g.1) rfl E) rfl (by decide) hr1 hr2 (by rw [g.nc]; exact hr3) (by rw [g.ns]; exact hr4) ?_
    exact tl_board (d1 := 200) hR (LH.out g1).1 (ef_X12_board (d := 194) (LH.out g1).1 hy') (by decide) ht (lw_ho hv) (K _ _ _ _ _ _ (LH.out g1) hI2)
  | inr Ex =>
    rcases ha with ⟨rfl, ht⟩ | ⟨rfl, ht⟩
    · refine hd'_board (d1 := 201) hR (h1 := h) (M1 := M1) (k := 1) (r' := r') (hx_board_N (d := 200) (h := am_hM h M) (h1 := am_hM (h) M1) (sh_0 g.1) (sh_82 g.1) rfl E) rfl (by decide) hr1 hr2 (by rw [g.nc]; exact hr3) (by rw [g.ns]; exact hr4) ?_
      exact tl_board (d1 := 200) hR g1.1 (ef_X12_board (d := 194) g1.1 hy') (by decide) ht (fun z => absurd z (by decide)) (K _ _ _ _ _ _ g1 hI2)
    · refine hd'_board (d1 := 201) hR (h1 := h) (M1 := M1) (k := 2) (r' := r') (hx_board_I (d := 200) (h := am_hM h M) (h1 := am_hM (h) M1) (sh_0 g.1) (sh_82 g.1) rfl E) rfl (by decide) hr1 hr2 (by rw [g.nc]; exact hr3) (by rw [g.ns]; exact hr4) ?_
      exact tl_board (d1 := 200) hR g1.1 (ef_X12_board (d := 194) g1.1 hy') (by decide) ht (fun z => absurd z (by decide)) (K _ _ _ _ _ _ g1 hI2)
theorem cs_barge {n b : Nat} {scr : Nat → Int32} {i : Int32} {r r' : Nat × Nat} {qc qd qs qn : Nat} {h : am_H} {M : Mem} (hR : Rd n b i) (g : LH qc qd qs qn h) (hI : INV qc qd qs qn M) (hr1 : r'.1 + 1 ≤ r.1) (hr2 : r'.2 + 6 ≤ r.2) (hr3 : ncS 83 ≤ r'.1) (hr4 : nsS 83 ≤ r'.2) (K : ∀ (qc qd qs qn : Nat) (h : am_H) (M : Mem), LH qc qd qs qn h → INV qc qd qs qn M → am_AtG [] lawPo (am_XS n scr) 202 mLW 2467 (lwL i none none) [] (am_hM h M) r') : am_AtG [] lawPo (am_XS n scr) 202 mLW 659 (lwL i none none) [] (am_hM h M) r := by
  obtain ⟨⟨y1, M1⟩, hy, ⟨w, M2⟩, hy', ha, hI2⟩ := u_barge (x := scr (b + 1)) (y := scr (b + 2)) hI
  have E : am_Ev 200 mX11_barge [.inr (0, 0), am_I (scr (b + 1)), am_I (scr (b + 2))] (am_hM h M) (am_o1 h (y1, M1)) := by
    exact ef_X11_barge (d := 199) (h := h) g.1 hy
  have g1 := g
  cases y1 with
  | inl v =>
    obtain ⟨ht, hv⟩ := ha
    refine hd'_barge (d1 := 201) hR (h1 := am_ur (h) 82 0 (am_lc v)) (M1 := M1) (k := 0) (r' := r') (hp_barge (d := 200) (h := am_hM h M) (h1 := am_hM (h) M1) (sh_0 g.1) (sh_82 g.1) rfl E) rfl (by decide) hr1 hr2 (by rw [g.nc]; exact hr3) (by rw [g.ns]; exact hr4) ?_
    exact tl_barge (d1 := 200) hR (LH.out g1).1 (ef_X12_barge (d := 199) (LH.out g1).1 hy') (by decide) ht (lw_ho hv) (K _ _ _ _ _ _ (LH.out g1) hI2)
  | inr Ex =>
    rcases ha with ⟨rfl, ht⟩ | ⟨rfl, ht⟩
    · refine hd'_barge (d1 := 201) hR (h1 := h) (M1 := M1) (k := 1) (r' := r') (hx_barge_N (d := 200) (h := am_hM h M) (h1 := am_hM (h) M1) (sh_0 g.1) (sh_82 g.1) rfl E) rfl (by decide) hr1 hr2 (by rw [g.nc]; exact hr3) (by rw [g.ns]; exact hr4) ?_
      exact tl_barge (d1 := 200) hR g1.1 (ef_X12_barge (d := 199) g1.1 hy') (by decide) ht (fun z => absurd z (by decide)) (K _ _ _ _ _ _ g1 hI2)
    · refine hd'_barge (d1 := 201) hR (h1 := h) (M1 := M1) (k := 2) (r' := r') (hx_barge_I (d := 200) (h := am_hM h M) (h1 := am_hM (h) M1) (sh_0 g.1) (sh_82 g.1) rfl E) rfl (by decide) hr1 hr2 (by rw [g.nc]; exact hr3) (by rw [g.ns]; exact hr4) ?_
      exact tl_barge (d1 := 200) hR g1.1 (ef_X12_barge (d := 199) g1.1 hy') (by decide) ht (fun z => absurd z (by decide)) (K _ _ _ _ _ _ g1 hI2)
theorem cs_street {n b : Nat} {scr : Nat → Int32} {i : Int32} {r r' : Nat × Nat} {qc qd qs qn : Nat} {h : am_H} {M : Mem} (hR : Rd n b i) (g : LH qc qd qs qn h) (hI : INV qc qd qs qn M) (hr1 : r'.1 + 1 ≤ r.1) (hr2 : r'.2 + 6 ≤ r.2) (hr3 : ncS 83 ≤ r'.1) (hr4 : nsS 83 ≤ r'.2) (K : ∀ (qc qd qs qn : Nat) (h : am_H) (M : Mem), LH qc qd qs qn h → INV qc qd qs qn M → am_AtG [] lawPo (am_XS n scr) 202 mLW 2467 (lwL i none none) [] (am_hM h M) r') : am_AtG [] lawPo (am_XS n scr) 202 mLW 727 (lwL i none none) [] (am_hM h M) r := by
  obtain ⟨⟨y1, M1⟩, hy, ⟨w, M2⟩, hy', ha, hI2⟩ := u_street (x := scr (b + 1)) (y := scr (b + 2)) hI
  have E : am_Ev 200 mX11_street [.inr (0, 0), am_I (scr (b + 1)), am_I (scr (b + 2))] (am_hM h M) (am_o1 h (y1, M1)) := by
    rcases hI.2.2.1 with ⟨rfl, rfl⟩ | ⟨rfl, rfl⟩
    · exact ef_X11_street_24 (d := 194) (h := h) g.1 g.2.1 hy
    · exact ef_X11_street_25 (d := 194) (h := h) g.1 g.2.1 hy
  have g1 := g
  cases y1 with
  | inl v =>
    obtain ⟨ht, hv⟩ := ha
    refine hd'_street (d1 := 201) hR (h1 := am_ur (h) 82 0 (am_lc v)) (M1 := M1) (k := 0) (r' := r') (hp_street (d := 200) (h := am_hM h M) (h1 := am_hM (h) M1) (sh_0 g.1) (sh_82 g.1) rfl E) rfl (by decide) hr1 hr2 (by rw [g.nc]; exact hr3) (by rw [g.ns]; exact hr4) ?_
    exact tl_street (d1 := 200) hR (LH.out g1).1 (ef_X12_street (d := 193) (LH.out g1).1 hy') (by decide) ht (lw_ho hv) (K _ _ _ _ _ _ (LH.out g1) hI2)
  | inr Ex =>
    rcases ha with ⟨rfl, ht⟩ | ⟨rfl, ht⟩
    · refine hd'_street (d1 := 201) hR (h1 := h) (M1 := M1) (k := 1) (r' := r') (hx_street_N (d := 200) (h := am_hM h M) (h1 := am_hM (h) M1) (sh_0 g.1) (sh_82 g.1) rfl E) rfl (by decide) hr1 hr2 (by rw [g.nc]; exact hr3) (by rw [g.ns]; exact hr4) ?_
      exact tl_street (d1 := 200) hR g1.1 (ef_X12_street (d := 193) g1.1 hy') (by decide) ht (fun z => absurd z (by decide)) (K _ _ _ _ _ _ g1 hI2)
    · refine hd'_street (d1 := 201) hR (h1 := h) (M1 := M1) (k := 2) (r' := r') (hx_street_I (d := 200) (h := am_hM h M) (h1 := am_hM (h) M1) (sh_0 g.1) (sh_82 g.1) rfl E) rfl (by decide) hr1 hr2 (by rw [g.nc]; exact hr3) (by rw [g.ns]; exact hr4) ?_
      exact tl_street (d1 := 200) hR g1.1 (ef_X12_street (d := 193) g1.1 hy') (by decide) ht (fun z => absurd z (by decide)) (K _ _ _ _ _ _ g1 hI2)
theorem cs_lawful {n b : Nat} {scr : Nat → Int32} {i : Int32} {r r' : Nat × Nat} {qc qd qs qn : Nat} {h : am_H} {M : Mem} (hR : Rd n b i) (g : LH qc qd qs qn h) (hI : INV qc qd qs qn M) (hr1 : r'.1 + 1 ≤ r.1) (hr2 : r'.2 + 6 ≤ r.2) (hr3 : ncS 83 ≤ r'.1) (hr4 : nsS 83 ≤ r'.2) (K : ∀ (qc qd qs qn : Nat) (h : am_H) (M : Mem), LH qc qd qs qn h → INV qc qd qs qn M → am_AtG [] lawPo (am_XS n scr) 202 mLW 2467 (lwL i none none) [] (am_hM h M) r') : am_AtG [] lawPo (am_XS n scr) 202 mLW 795 (lwL i none none) [] (am_hM h M) r := by
  obtain ⟨⟨y1, M1⟩, hy, ⟨w, M2⟩, hy', ha, hI2, hw⟩ := u_lawful (x := scr (b + 1)) (y := scr (b + 2)) (z := scr (b + 3)) hI
  have E : am_Ev 200 mX11_lawful [.inr (0, 0), am_I (scr (b + 1)), am_I (scr (b + 2)), am_I (scr (b + 3))] (am_hM h M) (am_o1 h (y1, M1)) := by
    rcases hI.2.2.1 with ⟨rfl, rfl⟩ | ⟨rfl, rfl⟩
    · exact ef_X11_lawful_24 (d := 197) (h := h) g.1 g.2.1 hy
    · exact ef_X11_lawful_25 (d := 197) (h := h) g.1 g.2.1 hy
  have g1 := g
  cases y1 with
  | inl v =>
    obtain ⟨ht, hv⟩ := ha
    rcases hw with hw | hw
    · refine hd'_lawful (d1 := 201) hR (h1 := am_ur h 82 0 (am_lc 0)) (M1 := M1) (k := 0) (r' := r') (hp_lawful0 (d := 200) (h := am_hM h M) (h1 := am_hM h M1) (hv.trans hw) (sh_0 g.1) (sh_82 g.1) rfl E) rfl (by decide) hr1 hr2 (by rw [g.nc]; exact hr3) (by rw [g.ns]; exact hr4) ?_
      exact tl_lawful (d1 := 200) hR (LH.out g1).1 (ef_X12_lawful (d := 196) (LH.out g1).1 hy') (by decide) ht (lw_ho hw.symm) (Or.inl hw) (K _ _ _ _ _ _ (LH.out g1) hI2)
    · refine hd'_lawful (d1 := 201) hR (h1 := am_ur h 82 0 (am_lc 1)) (M1 := M1) (k := 0) (r' := r') (hp_lawful1 (d := 200) (h := am_hM h M) (h1 := am_hM h M1) (fun z9 => absurd ((hv.trans hw).symm.trans z9) (by decide)) (sh_0 g.1) (sh_82 g.1) rfl E) rfl (by decide) hr1 hr2 (by rw [g.nc]; exact hr3) (by rw [g.ns]; exact hr4) ?_
      exact tl_lawful (d1 := 200) hR (LH.out g1).1 (ef_X12_lawful (d := 196) (LH.out g1).1 hy') (by decide) ht (lw_ho hw.symm) (Or.inr hw) (K _ _ _ _ _ _ (LH.out g1) hI2)
  | inr Ex =>
    rcases ha with ⟨rfl, ht⟩ | ⟨rfl, ht⟩
    · refine hd'_lawful (d1 := 201) hR (h1 := h) (M1 := M1) (k := 1) (r' := r') (hx_lawful_N (d := 200) (h := am_hM h M) (h1 := am_hM (h) M1) (sh_0 g.1) (sh_82 g.1) rfl E) rfl (by decide) hr1 hr2 (by rw [g.nc]; exact hr3) (by rw [g.ns]; exact hr4) ?_
      exact tl_lawful (d1 := 200) hR g1.1 (ef_X12_lawful (d := 196) g1.1 hy') (by decide) ht (fun z => absurd z (by decide)) hw (K _ _ _ _ _ _ g1 hI2)
    · refine hd'_lawful (d1 := 201) hR (h1 := h) (M1 := M1) (k := 2) (r' := r') (hx_lawful_I (d := 200) (h := am_hM h M) (h1 := am_hM (h) M1) (sh_0 g.1) (sh_82 g.1) rfl E) rfl (by decide) hr1 hr2 (by rw [g.nc]; exact hr3) (by rw [g.ns]; exact hr4) ?_
      exact tl_lawful (d1 := 200) hR g1.1 (ef_X12_lawful (d := 196) g1.1 hy') (by decide) ht (fun z => absurd z (by decide)) hw (K _ _ _ _ _ _ g1 hI2)
theorem cs_opens {n b : Nat} {scr : Nat → Int32} {i : Int32} {r r' : Nat × Nat} {qc qd qs qn : Nat} {h : am_H} {M : Mem} (hR : Rd n b i) (g : LH qc qd qs qn h) (hI : INV qc qd qs qn M) (hr1 : r'.1 + 1 ≤ r.1) (hr2 : r'.2 + 6 ≤ r.2) (hr3 : ncS 83 ≤ r'.1) (hr4 : nsS 83 ≤ r'.2) (K : ∀ (qc qd qs qn : Nat) (h : am_H) (M : Mem), LH qc qd qs qn h → INV qc qd qs qn M → am_AtG [] lawPo (am_XS n scr) 202 mLW 2467 (lwL i none none) [] (am_hM h M) r') : am_AtG [] lawPo (am_XS n scr) 202 mLW 882 (lwL i none none) [] (am_hM h M) r := by
  obtain ⟨⟨y1, M1⟩, hy, ⟨w, M2⟩, hy', ha, hI2⟩ := u_opens (x := scr (b + 1)) hI
  have E : am_Ev 200 mX11_opens [.inr (0, 0), am_I (scr (b + 1))] (am_hM h M) (am_o1 h (y1, M1)) := by
    rcases hI.2.2.1 with ⟨rfl, rfl⟩ | ⟨rfl, rfl⟩
    · exact ef_X11_opens_24 (d := 195) (h := h) g.1 g.2.1 hy
    · exact ef_X11_opens_25 (d := 195) (h := h) g.1 g.2.1 hy
  have g1 := g
  cases y1 with
  | inl v =>
    obtain ⟨ht, hv⟩ := ha
    refine hd'_opens (d1 := 201) hR (h1 := am_ur (h) 82 0 (am_lc v)) (M1 := M1) (k := 0) (r' := r') (hp_opens (d := 200) (h := am_hM h M) (h1 := am_hM (h) M1) (sh_0 g.1) (sh_82 g.1) rfl E) rfl (by decide) hr1 hr2 (by rw [g.nc]; exact hr3) (by rw [g.ns]; exact hr4) ?_
    exact tl_opens (d1 := 200) hR (LH.out g1).1 (ef_X12_opens (d := 192) (LH.out g1).1 hy') (by decide) ht (lw_ho hv) (K _ _ _ _ _ _ (LH.out g1) hI2)
  | inr Ex =>
    obtain ⟨rfl, ht⟩ := ha
    refine hd'_opens (d1 := 201) hR (h1 := h) (M1 := M1) (k := 1) (r' := r') (hx_opens_N (d := 200) (h := am_hM h M) (h1 := am_hM (h) M1) (sh_0 g.1) (sh_82 g.1) rfl E) rfl (by decide) hr1 hr2 (by rw [g.nc]; exact hr3) (by rw [g.ns]; exact hr4) ?_
    exact tl_opens (d1 := 200) hR g1.1 (ef_X12_opens (d := 192) g1.1 hy') (by decide) ht (fun z => absurd z (by decide)) (K _ _ _ _ _ _ g1 hI2)
theorem cs_often {n b : Nat} {scr : Nat → Int32} {i : Int32} {r r' : Nat × Nat} {qc qd qs qn : Nat} {h : am_H} {M : Mem} (hR : Rd n b i) (g : LH qc qd qs qn h) (hI : INV qc qd qs qn M) (hr1 : r'.1 + 1 ≤ r.1) (hr2 : r'.2 + 6 ≤ r.2) (hr3 : ncS 83 ≤ r'.1) (hr4 : nsS 83 ≤ r'.2) (K : ∀ (qc qd qs qn : Nat) (h : am_H) (M : Mem), LH qc qd qs qn h → INV qc qd qs qn M → am_AtG [] lawPo (am_XS n scr) 202 mLW 2467 (lwL i none none) [] (am_hM h M) r') : am_AtG [] lawPo (am_XS n scr) 202 mLW 938 (lwL i none none) [] (am_hM h M) r := by
  obtain ⟨⟨y1, M1⟩, hy, ⟨w, M2⟩, hy', ha, hI2⟩ := u_often (x := scr (b + 1)) (y := scr (b + 2)) hI
  have E : am_Ev 200 mX11_often [.inr (0, 0), am_I (scr (b + 1)), am_I (scr (b + 2))] (am_hM h M) (am_o1 h (y1, M1)) := by
    rcases hI.2.2.1 with ⟨rfl, rfl⟩ | ⟨rfl, rfl⟩
    · exact ef_X11_often_24 (d := 195) (h := h) g.1 g.2.1 hy
    · exact ef_X11_often_25 (d := 195) (h := h) g.1 g.2.1 hy
  have g1 := g
  cases y1 with
  | inl v =>
    obtain ⟨ht, hv⟩ := ha
    refine hd'_often (d1 := 201) hR (h1 := am_ur (h) 82 0 (am_lc v)) (M1 := M1) (k := 0) (r' := r') (hp_often (d := 200) (h := am_hM h M) (h1 := am_hM (h) M1) (sh_0 g.1) (sh_82 g.1) rfl E) rfl (by decide) hr1 hr2 (by rw [g.nc]; exact hr3) (by rw [g.ns]; exact hr4) ?_
    exact tl_often (d1 := 200) hR (LH.out g1).1 (ef_X12_often (d := 192) (LH.out g1).1 hy') (by decide) ht (lw_ho hv) (K _ _ _ _ _ _ (LH.out g1) hI2)
  | inr Ex =>
    rcases ha with ⟨rfl, ht⟩ | ⟨rfl, ht⟩
    · refine hd'_often (d1 := 201) hR (h1 := h) (M1 := M1) (k := 1) (r' := r') (hx_often_N (d := 200) (h := am_hM h M) (h1 := am_hM (h) M1) (sh_0 g.1) (sh_82 g.1) rfl E) rfl (by decide) hr1 hr2 (by rw [g.nc]; exact hr3) (by rw [g.ns]; exact hr4) ?_
      exact tl_often (d1 := 200) hR g1.1 (ef_X12_often (d := 192) g1.1 hy') (by decide) ht (fun z => absurd z (by decide)) (K _ _ _ _ _ _ g1 hI2)
    · refine hd'_often (d1 := 201) hR (h1 := h) (M1 := M1) (k := 2) (r' := r') (hx_often_I (d := 200) (h := am_hM h M) (h1 := am_hM (h) M1) (sh_0 g.1) (sh_82 g.1) rfl E) rfl (by decide) hr1 hr2 (by rw [g.nc]; exact hr3) (by rw [g.ns]; exact hr4) ?_
      exact tl_often (d1 := 200) hR g1.1 (ef_X12_often (d := 192) g1.1 hy') (by decide) ht (fun z => absurd z (by decide)) (K _ _ _ _ _ _ g1 hI2)
theorem cs_busiest {n b : Nat} {scr : Nat → Int32} {i : Int32} {r r' : Nat × Nat} {qc qd qs qn : Nat} {h : am_H} {M : Mem} (hR : Rd n b i) (g : LH qc qd qs qn h) (hI : INV qc qd qs qn M) (hr1 : r'.1 + 1 ≤ r.1) (hr2 : r'.2 + 6 ≤ r.2) (hr3 : ncS 83 ≤ r'.1) (hr4 : nsS 83 ≤ r'.2) (K : ∀ (qc qd qs qn : Nat) (h : am_H) (M : Mem), LH qc qd qs qn h → INV qc qd qs qn M → am_AtG [] lawPo (am_XS n scr) 202 mLW 2467 (lwL i none none) [] (am_hM h M) r') : am_AtG [] lawPo (am_XS n scr) 202 mLW 1006 (lwL i none none) [] (am_hM h M) r := by
  obtain ⟨⟨v, M1⟩, hy, ⟨w, M2⟩, hy', e, hI2⟩ := u_busiest  hI
  have e : v = w := e
  subst e
  have E : am_Ev 200 mX11_busiest [.inr (0, 0)] (am_hM h M) (.inl (some (am_I v), am_hM h M1)) := by
    rcases hI.2.2.1 with ⟨rfl, rfl⟩ | ⟨rfl, rfl⟩
    · exact ef_X11_busiest_24 (d := 197) (h := h) g.1 g.2.1 hy
    · exact ef_X11_busiest_25 (d := 197) (h := h) g.1 g.2.1 hy
  exact pl_busiest hR (d1 := 200) g.1 E (ef_X12_busiest (d := 196) g.1 hy') (by decide) (am_AtG.less (r' := r') (by omega) (by omega) (by rw [LH.nc g]; exact hr3) (by rw [LH.ns g]; exact hr4) (K _ _ _ _ _ _ g hI2))
theorem cs_trip {n b : Nat} {scr : Nat → Int32} {i : Int32} {r r' : Nat × Nat} {qc qd qs qn : Nat} {h : am_H} {M : Mem} (hR : Rd n b i) (g : LH qc qd qs qn h) (hI : INV qc qd qs qn M) (hr1 : r'.1 + 1 ≤ r.1) (hr2 : r'.2 + 6 ≤ r.2) (hr3 : ncS 83 ≤ r'.1) (hr4 : nsS 83 ≤ r'.2) (K : ∀ (qc qd qs qn : Nat) (h : am_H) (M : Mem), LH qc qd qs qn h → INV qc qd qs qn M → am_AtG [] lawPo (am_XS n scr) 202 mLW 2467 (lwL i none none) [] (am_hM h M) r') : am_AtG [] lawPo (am_XS n scr) 202 mLW 1019 (lwL i none none) [] (am_hM h M) r := by
  obtain ⟨⟨y1, M1⟩, hy, ⟨w, M2⟩, hy', ha, hI2⟩ := u_trip (x := scr (b + 1)) (y := scr (b + 2)) (z := scr (b + 3)) hI
  have E : am_Ev 200 mX11_trip [.inr (0, 0), am_I (scr (b + 1)), am_I (scr (b + 2)), am_I (scr (b + 3))] (am_hM h M) (am_o1 h (y1, M1)) := by
    rcases hI.2.2.1 with ⟨rfl, rfl⟩ | ⟨rfl, rfl⟩
    · exact ef_X11_trip_24 (d := 194) (h := h) g.1 g.2.1 hy
    · exact ef_X11_trip_25 (d := 194) (h := h) g.1 g.2.1 hy
  have g1 := g
  cases y1 with
  | inl v =>
    obtain ⟨ht, hv⟩ := ha
    refine hd'_trip (d1 := 201) hR (h1 := am_ur (h) 82 0 (am_lc v)) (M1 := M1) (k := 0) (r' := r') (hp_trip (d := 200) (h := am_hM h M) (h1 := am_hM (h) M1) (sh_0 g.1) (sh_82 g.1) rfl E) rfl (by decide) hr1 hr2 (by rw [g.nc]; exact hr3) (by rw [g.ns]; exact hr4) ?_
    exact tl_trip (d1 := 200) hR (LH.out g1).1 (ef_X12_trip (d := 191) (LH.out g1).1 hy') (by decide) ht (lw_ho hv) (K _ _ _ _ _ _ (LH.out g1) hI2)
  | inr Ex =>
    obtain ⟨rfl, ht⟩ := ha
    refine hd'_trip (d1 := 201) hR (h1 := h) (M1 := M1) (k := 1) (r' := r') (hx_trip_I (d := 200) (h := am_hM h M) (h1 := am_hM (h) M1) (sh_0 g.1) (sh_82 g.1) rfl E) rfl (by decide) hr1 hr2 (by rw [g.nc]; exact hr3) (by rw [g.ns]; exact hr4) ?_
    exact tl_trip (d1 := 200) hR g1.1 (ef_X12_trip (d := 191) g1.1 hy') (by decide) ht (fun z => absurd z (by decide)) (K _ _ _ _ _ _ g1 hI2)
theorem cs_soonest {n b : Nat} {scr : Nat → Int32} {i : Int32} {r r' : Nat × Nat} {qc qd qs qn : Nat} {h : am_H} {M : Mem} (hR : Rd n b i) (g : LH qc qd qs qn h) (hI : INV qc qd qs qn M) (hr1 : r'.1 + 1 ≤ r.1) (hr2 : r'.2 + 6 ≤ r.2) (hr3 : ncS 83 ≤ r'.1) (hr4 : nsS 83 ≤ r'.2) (K : ∀ (qc qd qs qn : Nat) (h : am_H) (M : Mem), LH qc qd qs qn h → INV qc qd qs qn M → am_AtG [] lawPo (am_XS n scr) 202 mLW 2467 (lwL i none none) [] (am_hM h M) r') : am_AtG [] lawPo (am_XS n scr) 202 mLW 1099 (lwL i none none) [] (am_hM h M) r := by
  obtain ⟨⟨y1, M1⟩, hy, ⟨w, M2⟩, hy', ha, hI2⟩ := u_soonest (x := scr (b + 1)) (y := scr (b + 2)) (z := scr (b + 3)) hI
  have E : am_Ev 200 mX11_soonest [.inr (0, 0), am_I (scr (b + 1)), am_I (scr (b + 2)), am_I (scr (b + 3))] (am_hM h M) (am_o1 h (y1, M1)) := by
    rcases hI.2.2.1 with ⟨rfl, rfl⟩ | ⟨rfl, rfl⟩
    · exact ef_X11_soonest_24 (d := 194) (h := h) g.1 g.2.1 hy
    · exact ef_X11_soonest_25 (d := 194) (h := h) g.1 g.2.1 hy
  have g1 := g
  cases y1 with
  | inl v =>
    obtain ⟨ht, hv⟩ := ha
    refine hd'_soonest (d1 := 201) hR (h1 := am_ur (h) 82 0 (am_lc v)) (M1 := M1) (k := 0) (r' := r') (hp_soonest (d := 200) (h := am_hM h M) (h1 := am_hM (h) M1) (sh_0 g.1) (sh_82 g.1) rfl E) rfl (by decide) hr1 hr2 (by rw [g.nc]; exact hr3) (by rw [g.ns]; exact hr4) ?_
    exact tl_soonest (d1 := 200) hR (LH.out g1).1 (ef_X12_soonest (d := 191) (LH.out g1).1 hy') (by decide) ht (lw_ho hv) (K _ _ _ _ _ _ (LH.out g1) hI2)
  | inr Ex =>
    obtain ⟨rfl, ht⟩ := ha
    refine hd'_soonest (d1 := 201) hR (h1 := h) (M1 := M1) (k := 1) (r' := r') (hx_soonest_I (d := 200) (h := am_hM h M) (h1 := am_hM (h) M1) (sh_0 g.1) (sh_82 g.1) rfl E) rfl (by decide) hr1 hr2 (by rw [g.nc]; exact hr3) (by rw [g.ns]; exact hr4) ?_
    exact tl_soonest (d1 := 200) hR g1.1 (ef_X12_soonest (d := 191) g1.1 hy') (by decide) ht (fun z => absurd z (by decide)) (K _ _ _ _ _ _ g1 hI2)
theorem cs_hold {n b : Nat} {scr : Nat → Int32} {i : Int32} {r r' : Nat × Nat} {qc qd qs qn : Nat} {h : am_H} {M : Mem} (hR : Rd n b i) (g : LH qc qd qs qn h) (hI : INV qc qd qs qn M) (hr1 : r'.1 + 1 ≤ r.1) (hr2 : r'.2 + 6 ≤ r.2) (hr3 : ncS 83 ≤ r'.1) (hr4 : nsS 83 ≤ r'.2) (K : ∀ (qc qd qs qn : Nat) (h : am_H) (M : Mem), LH qc qd qs qn h → INV qc qd qs qn M → am_AtG [] lawPo (am_XS n scr) 202 mLW 2467 (lwL i none none) [] (am_hM h M) r') : am_AtG [] lawPo (am_XS n scr) 202 mLW 1179 (lwL i none none) [] (am_hM h M) r := by
  obtain ⟨⟨y1, M1⟩, hy, ⟨w, M2⟩, hy', ha, hI2⟩ := u_hold (x := scr (b + 1)) (y := scr (b + 2)) hI
  have E : am_Ev 200 mX11_hold [.inr (0, 0), am_I (scr (b + 1)), am_I (scr (b + 2))] (am_hM h M) (am_o1 h (y1, M1)) := by
    rcases hI.2.2.1 with ⟨rfl, rfl⟩ | ⟨rfl, rfl⟩
    · exact ef_X11_hold_24 (d := 195) (h := h) g.1 g.2.1 hy
    · exact ef_X11_hold_25 (d := 195) (h := h) g.1 g.2.1 hy
  have g1 := g
  cases y1 with
  | inl v =>
    obtain ⟨ht, hv⟩ := ha
    refine hd'_hold (d1 := 201) hR (h1 := am_ur (h) 82 0 (am_lc v)) (M1 := M1) (k := 0) (r' := r') (hp_hold (d := 200) (h := am_hM h M) (h1 := am_hM (h) M1) (sh_0 g.1) (sh_82 g.1) rfl E) rfl (by decide) hr1 hr2 (by rw [g.nc]; exact hr3) (by rw [g.ns]; exact hr4) ?_
    exact tl_hold (d1 := 200) hR (LH.out g1).1 (ef_X12_hold (d := 192) (LH.out g1).1 hy') (by decide) ht (lw_ho hv) (K _ _ _ _ _ _ (LH.out g1) hI2)
  | inr Ex =>
    obtain ⟨rfl, ht⟩ := ha
    refine hd'_hold (d1 := 201) hR (h1 := h) (M1 := M1) (k := 1) (r' := r') (hx_hold_I (d := 200) (h := am_hM h M) (h1 := am_hM (h) M1) (sh_0 g.1) (sh_82 g.1) rfl E) rfl (by decide) hr1 hr2 (by rw [g.nc]; exact hr3) (by rw [g.ns]; exact hr4) ?_
    exact tl_hold (d1 := 200) hR g1.1 (ef_X12_hold (d := 192) g1.1 hy') (by decide) ht (fun z => absurd z (by decide)) (K _ _ _ _ _ _ g1 hI2)
theorem cs_tallest {n b : Nat} {scr : Nat → Int32} {i : Int32} {r r' : Nat × Nat} {qc qd qs qn : Nat} {h : am_H} {M : Mem} (hR : Rd n b i) (g : LH qc qd qs qn h) (hI : INV qc qd qs qn M) (hr1 : r'.1 + 1 ≤ r.1) (hr2 : r'.2 + 6 ≤ r.2) (hr3 : ncS 83 ≤ r'.1) (hr4 : nsS 83 ≤ r'.2) (K : ∀ (qc qd qs qn : Nat) (h : am_H) (M : Mem), LH qc qd qs qn h → INV qc qd qs qn M → am_AtG [] lawPo (am_XS n scr) 202 mLW 2467 (lwL i none none) [] (am_hM h M) r') : am_AtG [] lawPo (am_XS n scr) 202 mLW 1247 (lwL i none none) [] (am_hM h M) r := by
  obtain ⟨⟨y1, M1⟩, hy, ⟨w, M2⟩, hy', ha, hI2⟩ := u_tallest (x := scr (b + 1)) hI
  have E : am_Ev 200 mX11_tallest [.inr (0, 0), am_I (scr (b + 1))] (am_hM h M) (am_o1 h (y1, M1)) := by
    rcases hI.2.2.1 with ⟨rfl, rfl⟩ | ⟨rfl, rfl⟩
    · exact ef_X11_tallest_24 (d := 194) (h := h) g.1 g.2.1 hy
    · exact ef_X11_tallest_25 (d := 194) (h := h) g.1 g.2.1 hy
  have g1 := g
  cases y1 with
  | inl v =>
    obtain ⟨ht, hv⟩ := ha
    refine hd'_tallest (d1 := 201) hR (h1 := am_ur (h) 82 0 (am_lc v)) (M1 := M1) (k := 0) (r' := r') (hp_tallest (d := 200) (h := am_hM h M) (h1 := am_hM (h) M1) (sh_0 g.1) (sh_82 g.1) rfl E) rfl (by decide) hr1 hr2 (by rw [g.nc]; exact hr3) (by rw [g.ns]; exact hr4) ?_
    exact tl_tallest (d1 := 200) hR (LH.out g1).1 (ef_X12_tallest (d := 191) (LH.out g1).1 hy') (by decide) ht (lw_ho hv) (K _ _ _ _ _ _ (LH.out g1) hI2)
  | inr Ex =>
    obtain ⟨rfl, ht⟩ := ha
    refine hd'_tallest (d1 := 201) hR (h1 := h) (M1 := M1) (k := 1) (r' := r') (hx_tallest_I (d := 200) (h := am_hM h M) (h1 := am_hM (h) M1) (sh_0 g.1) (sh_82 g.1) rfl E) rfl (by decide) hr1 hr2 (by rw [g.nc]; exact hr3) (by rw [g.ns]; exact hr4) ?_
    exact tl_tallest (d1 := 200) hR g1.1 (ef_X12_tallest (d := 191) g1.1 hy') (by decide) ht (fun z => absurd z (by decide)) (K _ _ _ _ _ _ g1 hI2)
theorem cs_letter {n b : Nat} {scr : Nat → Int32} {i : Int32} {r r' : Nat × Nat} {qc qd qs qn : Nat} {h : am_H} {M : Mem} (hR : Rd n b i) (g : LH qc qd qs qn h) (hI : INV qc qd qs qn M) (hr1 : r'.1 + 1 ≤ r.1) (hr2 : r'.2 + 6 ≤ r.2) (hr3 : ncS 83 ≤ r'.1) (hr4 : nsS 83 ≤ r'.2) (K : ∀ (qc qd qs qn : Nat) (h : am_H) (M : Mem), LH qc qd qs qn h → INV qc qd qs qn M → am_AtG [] lawPo (am_XS n scr) 202 mLW 2467 (lwL i none none) [] (am_hM h M) r') : am_AtG [] lawPo (am_XS n scr) 202 mLW 1303 (lwL i none none) [] (am_hM h M) r := by
  obtain ⟨⟨y1, M1⟩, hy, ⟨w, M2⟩, hy', ha, hI2⟩ := u_letter (x := scr (b + 1)) (y := scr (b + 2)) hI
  have E : am_Ev 200 mX11_letter [.inr (0, 0), am_I (scr (b + 1)), am_I (scr (b + 2))] (am_hM h M) (am_o1 h (y1, M1)) := by
    rcases hI.2.2.1 with ⟨rfl, rfl⟩ | ⟨rfl, rfl⟩
    · exact ef_X11_letter_24 (d := 195) (h := h) g.1 g.2.1 hy
    · exact ef_X11_letter_25 (d := 195) (h := h) g.1 g.2.1 hy
  have g1 := g
  cases y1 with
  | inl v =>
    obtain ⟨ht, hv⟩ := ha
    refine hd'_letter (d1 := 201) hR (h1 := am_ur (h) 82 0 (am_lc v)) (M1 := M1) (k := 0) (r' := r') (hp_letter (d := 200) (h := am_hM h M) (h1 := am_hM (h) M1) (sh_0 g.1) (sh_82 g.1) rfl E) rfl (by decide) hr1 hr2 (by rw [g.nc]; exact hr3) (by rw [g.ns]; exact hr4) ?_
    exact tl_letter (d1 := 200) hR (LH.out g1).1 (ef_X12_letter (d := 192) (LH.out g1).1 hy') (by decide) ht (lw_ho hv) (K _ _ _ _ _ _ (LH.out g1) hI2)
  | inr Ex =>
    rcases ha with ⟨rfl, ht⟩ | ⟨rfl, ht⟩
    · refine hd'_letter (d1 := 201) hR (h1 := h) (M1 := M1) (k := 1) (r' := r') (hx_letter_N (d := 200) (h := am_hM h M) (h1 := am_hM (h) M1) (sh_0 g.1) (sh_82 g.1) rfl E) rfl (by decide) hr1 hr2 (by rw [g.nc]; exact hr3) (by rw [g.ns]; exact hr4) ?_
      exact tl_letter (d1 := 200) hR g1.1 (ef_X12_letter (d := 192) g1.1 hy') (by decide) ht (fun z => absurd z (by decide)) (K _ _ _ _ _ _ g1 hI2)
    · refine hd'_letter (d1 := 201) hR (h1 := h) (M1 := M1) (k := 2) (r' := r') (hx_letter_I (d := 200) (h := am_hM h M) (h1 := am_hM (h) M1) (sh_0 g.1) (sh_82 g.1) rfl E) rfl (by decide) hr1 hr2 (by rw [g.nc]; exact hr3) (by rw [g.ns]; exact hr4) ?_
      exact tl_letter (d1 := 200) hR g1.1 (ef_X12_letter (d := 192) g1.1 hy') (by decide) ht (fun z => absurd z (by decide)) (K _ _ _ _ _ _ g1 hI2)
theorem cs_flood {n b : Nat} {scr : Nat → Int32} {i : Int32} {r r' : Nat × Nat} {qc qd qs qn : Nat} {h : am_H} {M : Mem} (hR : Rd n b i) (g : LH qc qd qs qn h) (hI : INV qc qd qs qn M) (hr1 : r'.1 + 1 ≤ r.1) (hr2 : r'.2 + 6 ≤ r.2) (hr3 : ncS 83 ≤ r'.1) (hr4 : nsS 83 ≤ r'.2) (K : ∀ (qc qd qs qn : Nat) (h : am_H) (M : Mem), LH qc qd qs qn h → INV qc qd qs qn M → am_AtG [] lawPo (am_XS n scr) 202 mLW 2467 (lwL i none none) [] (am_hM h M) r') : am_AtG [] lawPo (am_XS n scr) 202 mLW 1371 (lwL i none none) [] (am_hM h M) r := by
  obtain ⟨⟨y1, M1⟩, hy, ⟨w, M2⟩, hy', ha, hI2⟩ := u_flood (x := scr (b + 1)) hI
  have E : am_Ev 200 mX11_flood [.inr (0, 0), am_I (scr (b + 1))] (am_hM h M) (am_o1 h (y1, M1)) := by
    exact ef_X11_flood (d := 168) (h := h) g.1 hy
  have g1 := g
  cases y1 with
  | inl v =>
    obtain ⟨ht, hv⟩ := ha
    refine hd'_flood (d1 := 201) hR (h1 := am_ur (h) 82 0 (am_lc v)) (M1 := M1) (k := 0) (r' := r') (hp_flood (d := 200) (h := am_hM h M) (h1 := am_hM (h) M1) (sh_0 g.1) (sh_82 g.1) rfl E) rfl (by decide) hr1 hr2 (by rw [g.nc]; exact hr3) (by rw [g.ns]; exact hr4) ?_
    exact tl_flood (d1 := 200) hR (LH.out g1).1 (ef_X12_flood (d := 198) (LH.out g1).1 hy') (by decide) ht (lw_ho hv) (K _ _ _ _ _ _ (LH.out g1) hI2)
  | inr Ex =>
    obtain ⟨rfl, ht⟩ := ha
    refine hd'_flood (d1 := 201) hR (h1 := h) (M1 := M1) (k := 1) (r' := r') (hx_flood_I (d := 200) (h := am_hM h M) (h1 := am_hM (h) M1) (sh_0 g.1) (sh_82 g.1) rfl E) rfl (by decide) hr1 hr2 (by rw [g.nc]; exact hr3) (by rw [g.ns]; exact hr4) ?_
    exact tl_flood (d1 := 200) hR g1.1 (ef_X12_flood (d := 198) g1.1 hy') (by decide) ht (fun z => absurd z (by decide)) (K _ _ _ _ _ _ g1 hI2)
theorem cs_holds {n b : Nat} {scr : Nat → Int32} {i : Int32} {r r' : Nat × Nat} {qc qd qs qn : Nat} {h : am_H} {M : Mem} (hR : Rd n b i) (g : LH qc qd qs qn h) (hI : INV qc qd qs qn M) (hr1 : r'.1 + 1 ≤ r.1) (hr2 : r'.2 + 6 ≤ r.2) (hr3 : ncS 83 ≤ r'.1) (hr4 : nsS 83 ≤ r'.2) (K : ∀ (qc qd qs qn : Nat) (h : am_H) (M : Mem), LH qc qd qs qn h → INV qc qd qs qn M → am_AtG [] lawPo (am_XS n scr) 202 mLW 2467 (lwL i none none) [] (am_hM h M) r') : am_AtG [] lawPo (am_XS n scr) 202 mLW 1427 (lwL i none none) [] (am_hM h M) r := by
  obtain ⟨⟨y1, M1⟩, hy, ⟨w, M2⟩, hy', ha, hI2⟩ := u_holds (x := scr (b + 1)) hI
  have E : am_Ev 200 mX11_holds [.inr (0, 0), am_I (scr (b + 1))] (am_hM h M) (am_o1 h (y1, M1)) := by
    exact ef_X11_holds (d := 198) (h := h) g.1 hy
  have g1 := g
  cases y1 with
  | inl v =>
    obtain ⟨ht, hv⟩ := ha
    refine hd'_holds (d1 := 201) hR (h1 := am_ur (h) 82 0 (am_lc v)) (M1 := M1) (k := 0) (r' := r') (hp_holds (d := 200) (h := am_hM h M) (h1 := am_hM (h) M1) (sh_0 g.1) (sh_82 g.1) rfl E) rfl (by decide) hr1 hr2 (by rw [g.nc]; exact hr3) (by rw [g.ns]; exact hr4) ?_
    exact tl_holds (d1 := 200) hR (LH.out g1).1 (ef_X12_holds (d := 198) (LH.out g1).1 hy') (by decide) ht (lw_ho hv) (K _ _ _ _ _ _ (LH.out g1) hI2)
  | inr Ex =>
    obtain ⟨rfl, ht⟩ := ha
    refine hd'_holds (d1 := 201) hR (h1 := h) (M1 := M1) (k := 1) (r' := r') (hx_holds_I (d := 200) (h := am_hM h M) (h1 := am_hM (h) M1) (sh_0 g.1) (sh_82 g.1) rfl E) rfl (by decide) hr1 hr2 (by rw [g.nc]; exact hr3) (by rw [g.ns]; exact hr4) ?_
    exact tl_holds (d1 := 200) hR g1.1 (ef_X12_holds (d := 198) g1.1 hy') (by decide) ht (fun z => absurd z (by decide)) (K _ _ _ _ _ _ g1 hI2)
theorem cs_smells {n b : Nat} {scr : Nat → Int32} {i : Int32} {r r' : Nat × Nat} {qc qd qs qn : Nat} {h : am_H} {M : Mem} (hR : Rd n b i) (g : LH qc qd qs qn h) (hI : INV qc qd qs qn M) (hr1 : r'.1 + 1 ≤ r.1) (hr2 : r'.2 + 6 ≤ r.2) (hr3 : ncS 83 ≤ r'.1) (hr4 : nsS 83 ≤ r'.2) (K : ∀ (qc qd qs qn : Nat) (h : am_H) (M : Mem), LH qc qd qs qn h → INV qc qd qs qn M → am_AtG [] lawPo (am_XS n scr) 202 mLW 2467 (lwL i none none) [] (am_hM h M) r') : am_AtG [] lawPo (am_XS n scr) 202 mLW 1483 (lwL i none none) [] (am_hM h M) r := by
  obtain ⟨⟨y1, M1⟩, hy, ⟨w, M2⟩, hy', ha, hI2⟩ := u_smells (x := scr (b + 1)) (y := scr (b + 2)) hI
  have E : am_Ev 200 mX11_smells [.inr (0, 0), am_I (scr (b + 1)), am_I (scr (b + 2))] (am_hM h M) (am_o1 h (y1, M1)) := by
    exact ef_X11_smells (d := 197) (h := h) g.1 hy
  have g1 := g
  cases y1 with
  | inl v =>
    obtain ⟨ht, hv⟩ := ha
    refine hd'_smells (d1 := 201) hR (h1 := am_ur (h) 82 0 (am_lc v)) (M1 := M1) (k := 0) (r' := r') (hp_smells (d := 200) (h := am_hM h M) (h1 := am_hM (h) M1) (sh_0 g.1) (sh_82 g.1) rfl E) rfl (by decide) hr1 hr2 (by rw [g.nc]; exact hr3) (by rw [g.ns]; exact hr4) ?_
    exact tl_smells (d1 := 200) hR (LH.out g1).1 (ef_X12_smells (d := 198) (LH.out g1).1 hy') (by decide) ht (lw_ho hv) (K _ _ _ _ _ _ (LH.out g1) hI2)
  | inr Ex =>
    rcases ha with ⟨rfl, ht⟩ | ⟨rfl, ht⟩
    · refine hd'_smells (d1 := 201) hR (h1 := h) (M1 := M1) (k := 1) (r' := r') (hx_smells_N (d := 200) (h := am_hM h M) (h1 := am_hM (h) M1) (sh_0 g.1) (sh_82 g.1) rfl E) rfl (by decide) hr1 hr2 (by rw [g.nc]; exact hr3) (by rw [g.ns]; exact hr4) ?_
      exact tl_smells (d1 := 200) hR g1.1 (ef_X12_smells (d := 198) g1.1 hy') (by decide) ht (fun z => absurd z (by decide)) (K _ _ _ _ _ _ g1 hI2)
    · refine hd'_smells (d1 := 201) hR (h1 := h) (M1 := M1) (k := 2) (r' := r') (hx_smells_I (d := 200) (h := am_hM h M) (h1 := am_hM (h) M1) (sh_0 g.1) (sh_82 g.1) rfl E) rfl (by decide) hr1 hr2 (by rw [g.nc]; exact hr3) (by rw [g.ns]; exact hr4) ?_
      exact tl_smells (d1 := 200) hR g1.1 (ef_X12_smells (d := 198) g1.1 hy') (by decide) ht (fun z => absurd z (by decide)) (K _ _ _ _ _ _ g1 hI2)
theorem cs_openers {n b : Nat} {scr : Nat → Int32} {i : Int32} {r r' : Nat × Nat} {qc qd qs qn : Nat} {h : am_H} {M : Mem} (hR : Rd n b i) (g : LH qc qd qs qn h) (hI : INV qc qd qs qn M) (hr1 : r'.1 + 1 ≤ r.1) (hr2 : r'.2 + 6 ≤ r.2) (hr3 : ncS 83 ≤ r'.1) (hr4 : nsS 83 ≤ r'.2) (K : ∀ (qc qd qs qn : Nat) (h : am_H) (M : Mem), LH qc qd qs qn h → INV qc qd qs qn M → am_AtG [] lawPo (am_XS n scr) 202 mLW 2467 (lwL i none none) [] (am_hM h M) r') : am_AtG [] lawPo (am_XS n scr) 202 mLW 1551 (lwL i none none) [] (am_hM h M) r := by
  obtain ⟨⟨y1, M1⟩, hy, ⟨w, M2⟩, hy', ha, hI2⟩ := u_openers (x := scr (b + 1)) hI
  have E : am_Ev 200 mX11_openers [.inr (0, 0), am_I (scr (b + 1))] (am_hM h M) (am_o1 h (y1, M1)) := by
    rcases hI.2.2.2 with ⟨rfl, rfl⟩ | ⟨rfl, rfl⟩
    · exact ef_X11_openers_46 (d := 195) (h := h) g.1 g.2.2 hy
    · exact ef_X11_openers_47 (d := 195) (h := h) g.1 g.2.2 hy
  have g1 := g
  cases y1 with
  | inl v =>
    obtain ⟨ht, hv⟩ := ha
    refine hd'_openers (d1 := 201) hR (h1 := am_ur (h) 82 0 (am_lc v)) (M1 := M1) (k := 0) (r' := r') (hp_openers (d := 200) (h := am_hM h M) (h1 := am_hM (h) M1) (sh_0 g.1) (sh_82 g.1) rfl E) rfl (by decide) hr1 hr2 (by rw [g.nc]; exact hr3) (by rw [g.ns]; exact hr4) ?_
    exact tl_openers (d1 := 200) hR (LH.out g1).1 (ef_X12_openers (d := 197) (LH.out g1).1 hy') (by decide) ht (lw_ho hv) (K _ _ _ _ _ _ (LH.out g1) hI2)
  | inr Ex =>
    obtain ⟨rfl, ht⟩ := ha
    refine hd'_openers (d1 := 201) hR (h1 := h) (M1 := M1) (k := 1) (r' := r') (hx_openers_I (d := 200) (h := am_hM h M) (h1 := am_hM (h) M1) (sh_0 g.1) (sh_82 g.1) rfl E) rfl (by decide) hr1 hr2 (by rw [g.nc]; exact hr3) (by rw [g.ns]; exact hr4) ?_
    exact tl_openers (d1 := 200) hR g1.1 (ef_X12_openers (d := 197) g1.1 hy') (by decide) ht (fun z => absurd z (by decide)) (K _ _ _ _ _ _ g1 hI2)
theorem cs_nose {n b : Nat} {scr : Nat → Int32} {i : Int32} {r r' : Nat × Nat} {qc qd qs qn : Nat} {h : am_H} {M : Mem} (hR : Rd n b i) (g : LH qc qd qs qn h) (hI : INV qc qd qs qn M) (hr1 : r'.1 + 1 ≤ r.1) (hr2 : r'.2 + 6 ≤ r.2) (hr3 : ncS 83 ≤ r'.1) (hr4 : nsS 83 ≤ r'.2) (K : ∀ (qc qd qs qn : Nat) (h : am_H) (M : Mem), LH qc qd qs qn h → INV qc qd qs qn M → am_AtG [] lawPo (am_XS n scr) 202 mLW 2467 (lwL i none none) [] (am_hM h M) r') : am_AtG [] lawPo (am_XS n scr) 202 mLW 1607 (lwL i none none) [] (am_hM h M) r := by
  obtain ⟨⟨y1, M1⟩, hy, ⟨w, M2⟩, hy', ha, hI2⟩ := u_nose (x := scr (b + 1)) hI
  have E : am_Ev 200 mX11_nose [.inr (0, 0), am_I (scr (b + 1))] (am_hM h M) (am_o1 h (y1, M1)) := by
    rcases hI.2.2.2 with ⟨rfl, rfl⟩ | ⟨rfl, rfl⟩
    · exact ef_X11_nose_46 (d := 195) (h := h) g.1 g.2.2 hy
    · exact ef_X11_nose_47 (d := 195) (h := h) g.1 g.2.2 hy
  have g1 := g
  cases y1 with
  | inl v =>
    obtain ⟨ht, hv⟩ := ha
    refine hd'_nose (d1 := 201) hR (h1 := am_ur (h) 82 0 (am_lc v)) (M1 := M1) (k := 0) (r' := r') (hp_nose (d := 200) (h := am_hM h M) (h1 := am_hM (h) M1) (sh_0 g.1) (sh_82 g.1) rfl E) rfl (by decide) hr1 hr2 (by rw [g.nc]; exact hr3) (by rw [g.ns]; exact hr4) ?_
    exact tl_nose (d1 := 200) hR (LH.out g1).1 (ef_X12_nose (d := 197) (LH.out g1).1 hy') (by decide) ht (lw_ho hv) (K _ _ _ _ _ _ (LH.out g1) hI2)
  | inr Ex =>
    obtain ⟨rfl, ht⟩ := ha
    refine hd'_nose (d1 := 201) hR (h1 := h) (M1 := M1) (k := 1) (r' := r') (hx_nose_I (d := 200) (h := am_hM h M) (h1 := am_hM (h) M1) (sh_0 g.1) (sh_82 g.1) rfl E) rfl (by decide) hr1 hr2 (by rw [g.nc]; exact hr3) (by rw [g.ns]; exact hr4) ?_
    exact tl_nose (d1 := 200) hR g1.1 (ef_X12_nose (d := 197) g1.1 hy') (by decide) ht (fun z => absurd z (by decide)) (K _ _ _ _ _ _ g1 hI2)
theorem cs_anglers {n b : Nat} {scr : Nat → Int32} {i : Int32} {r r' : Nat × Nat} {qc qd qs qn : Nat} {h : am_H} {M : Mem} (hR : Rd n b i) (g : LH qc qd qs qn h) (hI : INV qc qd qs qn M) (hr1 : r'.1 + 1 ≤ r.1) (hr2 : r'.2 + 6 ≤ r.2) (hr3 : ncS 83 ≤ r'.1) (hr4 : nsS 83 ≤ r'.2) (K : ∀ (qc qd qs qn : Nat) (h : am_H) (M : Mem), LH qc qd qs qn h → INV qc qd qs qn M → am_AtG [] lawPo (am_XS n scr) 202 mLW 2467 (lwL i none none) [] (am_hM h M) r') : am_AtG [] lawPo (am_XS n scr) 202 mLW 1663 (lwL i none none) [] (am_hM h M) r := by
  obtain ⟨⟨y1, M1⟩, hy, ⟨w, M2⟩, hy', ha, hI2⟩ := u_anglers (x := scr (b + 1)) (y := scr (b + 2)) hI
  have E : am_Ev 200 mX11_anglers [.inr (0, 0), am_I (scr (b + 1)), am_I (scr (b + 2))] (am_hM h M) (am_o1 h (y1, M1)) := by
    exact ef_X11_anglers (d := 168) (h := h) g.1 hy
  have g1 := g
  cases y1 with
  | inl v =>
    obtain ⟨ht, hv⟩ := ha
    refine hd'_anglers (d1 := 201) hR (h1 := am_ur (h) 82 0 (am_lc v)) (M1 := M1) (k := 0) (r' := r') (hp_anglers (d := 200) (h := am_hM h M) (h1 := am_hM (h) M1) (sh_0 g.1) (sh_82 g.1) rfl E) rfl (by decide) hr1 hr2 (by rw [g.nc]; exact hr3) (by rw [g.ns]; exact hr4) ?_
    exact tl_anglers (d1 := 200) hR (LH.out g1).1 (ef_X12_anglers (d := 168) (LH.out g1).1 hy') (by decide) ht (lw_ho hv) (K _ _ _ _ _ _ (LH.out g1) hI2)
  | inr Ex =>
    obtain ⟨rfl, ht⟩ := ha
    refine hd'_anglers (d1 := 201) hR (h1 := h) (M1 := M1) (k := 1) (r' := r') (hx_anglers_I (d := 200) (h := am_hM h M) (h1 := am_hM (h) M1) (sh_0 g.1) (sh_82 g.1) rfl E) rfl (by decide) hr1 hr2 (by rw [g.nc]; exact hr3) (by rw [g.ns]; exact hr4) ?_
    exact tl_anglers (d1 := 200) hR g1.1 (ef_X12_anglers (d := 168) g1.1 hy') (by decide) ht (fun z => absurd z (by decide)) (K _ _ _ _ _ _ g1 hI2)
theorem cs_stand {n b : Nat} {scr : Nat → Int32} {i : Int32} {r r' : Nat × Nat} {qc qd qs qn : Nat} {h : am_H} {M : Mem} (hR : Rd n b i) (g : LH qc qd qs qn h) (hI : INV qc qd qs qn M) (hr1 : r'.1 + 1 ≤ r.1) (hr2 : r'.2 + 6 ≤ r.2) (hr3 : ncS 83 ≤ r'.1) (hr4 : nsS 83 ≤ r'.2) (K : ∀ (qc qd qs qn : Nat) (h : am_H) (M : Mem), LH qc qd qs qn h → INV qc qd qs qn M → am_AtG [] lawPo (am_XS n scr) 202 mLW 2467 (lwL i none none) [] (am_hM h M) r') : am_AtG [] lawPo (am_XS n scr) 202 mLW 1731 (lwL i none none) [] (am_hM h M) r := by
  obtain ⟨⟨y1, M1⟩, hy, ⟨w, M2⟩, hy', ha, hI2⟩ := u_stand (x := scr (b + 1)) (y := scr (b + 2)) hI
  have E : am_Ev 200 mX11_stand [.inr (0, 0), am_I (scr (b + 1)), am_I (scr (b + 2))] (am_hM h M) (am_o1 h (y1, M1)) := by
    exact ef_X11_stand (d := 168) (h := h) g.1 hy
  have g1 := g
  cases y1 with
  | inl v =>
    obtain ⟨ht, hv⟩ := ha
    refine hd'_stand (d1 := 201) hR (h1 := am_ur (h) 82 0 (am_lc v)) (M1 := M1) (k := 0) (r' := r') (hp_stand (d := 200) (h := am_hM h M) (h1 := am_hM (h) M1) (sh_0 g.1) (sh_82 g.1) rfl E) rfl (by decide) hr1 hr2 (by rw [g.nc]; exact hr3) (by rw [g.ns]; exact hr4) ?_
    exact tl_stand (d1 := 200) hR (LH.out g1).1 (ef_X12_stand (d := 168) (LH.out g1).1 hy') (by decide) ht (lw_ho hv) (K _ _ _ _ _ _ (LH.out g1) hI2)
  | inr Ex =>
    rcases ha with ⟨rfl, ht⟩ | ⟨rfl, ht⟩
    · refine hd'_stand (d1 := 201) hR (h1 := h) (M1 := M1) (k := 1) (r' := r') (hx_stand_N (d := 200) (h := am_hM h M) (h1 := am_hM (h) M1) (sh_0 g.1) (sh_82 g.1) rfl E) rfl (by decide) hr1 hr2 (by rw [g.nc]; exact hr3) (by rw [g.ns]; exact hr4) ?_
      exact tl_stand (d1 := 200) hR g1.1 (ef_X12_stand (d := 168) g1.1 hy') (by decide) ht (fun z => absurd z (by decide)) (K _ _ _ _ _ _ g1 hI2)
    · refine hd'_stand (d1 := 201) hR (h1 := h) (M1 := M1) (k := 2) (r' := r') (hx_stand_I (d := 200) (h := am_hM h M) (h1 := am_hM (h) M1) (sh_0 g.1) (sh_82 g.1) rfl E) rfl (by decide) hr1 hr2 (by rw [g.nc]; exact hr3) (by rw [g.ns]; exact hr4) ?_
      exact tl_stand (d1 := 200) hR g1.1 (ef_X12_stand (d := 168) g1.1 hy') (by decide) ht (fun z => absurd z (by decide)) (K _ _ _ _ _ _ g1 hI2)
theorem cs_walk {n b : Nat} {scr : Nat → Int32} {i : Int32} {r r' : Nat × Nat} {qc qd qs qn : Nat} {h : am_H} {M : Mem} (hR : Rd n b i) (g : LH qc qd qs qn h) (hI : INV qc qd qs qn M) (hr1 : r'.1 + 1 ≤ r.1) (hr2 : r'.2 + 6 ≤ r.2) (hr3 : ncS 83 ≤ r'.1) (hr4 : nsS 83 ≤ r'.2) (K : ∀ (qc qd qs qn : Nat) (h : am_H) (M : Mem), LH qc qd qs qn h → INV qc qd qs qn M → am_AtG [] lawPo (am_XS n scr) 202 mLW 2467 (lwL i none none) [] (am_hM h M) r') : am_AtG [] lawPo (am_XS n scr) 202 mLW 1799 (lwL i none none) [] (am_hM h M) r := by
  obtain ⟨⟨y1, M1⟩, hy, ⟨w, M2⟩, hy', ha, hI2⟩ := u_walk (x := scr (b + 1)) (y := scr (b + 2)) (z := scr (b + 3)) hI
  have E : am_Ev 200 mX11_walk [.inr (0, 0), am_I (scr (b + 1)), am_I (scr (b + 2)), am_I (scr (b + 3))] (am_hM h M) (am_o1 h (y1, M1)) := by
    rcases hI.2.2.1 with ⟨rfl, rfl⟩ | ⟨rfl, rfl⟩
    · exact ef_X11_walk_24 (d := 194) (h := h) g.1 g.2.1 hy
    · exact ef_X11_walk_25 (d := 194) (h := h) g.1 g.2.1 hy
  have g1 := g
  cases y1 with
  | inl v =>
    obtain ⟨ht, hv⟩ := ha
    refine hd'_walk (d1 := 201) hR (h1 := am_ur (h) 82 0 (am_lc v)) (M1 := M1) (k := 0) (r' := r') (hp_walk (d := 200) (h := am_hM h M) (h1 := am_hM (h) M1) (sh_0 g.1) (sh_82 g.1) rfl E) rfl (by decide) hr1 hr2 (by rw [g.nc]; exact hr3) (by rw [g.ns]; exact hr4) ?_
    exact tl_walk (d1 := 200) hR (LH.out g1).1 (ef_X12_walk (d := 192) (LH.out g1).1 hy') (by decide) ht (lw_ho hv) (K _ _ _ _ _ _ (LH.out g1) hI2)
  | inr Ex =>
    rcases ha with ⟨rfl, ht⟩ | ⟨rfl, ht⟩
    · refine hd'_walk (d1 := 201) hR (h1 := h) (M1 := M1) (k := 1) (r' := r') (hx_walk_N (d := 200) (h := am_hM h M) (h1 := am_hM (h) M1) (sh_0 g.1) (sh_82 g.1) rfl E) rfl (by decide) hr1 hr2 (by rw [g.nc]; exact hr3) (by rw [g.ns]; exact hr4) ?_
      exact tl_walk (d1 := 200) hR g1.1 (ef_X12_walk (d := 192) g1.1 hy') (by decide) ht (fun z => absurd z (by decide)) (K _ _ _ _ _ _ g1 hI2)
    · refine hd'_walk (d1 := 201) hR (h1 := h) (M1 := M1) (k := 2) (r' := r') (hx_walk_I (d := 200) (h := am_hM h M) (h1 := am_hM (h) M1) (sh_0 g.1) (sh_82 g.1) rfl E) rfl (by decide) hr1 hr2 (by rw [g.nc]; exact hr3) (by rw [g.ns]; exact hr4) ?_
      exact tl_walk (d1 := 200) hR g1.1 (ef_X12_walk (d := 192) g1.1 hy') (by decide) ht (fun z => absurd z (by decide)) (K _ _ _ _ _ _ g1 hI2)
theorem cs_reach {n b : Nat} {scr : Nat → Int32} {i : Int32} {r r' : Nat × Nat} {qc qd qs qn : Nat} {h : am_H} {M : Mem} (hR : Rd n b i) (g : LH qc qd qs qn h) (hI : INV qc qd qs qn M) (hr1 : r'.1 + 1 ≤ r.1) (hr2 : r'.2 + 6 ≤ r.2) (hr3 : ncS 83 ≤ r'.1) (hr4 : nsS 83 ≤ r'.2) (K : ∀ (qc qd qs qn : Nat) (h : am_H) (M : Mem), LH qc qd qs qn h → INV qc qd qs qn M → am_AtG [] lawPo (am_XS n scr) 202 mLW 2467 (lwL i none none) [] (am_hM h M) r') : am_AtG [] lawPo (am_XS n scr) 202 mLW 1879 (lwL i none none) [] (am_hM h M) r := by
  obtain ⟨⟨y1, M1⟩, hy, ⟨w, M2⟩, hy', ha, hI2⟩ := u_reach (x := scr (b + 1)) (y := scr (b + 2)) hI
  have E : am_Ev 200 mX11_reach [.inr (0, 0), am_I (scr (b + 1)), am_I (scr (b + 2))] (am_hM h M) (am_o1 h (y1, M1)) := by
    rcases hI.2.2.1 with ⟨rfl, rfl⟩ | ⟨rfl, rfl⟩
    · exact ef_X11_reach_24 (d := 194) (h := h) g.1 g.2.1 hy
    · exact ef_X11_reach_25 (d := 194) (h := h) g.1 g.2.1 hy
  have g1 := g
  cases y1 with
  | inl v =>
    obtain ⟨ht, hv⟩ := ha
    refine hd'_reach (d1 := 201) hR (h1 := am_ur (h) 82 0 (am_lc v)) (M1 := M1) (k := 0) (r' := r') (hp_reach (d := 200) (h := am_hM h M) (h1 := am_hM (h) M1) (sh_0 g.1) (sh_82 g.1) rfl E) rfl (by decide) hr1 hr2 (by rw [g.nc]; exact hr3) (by rw [g.ns]; exact hr4) ?_
    exact tl_reach (d1 := 200) hR (LH.out g1).1 (ef_X12_reach (d := 192) (LH.out g1).1 hy') (by decide) ht (lw_ho hv) (K _ _ _ _ _ _ (LH.out g1) hI2)
  | inr Ex =>
    rcases ha with ⟨rfl, ht⟩ | ⟨rfl, ht⟩
    · refine hd'_reach (d1 := 201) hR (h1 := h) (M1 := M1) (k := 1) (r' := r') (hx_reach_N (d := 200) (h := am_hM h M) (h1 := am_hM (h) M1) (sh_0 g.1) (sh_82 g.1) rfl E) rfl (by decide) hr1 hr2 (by rw [g.nc]; exact hr3) (by rw [g.ns]; exact hr4) ?_
      exact tl_reach (d1 := 200) hR g1.1 (ef_X12_reach (d := 192) g1.1 hy') (by decide) ht (fun z => absurd z (by decide)) (K _ _ _ _ _ _ g1 hI2)
    · refine hd'_reach (d1 := 201) hR (h1 := h) (M1 := M1) (k := 2) (r' := r') (hx_reach_I (d := 200) (h := am_hM h M) (h1 := am_hM (h) M1) (sh_0 g.1) (sh_82 g.1) rfl E) rfl (by decide) hr1 hr2 (by rw [g.nc]; exact hr3) (by rw [g.ns]; exact hr4) ?_
      exact tl_reach (d1 := 200) hR g1.1 (ef_X12_reach (d := 192) g1.1 hy') (by decide) ht (fun z => absurd z (by decide)) (K _ _ _ _ _ _ g1 hI2)
theorem cs_peak {n b : Nat} {scr : Nat → Int32} {i : Int32} {r r' : Nat × Nat} {qc qd qs qn : Nat} {h : am_H} {M : Mem} (hR : Rd n b i) (g : LH qc qd qs qn h) (hI : INV qc qd qs qn M) (hr1 : r'.1 + 1 ≤ r.1) (hr2 : r'.2 + 6 ≤ r.2) (hr3 : ncS 83 ≤ r'.1) (hr4 : nsS 83 ≤ r'.2) (K : ∀ (qc qd qs qn : Nat) (h : am_H) (M : Mem), LH qc qd qs qn h → INV qc qd qs qn M → am_AtG [] lawPo (am_XS n scr) 202 mLW 2467 (lwL i none none) [] (am_hM h M) r') : am_AtG [] lawPo (am_XS n scr) 202 mLW 1947 (lwL i none none) [] (am_hM h M) r := by
  obtain ⟨⟨y1, M1⟩, hy, ⟨w, M2⟩, hy', ha, hI2⟩ := u_peak (x := scr (b + 1)) hI
  have E : am_Ev 200 mX11_peak [.inr (0, 0), am_I (scr (b + 1))] (am_hM h M) (am_o1 h (y1, M1)) := by
    rcases hI.2.2.1 with ⟨rfl, rfl⟩ | ⟨rfl, rfl⟩
    · exact ef_X11_peak_24 (d := 195) (h := h) g.1 g.2.1 hy
    · exact ef_X11_peak_25 (d := 195) (h := h) g.1 g.2.1 hy
  have g1 := g
  cases y1 with
  | inl v =>
    obtain ⟨ht, hv⟩ := ha
    refine hd'_peak (d1 := 201) hR (h1 := am_ur (h) 82 0 (am_lc v)) (M1 := M1) (k := 0) (r' := r') (hp_peak (d := 200) (h := am_hM h M) (h1 := am_hM (h) M1) (sh_0 g.1) (sh_82 g.1) rfl E) rfl (by decide) hr1 hr2 (by rw [g.nc]; exact hr3) (by rw [g.ns]; exact hr4) ?_
    exact tl_peak (d1 := 200) hR (LH.out g1).1 (ef_X12_peak (d := 192) (LH.out g1).1 hy') (by decide) ht (lw_ho hv) (K _ _ _ _ _ _ (LH.out g1) hI2)
  | inr Ex =>
    obtain ⟨rfl, ht⟩ := ha
    refine hd'_peak (d1 := 201) hR (h1 := h) (M1 := M1) (k := 1) (r' := r') (hx_peak_I (d := 200) (h := am_hM h M) (h1 := am_hM (h) M1) (sh_0 g.1) (sh_82 g.1) rfl E) rfl (by decide) hr1 hr2 (by rw [g.nc]; exact hr3) (by rw [g.ns]; exact hr4) ?_
    exact tl_peak (d1 := 200) hR g1.1 (ef_X12_peak (d := 192) g1.1 hy') (by decide) ht (fun z => absurd z (by decide)) (K _ _ _ _ _ _ g1 hI2)
theorem cs_narrow {n b : Nat} {scr : Nat → Int32} {i : Int32} {r r' : Nat × Nat} {qc qd qs qn : Nat} {h : am_H} {M : Mem} (hR : Rd n b i) (g : LH qc qd qs qn h) (hI : INV qc qd qs qn M) (hr1 : r'.1 + 1 ≤ r.1) (hr2 : r'.2 + 6 ≤ r.2) (hr3 : ncS 83 ≤ r'.1) (hr4 : nsS 83 ≤ r'.2) (K : ∀ (qc qd qs qn : Nat) (h : am_H) (M : Mem), LH qc qd qs qn h → INV qc qd qs qn M → am_AtG [] lawPo (am_XS n scr) 202 mLW 2467 (lwL i none none) [] (am_hM h M) r') : am_AtG [] lawPo (am_XS n scr) 202 mLW 2003 (lwL i none none) [] (am_hM h M) r := by
  obtain ⟨⟨y1, M1⟩, hy, ⟨w, M2⟩, hy', ha, hI2⟩ := u_narrow (x := scr (b + 1)) (y := scr (b + 2)) hI
  have E : am_Ev 200 mX11_narrow [.inr (0, 0), am_I (scr (b + 1)), am_I (scr (b + 2))] (am_hM h M) (am_o1 h (y1, M1)) := by
    exact ef_X11_narrow (d := 198) (h := h) g.1 hy
  have g1 := g
  cases y1 with
  | inl v =>
    obtain ⟨ht, hv⟩ := ha
    refine hd'_narrow (d1 := 201) hR (h1 := am_ur (h) 82 0 (am_lc v)) (M1 := M1) (k := 0) (r' := r') (hp_narrow (d := 200) (h := am_hM h M) (h1 := am_hM (h) M1) (sh_0 g.1) (sh_82 g.1) rfl E) rfl (by decide) hr1 hr2 (by rw [g.nc]; exact hr3) (by rw [g.ns]; exact hr4) ?_
    exact tl_narrow (d1 := 200) hR (LH.out g1).1 (ef_X12_narrow (d := 198) (LH.out g1).1 hy') (by decide) ht (lw_ho hv) (K _ _ _ _ _ _ (LH.out g1) hI2)
  | inr Ex =>
    obtain ⟨rfl, ht⟩ := ha
    refine hd'_narrow (d1 := 201) hR (h1 := h) (M1 := M1) (k := 1) (r' := r') (hx_narrow_I (d := 200) (h := am_hM h M) (h1 := am_hM (h) M1) (sh_0 g.1) (sh_82 g.1) rfl E) rfl (by decide) hr1 hr2 (by rw [g.nc]; exact hr3) (by rw [g.ns]; exact hr4) ?_
    exact tl_narrow (d1 := 200) hR g1.1 (ef_X12_narrow (d := 198) g1.1 hy') (by decide) ht (fun z => absurd z (by decide)) (K _ _ _ _ _ _ g1 hI2)
theorem cs_worst {n b : Nat} {scr : Nat → Int32} {i : Int32} {r r' : Nat × Nat} {qc qd qs qn : Nat} {h : am_H} {M : Mem} (hR : Rd n b i) (g : LH qc qd qs qn h) (hI : INV qc qd qs qn M) (hr1 : r'.1 + 1 ≤ r.1) (hr2 : r'.2 + 6 ≤ r.2) (hr3 : ncS 83 ≤ r'.1) (hr4 : nsS 83 ≤ r'.2) (K : ∀ (qc qd qs qn : Nat) (h : am_H) (M : Mem), LH qc qd qs qn h → INV qc qd qs qn M → am_AtG [] lawPo (am_XS n scr) 202 mLW 2467 (lwL i none none) [] (am_hM h M) r') : am_AtG [] lawPo (am_XS n scr) 202 mLW 2071 (lwL i none none) [] (am_hM h M) r := by
  obtain ⟨⟨y1, M1⟩, hy, ⟨w, M2⟩, hy', ha, hI2⟩ := u_worst (x := scr (b + 1)) hI
  have E : am_Ev 200 mX11_worst [.inr (0, 0), am_I (scr (b + 1))] (am_hM h M) (am_o1 h (y1, M1)) := by
    exact ef_X11_worst (d := 199) (h := h) g.1 hy
  have g1 := g
  cases y1 with
  | inl v =>
    obtain ⟨ht, hv⟩ := ha
    refine hd'_worst (d1 := 201) hR (h1 := am_ur (h) 82 0 (am_lc v)) (M1 := M1) (k := 0) (r' := r') (hp_worst (d := 200) (h := am_hM h M) (h1 := am_hM (h) M1) (sh_0 g.1) (sh_82 g.1) rfl E) rfl (by decide) hr1 hr2 (by rw [g.nc]; exact hr3) (by rw [g.ns]; exact hr4) ?_
    exact tl_worst (d1 := 200) hR (LH.out g1).1 (ef_X12_worst (d := 199) (LH.out g1).1 hy') (by decide) ht (lw_ho hv) (K _ _ _ _ _ _ (LH.out g1) hI2)
  | inr Ex =>
    obtain ⟨rfl, ht⟩ := ha
    refine hd'_worst (d1 := 201) hR (h1 := h) (M1 := M1) (k := 1) (r' := r') (hx_worst_I (d := 200) (h := am_hM h M) (h1 := am_hM (h) M1) (sh_0 g.1) (sh_82 g.1) rfl E) rfl (by decide) hr1 hr2 (by rw [g.nc]; exact hr3) (by rw [g.ns]; exact hr4) ?_
    exact tl_worst (d1 := 200) hR g1.1 (ef_X12_worst (d := 199) g1.1 hy') (by decide) ht (fun z => absurd z (by decide)) (K _ _ _ _ _ _ g1 hI2)
theorem cs_ahead {n b : Nat} {scr : Nat → Int32} {i : Int32} {r r' : Nat × Nat} {qc qd qs qn : Nat} {h : am_H} {M : Mem} (hR : Rd n b i) (g : LH qc qd qs qn h) (hI : INV qc qd qs qn M) (hr1 : r'.1 + 1 ≤ r.1) (hr2 : r'.2 + 6 ≤ r.2) (hr3 : ncS 83 ≤ r'.1) (hr4 : nsS 83 ≤ r'.2) (K : ∀ (qc qd qs qn : Nat) (h : am_H) (M : Mem), LH qc qd qs qn h → INV qc qd qs qn M → am_AtG [] lawPo (am_XS n scr) 202 mLW 2467 (lwL i none none) [] (am_hM h M) r') : am_AtG [] lawPo (am_XS n scr) 202 mLW 2127 (lwL i none none) [] (am_hM h M) r := by
  obtain ⟨⟨y1, M1⟩, hy, ⟨w, M2⟩, hy', ha, hI2⟩ := u_ahead (x := scr (b + 1)) (y := scr (b + 2)) hI
  have E : am_Ev 200 mX11_ahead [.inr (0, 0), am_I (scr (b + 1)), am_I (scr (b + 2))] (am_hM h M) (am_o1 h (y1, M1)) := by
    rcases hI.2.2.1 with ⟨rfl, rfl⟩ | ⟨rfl, rfl⟩
    · exact ef_X11_ahead_24 (d := 193) (h := h) g.1 g.2.1 hy
    · exact ef_X11_ahead_25 (d := 193) (h := h) g.1 g.2.1 hy
  have g1 := g
  cases y1 with
  | inl v =>
    obtain ⟨ht, hv⟩ := ha
    refine hd'_ahead (d1 := 201) hR (h1 := am_ur (h) 82 0 (am_lc v)) (M1 := M1) (k := 0) (r' := r') (hp_ahead (d := 200) (h := am_hM h M) (h1 := am_hM (h) M1) (sh_0 g.1) (sh_82 g.1) rfl E) rfl (by decide) hr1 hr2 (by rw [g.nc]; exact hr3) (by rw [g.ns]; exact hr4) ?_
    exact tl_ahead (d1 := 200) hR (LH.out g1).1 (ef_X12_ahead (d := 192) (LH.out g1).1 hy') (by decide) ht (lw_ho hv) (K _ _ _ _ _ _ (LH.out g1) hI2)
  | inr Ex =>
    obtain ⟨rfl, ht⟩ := ha
    refine hd'_ahead (d1 := 201) hR (h1 := h) (M1 := M1) (k := 1) (r' := r') (hx_ahead_I (d := 200) (h := am_hM h M) (h1 := am_hM (h) M1) (sh_0 g.1) (sh_82 g.1) rfl E) rfl (by decide) hr1 hr2 (by rw [g.nc]; exact hr3) (by rw [g.ns]; exact hr4) ?_
    exact tl_ahead (d1 := 200) hR g1.1 (ef_X12_ahead (d := 192) g1.1 hy') (by decide) ht (fun z => absurd z (by decide)) (K _ _ _ _ _ _ g1 hI2)
theorem cs_winters {n b : Nat} {scr : Nat → Int32} {i : Int32} {r r' : Nat × Nat} {qc qd qs qn : Nat} {h : am_H} {M : Mem} (hR : Rd n b i) (g : LH qc qd qs qn h) (hI : INV qc qd qs qn M) (hr1 : r'.1 + 1 ≤ r.1) (hr2 : r'.2 + 6 ≤ r.2) (hr3 : ncS 83 ≤ r'.1) (hr4 : nsS 83 ≤ r'.2) (K : ∀ (qc qd qs qn : Nat) (h : am_H) (M : Mem), LH qc qd qs qn h → INV qc qd qs qn M → am_AtG [] lawPo (am_XS n scr) 202 mLW 2467 (lwL i none none) [] (am_hM h M) r') : am_AtG [] lawPo (am_XS n scr) 202 mLW 2195 (lwL i none none) [] (am_hM h M) r := by
  obtain ⟨⟨y1, M1⟩, hy, ⟨w, M2⟩, hy', ha, hI2⟩ := u_winters (x := scr (b + 1)) (y := scr (b + 2)) (z := scr (b + 3)) (w := scr (b + 4)) hI
  have E : am_Ev 200 mX11_winters [.inr (0, 0), am_I (scr (b + 1)), am_I (scr (b + 2)), am_I (scr (b + 3)), am_I (scr (b + 4))] (am_hM h M) (am_o1 h (y1, M1)) := by
    rcases hI.2.2.1 with ⟨rfl, rfl⟩ | ⟨rfl, rfl⟩
    · exact ef_X11_winters_24 (d := 194) (h := h) g.1 g.2.1 hy
    · exact ef_X11_winters_25 (d := 194) (h := h) g.1 g.2.1 hy
  have g1 := g
  cases y1 with
  | inl v =>
    obtain ⟨ht, hv⟩ := ha
    refine hd'_winters (d1 := 201) hR (h1 := am_ur (h) 82 0 (am_lc v)) (M1 := M1) (k := 0) (r' := r') (hp_winters (d := 200) (h := am_hM h M) (h1 := am_hM (h) M1) (sh_0 g.1) (sh_82 g.1) rfl E) rfl (by decide) hr1 hr2 (by rw [g.nc]; exact hr3) (by rw [g.ns]; exact hr4) ?_
    exact tl_winters (d1 := 200) hR (LH.out g1).1 (ef_X12_winters (d := 191) (LH.out g1).1 hy') (by decide) ht (lw_ho hv) (K _ _ _ _ _ _ (LH.out g1) hI2)
  | inr Ex =>
    obtain ⟨rfl, ht⟩ := ha
    refine hd'_winters (d1 := 201) hR (h1 := h) (M1 := M1) (k := 1) (r' := r') (hx_winters_I (d := 200) (h := am_hM h M) (h1 := am_hM (h) M1) (sh_0 g.1) (sh_82 g.1) rfl E) rfl (by decide) hr1 hr2 (by rw [g.nc]; exact hr3) (by rw [g.ns]; exact hr4) ?_
    exact tl_winters (d1 := 200) hR g1.1 (ef_X12_winters (d := 191) g1.1 hy') (by decide) ht (fun z => absurd z (by decide)) (K _ _ _ _ _ _ g1 hI2)
theorem cs_span {n b : Nat} {scr : Nat → Int32} {i : Int32} {r r' : Nat × Nat} {qc qd qs qn : Nat} {h : am_H} {M : Mem} (hR : Rd n b i) (g : LH qc qd qs qn h) (hI : INV qc qd qs qn M) (hr1 : r'.1 + 1 ≤ r.1) (hr2 : r'.2 + 6 ≤ r.2) (hr3 : ncS 83 ≤ r'.1) (hr4 : nsS 83 ≤ r'.2) (K : ∀ (qc qd qs qn : Nat) (h : am_H) (M : Mem), LH qc qd qs qn h → INV qc qd qs qn M → am_AtG [] lawPo (am_XS n scr) 202 mLW 2467 (lwL i none none) [] (am_hM h M) r') : am_AtG [] lawPo (am_XS n scr) 202 mLW 2287 (lwL i none none) [] (am_hM h M) r := by
  obtain ⟨⟨y1, M1⟩, hy, ⟨w, M2⟩, hy', ha, hI2⟩ := u_span (x := scr (b + 1)) (y := scr (b + 2)) (z := scr (b + 3)) (w := scr (b + 4)) (u := scr (b + 5)) hI
  have E : am_Ev 200 mX11_span [.inr (0, 0), am_I (scr (b + 1)), am_I (scr (b + 2)), am_I (scr (b + 3)), am_I (scr (b + 4)), am_I (scr (b + 5))] (am_hM h M) (am_o1 h (y1, M1)) := by
    rcases hI.2.2.1 with ⟨rfl, rfl⟩ | ⟨rfl, rfl⟩
    · exact ef_X11_span_24 (d := 194) (h := h) g.1 g.2.1 hy
    · exact ef_X11_span_25 (d := 194) (h := h) g.1 g.2.1 hy
  have g1 := g
  cases y1 with
  | inl v =>
    obtain ⟨ht, hv⟩ := ha
    refine hd'_span (d1 := 201) hR (h1 := am_ur (h) 82 0 (am_lc v)) (M1 := M1) (k := 0) (r' := r') (hp_span (d := 200) (h := am_hM h M) (h1 := am_hM (h) M1) (sh_0 g.1) (sh_82 g.1) rfl E) rfl (by decide) hr1 hr2 (by rw [g.nc]; exact hr3) (by rw [g.ns]; exact hr4) ?_
    exact tl_span (d1 := 200) hR (LH.out g1).1 (ef_X12_span (d := 191) (LH.out g1).1 hy') (by decide) ht (lw_ho hv) (K _ _ _ _ _ _ (LH.out g1) hI2)
  | inr Ex =>
    obtain ⟨rfl, ht⟩ := ha
    refine hd'_span (d1 := 201) hR (h1 := h) (M1 := M1) (k := 1) (r' := r') (hx_span_I (d := 200) (h := am_hM h M) (h1 := am_hM (h) M1) (sh_0 g.1) (sh_82 g.1) rfl E) rfl (by decide) hr1 hr2 (by rw [g.nc]; exact hr3) (by rw [g.ns]; exact hr4) ?_
    exact tl_span (d1 := 200) hR g1.1 (ef_X12_span (d := 191) g1.1 hy') (by decide) ht (fun z => absurd z (by decide)) (K _ _ _ _ _ _ g1 hI2)
theorem cs_image {n b : Nat} {scr : Nat → Int32} {i : Int32} {r r' : Nat × Nat} {qc qd qs qn : Nat} {h : am_H} {M : Mem} (hR : Rd n b i) (g : LH qc qd qs qn h) (hI : INV qc qd qs qn M) (hr1 : r'.1 + 1 ≤ r.1) (hr2 : r'.2 + 6 ≤ r.2) (hr3 : ncS 83 ≤ r'.1) (hr4 : nsS 83 ≤ r'.2) (K : ∀ (qc qd qs qn : Nat) (h : am_H) (M : Mem), LH qc qd qs qn h → INV qc qd qs qn M → am_AtG [] lawPo (am_XS n scr) 202 mLW 2467 (lwL i none none) [] (am_hM h M) r') : am_AtG [] lawPo (am_XS n scr) 202 mLW 2391 (lwL i none none) [] (am_hM h M) r := by
  obtain ⟨⟨v, M1⟩, hy, ⟨w, M2⟩, hy', e, hI2⟩ := u_image  hI
  have e : v = w := e
  subst e
  have E : am_Ev 200 mX11_image [.inr (0, 0)] (am_hM h M) (.inl (some (am_I v), am_hM h M1)) := by
    exact ef_X11_image (d := 198) (h := h) g.1 hy
  exact pl_image hR (d1 := 200) g.1 E (ef_X12_image (d := 198) g.1 hy') (by decide) (am_AtG.less (r' := r') (by omega) (by omega) (by rw [LH.nc g]; exact hr3) (by rw [LH.ns g]; exact hr4) (K _ _ _ _ _ _ g hI2))
theorem cs_restore {n b : Nat} {scr : Nat → Int32} {i : Int32} {r r' : Nat × Nat} {qc qd qs qn : Nat} {h : am_H} {M : Mem} (hR : Rd n b i) (g : LH qc qd qs qn h) (hI : INV qc qd qs qn M) (hr1 : r'.1 + 1 ≤ r.1) (hr2 : r'.2 + 6 ≤ r.2) (hr3 : ncS 83 ≤ r'.1) (hr4 : nsS 83 ≤ r'.2) (K : ∀ (qc qd qs qn : Nat) (h : am_H) (M : Mem), LH qc qd qs qn h → INV qc qd qs qn M → am_AtG [] lawPo (am_XS n scr) 202 mLW 2467 (lwL i none none) [] (am_hM h M) r') : am_AtG [] lawPo (am_XS n scr) 202 mLW 2404 (lwL i none none) [] (am_hM h M) r := by
  obtain ⟨⟨v, M1⟩, hy, ⟨w, M2⟩, hy', e, hI2⟩ := u_restore  hI
  have e : v = w := e
  subst e
  have E : am_Ev 200 mX11_restore [.inr (0, 0)] (am_hM h M) (.inl (some (am_I v), am_hM h M1)) := by
    exact ef_X11_restore (d := 198) (h := h) g.1 hy
  exact pl_restore hR (d1 := 200) g.1 E (ef_X12_restore (d := 198) g.1 hy') (by decide) (am_AtG.less (r' := r') (by omega) (by omega) (by rw [LH.nc g]; exact hr3) (by rw [LH.ns g]; exact hr4) (K _ _ _ _ _ _ g hI2))
theorem cs_status {n b : Nat} {scr : Nat → Int32} {i : Int32} {r r' : Nat × Nat} {qc qd qs qn : Nat} {h : am_H} {M : Mem} (hR : Rd n b i) (g : LH qc qd qs qn h) (hI : INV qc qd qs qn M) (hr1 : r'.1 + 1 ≤ r.1) (hr2 : r'.2 + 6 ≤ r.2) (hr3 : ncS 83 ≤ r'.1) (hr4 : nsS 83 ≤ r'.2) (K : ∀ (qc qd qs qn : Nat) (h : am_H) (M : Mem), LH qc qd qs qn h → INV qc qd qs qn M → am_AtG [] lawPo (am_XS n scr) 202 mLW 2467 (lwL i none none) [] (am_hM h M) r') : am_AtG [] lawPo (am_XS n scr) 202 mLW 2417 (lwL i none none) [] (am_hM h M) r := by
  obtain ⟨⟨w, M2⟩, hy', hy, hI2⟩ := u_status (x := scr (b + 1)) hI
  exact pl_status hR (d1 := 200) (v := w) (M1 := M) (M2 := M2) g.1 (ef_X11_status (d := 200) g.1 hy) (ef_X12_status (d := 199) g.1 hy') (by decide) (am_AtG.less (r' := r') (by omega) (by omega) (by rw [LH.nc g]; exact hr3) (by rw [LH.ns g]; exact hr4) (K _ _ _ _ _ _ g hI2))
theorem cs_count {n b : Nat} {scr : Nat → Int32} {i : Int32} {r r' : Nat × Nat} {qc qd qs qn : Nat} {h : am_H} {M : Mem} (hR : Rd n b i) (g : LH qc qd qs qn h) (hI : INV qc qd qs qn M) (hr1 : r'.1 + 1 ≤ r.1) (hr2 : r'.2 + 6 ≤ r.2) (hr3 : ncS 83 ≤ r'.1) (hr4 : nsS 83 ≤ r'.2) (K : ∀ (qc qd qs qn : Nat) (h : am_H) (M : Mem), LH qc qd qs qn h → INV qc qd qs qn M → am_AtG [] lawPo (am_XS n scr) 202 mLW 2467 (lwL i none none) [] (am_hM h M) r') : am_AtG [] lawPo (am_XS n scr) 202 mLW 2442 (lwL i none none) [] (am_hM h M) r := by
  obtain ⟨hy, hI2⟩ := u_count (x := scr (b + 1)) hI
  exact pl_count hR (d1 := 200) (v := (f_X12_count (scr (b + 1)) M).1) (M1 := M) (M2 := (f_X12_count (scr (b + 1)) M).2) g.1 (ef_X11_count (d := 199) g.1 hy) (ef_X12_count (d := 200) g.1 rfl) (by decide) (am_AtG.less (r' := r') (by omega) (by omega) (by rw [LH.nc g]; exact hr3) (by rw [LH.ns g]; exact hr4) (K _ _ _ _ _ _ g hI2))
