
/-! references written -/
theorem am_e.ur {cy : Nat → ClassId} {ad : Nat → Nat → Nat} {h : am_H} {c f : Nat} {t : Option Nat} {c' r' k' n' w' : Nat} (q : am_ok h c' r' k' n' w') (hc : ¬ (c' = c ∧ r' = 0)) : am_e cy ad (am_ur h c f t) c' r' k' n' w' = am_e cy ad h c' r' k' n' w' := by
  unfold am_e am_ur
  by_cases h1 : k' < 13
  · have e0 : r' = 0 := by rcases q.2 with z | z <;> omega
    have hc' : ¬ c' = c := fun z => hc ⟨z, e0⟩
    simp only [h1, if_true]
    refine congrArg (fun z => Sum.inr (k', z)) (List.map_congr_left fun f' _ => ?_)
    unfold am_fv
    simp [hc']
  · simp only [h1, if_false]
    by_cases h2 : k' = 102
    · have e0 : r' = 0 := by rcases q.2 with z | z <;> omega
      have hc' : ¬ c' = c := fun z => hc ⟨z, e0⟩
      simp [h2, hc']
    · simp only [h2, if_false]
theorem am_putR {X : am_X} {d : Nat} {mt : am_M} {pc : Nat} {L : List (Option am_V)} {st : List am_V} {h : am_H} {r : am_R} {idx c : Nat} (k f : Nat) {n w : Nat} {ft : FieldType} {t : Nat} (hd : decode mt.2.1 pc = .ok (.putfield idx, 3)) (g : am_pd mt.1.cls idx k f ft false ∨ (am_pd mt.1.cls idx k f ft true ∧ mt.1.name = "<init>")) (hs : h.1[c]? = some (k, n, w)) (hn : f < n) (hr : am_rf k f = true) (ht : ∀ a, narrow ft (.ref a) = .ref a) (hft : ∀ a, fits ft (.ref a) = true) (kk : am_At X d mt (pc + 3) L st (am_ur h c f (some t)) r) : am_At X d mt pc L (.inr (t, 0) :: .inr (c, 0) :: st) h r := by
  intro p l e R s m args below meth c0 H locs cells slots mc ms ls D cy A ad Q hC hX hP hD hS hL h1 h2 z1 z2 hQ
  have hts := hC.2.2.2.2.2.2.2.2.2.1
  have hG := hC.2.2.2.2.2.2.2.2.2.2.1
  have hnm := hC.2.2.2.2.2.2.2.1
  have ho : am_ok h c 0 k n w := ⟨hs, Or.inl rfl⟩
  have hk : k < 13 := by rcases g with ⟨_, _, g, -⟩ | ⟨⟨_, _, g, -⟩, -⟩ <;> exact am_k13 g
  have hat := hP c 0 k n w ho
  rw [am_eo hk] at hat
  have fin : ∀ (H1 : Heap) (j : Nat), va_at D vwCl (ad c 0, .inr (k, ((List.range n).map (am_fv ad h c k)).set f (.ref (ad t 0)))) H1 → H1.size = H.size → (∀ q, q ≠ ad c 0 → H1[q]? = H[q]?) → W p l e R s m args below meth c0 H1 (locs ++ [⟨ad c 0, j⟩]) cells slots Q (F0 m (pc + 3) ls (st.map (am_cv ad))) := by
    intro H1 j e1 e2 e3
    rw [am_fs_set (h' := am_ur h c f (some t)) hn (by unfold am_fv am_ur; rw [hr]; simp [va_rf]) (fun f' hf' => by unfold am_fv am_ur; simp [hf'])] at e1
    refine kk p l e R s m args below meth c0 H1 _ cells slots mc ms ls D cy A ad Q hC hX (hP.set hD ho rfl (fun c' r' k' n' w' a b => am_e.ur a b) (by rw [am_eo hk]; exact e1) e3) (hD.sh rfl) (hS.put e2 e3 (hD.2 c 0 k n w ho)) hL h1 h2 z1 z2 hQ
  rcases g with g | ⟨g, gi⟩
  · exact am_put0 (fin := false) hC.1 hC.2.2.1 hts hG.2.1 hC.2.2.2.2.1 hG.1 (fun z => by cases z) g hat (by simpa using hn) (ht _) (hft _) hd fin
  · exact am_put0 (fin := true) hC.1 hC.2.2.1 hts hG.2.1 hC.2.2.2.2.1 hG.1 (fun _ => by rw [hnm]; exact gi) g hat (by simpa using hn) (ht _) (hft _) hd fin
/-! arrays: an int array of n places at row r of cell c -/
def am_ia (h : am_H) (c r len : Nat) : Prop := ∃ k n w, am_ok h c r k n w ∧ ((k = 100 ∧ r = 0 ∧ len = n) ∨ (k = 103 ∧ r ≠ 0 ∧ len = w))
theorem am_ia.one {h : am_H} {c n w : Nat} (hs : h.1[c]? = some (100, n, w)) : am_ia h c 0 n := ⟨100, n, w, ⟨hs, Or.inl rfl⟩, Or.inl ⟨rfl, rfl, rfl⟩⟩
theorem am_ia.row {h : am_H} {c r n w : Nat} (hs : h.1[c]? = some (103, n, w)) (h0 : r ≠ 0) (hr : r ≤ n) : am_ia h c r w := ⟨103, n, w, ⟨hs, Or.inr ⟨rfl, hr⟩⟩, Or.inr ⟨rfl, h0, rfl⟩⟩
theorem am_ia.e {h : am_H} {c r len k n w : Nat} {cy : Nat → ClassId} {ad : Nat → Nat → Nat} (g : (k = 100 ∧ r = 0 ∧ len = n) ∨ (k = 103 ∧ r ≠ 0 ∧ len = w)) : am_e cy ad h c r k n w = .inl (cy 0, len, .inl (h.2.1 c r)) := by
  unfold am_e
  rcases g with ⟨rfl, rfl, rfl⟩ | ⟨rfl, h0, rfl⟩
  · simp
  · simp [h0]
theorem am_iald {X : am_X} {d : Nat} {mt : am_M} {pc : Nat} {L : List (Option am_V)} {st : List am_V} {h : am_H} {r : am_R} {c r0 n : Nat} {j : Int32} (hd : decode mt.2.1 pc = .ok (.iaload, 1)) (g : am_ia h c r0 n) (hin : vp_in j n) (kk : am_At X d mt (pc + 1) L (am_I (h.2.1 c r0 j.toNatClampNeg) :: st) h r) : am_At X d mt pc L (am_I j :: .inr (c, r0) :: st) h r := by
  intro p l e R s m args below meth c0 H locs cells slots mc ms ls D cy A ad Q hC hX hP hD hS hL h1 h2 z1 z2 hQ
  obtain ⟨k, n1, w, ho, g⟩ := g
  exact va_iald (D := D) hC.1 hC.2.2.1 hC.2.2.2.2.2.2.2.2.2.2.1.1 (hP.one ho (am_ia.e g)) 0 0 rfl rfl hin hd (kk p l e R s m args below meth c0 H locs cells slots mc ms ls D cy A ad Q hC hX hP hD hS hL h1 h2 z1 z2 hQ)
theorem am_iast {X : am_X} {d : Nat} {mt : am_M} {pc : Nat} {L : List (Option am_V)} {st : List am_V} {h : am_H} {r : am_R} {c r0 n : Nat} {j x : Int32} (hd : decode mt.2.1 pc = .ok (.iastore, 1)) (g : am_ia h c r0 n) (hin : vp_in j n) (kk : am_At X d mt (pc + 1) L st (am_um h c r0 j.toNatClampNeg x) r) : am_At X d mt pc L (am_I x :: am_I j :: .inr (c, r0) :: st) h r := by
  intro p l e R s m args below meth c0 H locs cells slots mc ms ls D cy A ad Q hC hX hP hD hS hL h1 h2 z1 z2 hQ
  obtain ⟨k, n1, w, ho, g⟩ := g
  have ha : H[ad c r0]? = some (vp_cell (cy 0) (n, .inl (h.2.1 c r0))) := by have := hP c r0 k n1 w ho; rw [am_ia.e g] at this; exact this
  have hK := hC.2.2.2.2.2.2.2.2.2.2.1.1
  refine W.iast hC.1 hC.2.2.1 ha ((hK.2 0 _ rfl).1 n (fun j => .int (h.2.1 c r0 j))) (fun q => by cases q) (by show ¬ (j < 0 ∨ (arrV _ _ _).slots.size ≤ _); rw [arrV_size]; exact hin) rfl rfl hd fun H1 e1 e2 e3 => ?_
  refine kk p l e R s m args below meth c0 H1 _ cells slots mc ms ls D cy A ad Q hC hX (hP.set hD ho rfl (fun c' r' k' n' w' a b => am_e.um a b) ?_ e3) (hD.sh rfl) (hS.put e2 e3 (hD.2 c r0 k n1 w ho)) hL h1 h2 z1 z2 hQ
  rw [am_ia.e g]
  show H1[ad c r0]? = some (vp_cell _ _)
  rw [e1, vp_cell_i, vp_cell_i, arrV_store]
  congr 2
  funext q
  by_cases hq : q = j.toNatClampNeg
  · subst hq
    simp [updV, am_um, am_u3]
  · simp [updV, am_um, am_u3, hq]
theorem am_alen {X : am_X} {d : Nat} {mt : am_M} {pc : Nat} {L : List (Option am_V)} {st : List am_V} {h : am_H} {r : am_R} {c r0 n : Nat} {v : Int32} (hd : decode mt.2.1 pc = .ok (.arraylength, 1)) (g : am_ia h c r0 n) (hv : Int32.ofNat n = v) (kk : am_At X d mt (pc + 1) L (am_I v :: st) h r) : am_At X d mt pc L (.inr (c, r0) :: st) h r := by
  intro p l e R s m args below meth c0 H locs cells slots mc ms ls D cy A ad Q hC hX hP hD hS hL h1 h2 z1 z2 hQ
  obtain ⟨k, n1, w, ho, g⟩ := g
  exact va_alen (D := D) hC.1 hC.2.2.1 hC.2.2.2.2.2.2.2.2.2.2.1.1 (hP.one ho (am_ia.e g)) 0 0 rfl rfl hv hd (kk p l e R s m args below meth c0 H locs cells slots mc ms ls D cy A ad Q hC hX hP hD hS hL h1 h2 z1 z2 hQ)
/-- bytes -/
theorem am_eb {h : am_H} {c r n w : Nat} {cy : Nat → ClassId} {ad : Nat → Nat → Nat} : am_e cy ad h c r 101 n w = .inl (cy 1, n, .inl (h.2.1 c 0)) := by
  unfold am_e
  simp
theorem am_bald {X : am_X} {d : Nat} {mt : am_M} {pc : Nat} {L : List (Option am_V)} {st : List am_V} {h : am_H} {r : am_R} {c n w : Nat} {j : Int32} (hd : decode mt.2.1 pc = .ok (.baload, 1)) (hs : h.1[c]? = some (101, n, w)) (hin : vp_in j n) (kk : am_At X d mt (pc + 1) L (am_I (h.2.1 c 0 j.toNatClampNeg) :: st) h r) : am_At X d mt pc L (am_I j :: .inr (c, 0) :: st) h r := by
  intro p l e R s m args below meth c0 H locs cells slots mc ms ls D cy A ad Q hC hX hP hD hS hL h1 h2 z1 z2 hQ
  exact va_bald (D := D) hC.1 hC.2.2.1 hC.2.2.2.2.2.2.2.2.2.2.1.1 (hP.one ⟨hs, Or.inl rfl⟩ am_eb) 0 1 rfl rfl hin hd (kk p l e R s m args below meth c0 H locs cells slots mc ms ls D cy A ad Q hC hX hP hD hS hL h1 h2 z1 z2 hQ)
theorem am_blen {X : am_X} {d : Nat} {mt : am_M} {pc : Nat} {L : List (Option am_V)} {st : List am_V} {h : am_H} {r : am_R} {c n w : Nat} {v : Int32} (hd : decode mt.2.1 pc = .ok (.arraylength, 1)) (hs : h.1[c]? = some (101, n, w)) (hv : Int32.ofNat n = v) (kk : am_At X d mt (pc + 1) L (am_I v :: st) h r) : am_At X d mt pc L (.inr (c, 0) :: st) h r := by
  intro p l e R s m args below meth c0 H locs cells slots mc ms ls D cy A ad Q hC hX hP hD hS hL h1 h2 z1 z2 hQ
  exact va_alen (D := D) hC.1 hC.2.2.1 hC.2.2.2.2.2.2.2.2.2.2.1.1 (hP.one ⟨hs, Or.inl rfl⟩ am_eb) 0 1 rfl rfl hv hd (kk p l e R s m args below meth c0 H locs cells slots mc ms ls D cy A ad Q hC hX hP hD hS hL h1 h2 z1 z2 hQ)
theorem am_bast {X : am_X} {d : Nat} {mt : am_M} {pc : Nat} {L : List (Option am_V)} {st : List am_V} {h : am_H} {r : am_R} {c n w : Nat} {j x : Int32} (hd : decode mt.2.1 pc = .ok (.bastore, 1)) (hs : h.1[c]? = some (101, n, w)) (hin : vp_in j n) (kk : am_At X d mt (pc + 1) L st (am_um h c 0 j.toNatClampNeg x.toInt8.toInt32) r) : am_At X d mt pc L (am_I x :: am_I j :: .inr (c, 0) :: st) h r := by
  intro p l e R s m args below meth c0 H locs cells slots mc ms ls D cy A ad Q hC hX hP hD hS hL h1 h2 z1 z2 hQ
  have ho : am_ok h c 0 101 n w := ⟨hs, Or.inl rfl⟩
  have ha : H[ad c 0]? = some (vp_cell (cy 1) (n, .inl (h.2.1 c 0))) := by have := hP c 0 101 n w ho; rw [am_eb] at this; exact this
  have hK := hC.2.2.2.2.2.2.2.2.2.2.1.1
  refine W.bast hC.1 hC.2.2.1 ha ((hK.2 1 _ rfl).1 n (fun j => .int (h.2.1 c 0 j))) (fun q => by cases q) (by show ¬ (j < 0 ∨ (arrV _ _ _).slots.size ≤ _); rw [arrV_size]; exact hin) rfl rfl hd fun H1 e1 e2 e3 => ?_
  refine kk p l e R s m args below meth c0 H1 _ cells slots mc ms ls D cy A ad Q hC hX (hP.set hD ho rfl (fun c' r' k' n' w' a b => am_e.um a b) ?_ e3) (hD.sh rfl) (hS.put e2 e3 (hD.2 c 0 101 n w ho)) hL h1 h2 z1 z2 hQ
  rw [am_eb]
  show H1[ad c 0]? = some (vp_cell _ _)
  rw [e1, vp_cell_i, vp_cell_i, arrV_store]
  congr 2
  funext q
  by_cases hq : q = j.toNatClampNeg
  · subst hq
    simp [updV, am_um, am_u3, narrow]
  · simp [updV, am_um, am_u3, hq]
/-- longs that are ints -/
theorem am_el {h : am_H} {c r n w : Nat} {cy : Nat → ClassId} {ad : Nat → Nat → Nat} : am_e cy ad h c r 102 n w = .inl (cy 2, n, .inr (.inl (fun j => am_lg (h.2.2 c j)))) := by
  unfold am_e
  simp
theorem am_lald {X : am_X} {d : Nat} {mt : am_M} {pc : Nat} {L : List (Option am_V)} {st : List am_V} {h : am_H} {r : am_R} {c n w : Nat} {j : Int32} (hd : decode mt.2.1 pc = .ok (.laload, 1)) (hs : h.1[c]? = some (102, n, w)) (hin : vp_in j n) (kk : am_At X d mt (pc + 1) L (.inl (.long (am_lg (h.2.2 c j.toNatClampNeg))) :: st) h r) : am_At X d mt pc L (am_I j :: .inr (c, 0) :: st) h r := by
  intro p l e R s m args below meth c0 H locs cells slots mc ms ls D cy A ad Q hC hX hP hD hS hL h1 h2 z1 z2 hQ
  exact va_lald (D := D) hC.1 hC.2.2.1 hC.2.2.2.2.2.2.2.2.2.2.1.1 (hP.one ⟨hs, Or.inl rfl⟩ am_el) 0 2 rfl rfl hin hd (kk p l e R s m args below meth c0 H locs cells slots mc ms ls D cy A ad Q hC hX hP hD hS hL h1 h2 z1 z2 hQ)
theorem am_last {X : am_X} {d : Nat} {mt : am_M} {pc : Nat} {L : List (Option am_V)} {st : List am_V} {h : am_H} {r : am_R} {c n w : Nat} {j x : Int32} (hd : decode mt.2.1 pc = .ok (.lastore, 1)) (hs : h.1[c]? = some (102, n, w)) (hin : vp_in j n) (kk : am_At X d mt (pc + 1) L st (am_ur h c j.toNatClampNeg (am_lc x)) r) : am_At X d mt pc L (.inl (.long x.toInt64) :: am_I j :: .inr (c, 0) :: st) h r := by
  intro p l e R s m args below meth c0 H locs cells slots mc ms ls D cy A ad Q hC hX hP hD hS hL h1 h2 z1 z2 hQ
  have ho : am_ok h c 0 102 n w := ⟨hs, Or.inl rfl⟩
  have ha : H[ad c 0]? = some (vp_cell (cy 2) (n, .inr (.inl (fun j => am_lg (h.2.2 c j))))) := by have := hP c 0 102 n w ho; rw [am_el] at this; exact this
  have hK := hC.2.2.2.2.2.2.2.2.2.2.1.1
  refine W.last hC.1 hC.2.2.1 ha ((hK.2 2 _ rfl).1 n (fun j => .long (am_lg (h.2.2 c j)))) (fun q => by cases q) (by show ¬ (j < 0 ∨ (arrV _ _ _).slots.size ≤ _); rw [arrV_size]; exact hin) rfl rfl hd fun H1 e1 e2 e3 => ?_
  refine kk p l e R s m args below meth c0 H1 _ cells slots mc ms ls D cy A ad Q hC hX (hP.set hD ho rfl (fun c' r' k' n' w' a b => am_e.ur a b) ?_ e3) (hD.sh rfl) (hS.put e2 e3 (hD.2 c 0 102 n w ho)) hL h1 h2 z1 z2 hQ
  rw [am_el]
  show H1[ad c 0]? = some (vp_cell _ _)
  rw [e1, vp_cell_l, vp_cell_l, arrV_store]
  congr 2
  funext q
  by_cases hq : q = j.toNatClampNeg
  · subst hq
    simp [updV, am_ur, am_lgc]
  · simp [updV, am_ur, hq]
/-- the rows of a grid -/
theorem am_eg {h : am_H} {c n w : Nat} {cy : Nat → ClassId} {ad : Nat → Nat → Nat} : am_e cy ad h c 0 103 n w = .inl (cy 3, n, .inr (.inr (.inr (.inr (fun i => some (ad c (i + 1))))))) := by
  unfold am_e
  simp
theorem am_aald {X : am_X} {d : Nat} {mt : am_M} {pc : Nat} {L : List (Option am_V)} {st : List am_V} {h : am_H} {r : am_R} {c n w : Nat} {j : Int32} (hd : decode mt.2.1 pc = .ok (.aaload, 1)) (hs : h.1[c]? = some (103, n, w)) (hin : vp_in j n) (kk : am_At X d mt (pc + 1) L (.inr (c, j.toNatClampNeg + 1) :: st) h r) : am_At X d mt pc L (am_I j :: .inr (c, 0) :: st) h r := by
  intro p l e R s m args below meth c0 H locs cells slots mc ms ls D cy A ad Q hC hX hP hD hS hL h1 h2 z1 z2 hQ
  have ho : am_ok h c 0 103 n w := ⟨hs, Or.inl rfl⟩
  have ha : H[ad c 0]? = some (vp_cell (cy 3) (n, .inr (.inr (.inr (.inr (fun i => some (ad c (i + 1)))))))) := by have := hP c 0 103 n w ho; rw [am_eg] at this; exact this
  have hK := hC.2.2.2.2.2.2.2.2.2.2.1.1
  refine W.aald hC.1 hC.2.2.1 ha ((hK.2 3 _ rfl).1 n (fun i => va_rf (some (ad c (i + 1))))) rfl (fun q => by cases q) (by show ¬ (j < 0 ∨ (arrV _ _ _).slots.size ≤ _); rw [arrV_size]; exact hin) (v := .ref (ad c (j.toNatClampNeg + 1))) ?_ rfl rfl hd (kk p l e R s m args below meth c0 H locs cells slots mc ms ls D cy A ad Q hC hX hP hD hS hL h1 h2 z1 z2 hQ)
  rw [vp_cell_q]
  have hlt : j.toNatClampNeg < n := by
    have := hin
    unfold vp_in at this
    omega
  simp [arrV, hlt, va_rf]
theorem am_glen {X : am_X} {d : Nat} {mt : am_M} {pc : Nat} {L : List (Option am_V)} {st : List am_V} {h : am_H} {r : am_R} {c n w : Nat} {v : Int32} (hd : decode mt.2.1 pc = .ok (.arraylength, 1)) (hs : h.1[c]? = some (103, n, w)) (hv : Int32.ofNat n = v) (kk : am_At X d mt (pc + 1) L (am_I v :: st) h r) : am_At X d mt pc L (.inr (c, 0) :: st) h r := by
  intro p l e R s m args below meth c0 H locs cells slots mc ms ls D cy A ad Q hC hX hP hD hS hL h1 h2 z1 z2 hQ
  exact va_alen (D := D) hC.1 hC.2.2.1 hC.2.2.2.2.2.2.2.2.2.2.1.1 (hP.one ⟨hs, Or.inl rfl⟩ am_eg) 0 3 rfl rfl hv hd (kk p l e R s m args below meth c0 H locs cells slots mc ms ls D cy A ad Q hC hX hP hD hS hL h1 h2 z1 z2 hQ)
/-! ends -/
theorem am_mono {p : Program} {l : Launch} {e : Env} {R : Room} {s : State} {m : MethodId} {args : Array Value} {below : List Frame} {meth : Method} {c : Code} {H : Heap} {locs : List Loc} {cells slots : Nat} {Q Q' : State → Prop} {g : JFrame} (k : W p l e R s m args below meth c H locs cells slots Q g) (hQ : ∀ t, Q t → Q' t) : W p l e R s m args below meth c H locs cells slots Q' g := fun T hT X => by
  obtain ⟨t, a, b⟩ := k T hT X
  exact ⟨t, a, hQ t b⟩
theorem am_iret {X : am_X} {d : Nat} {mt : am_M} {pc : Nat} {L : List (Option am_V)} {h : am_H} {x : Int32} (hd : decode mt.2.1 pc = .ok (.ireturn, 1)) (hr : mt.2.2.2 = some .int) : am_At X d mt pc L [am_I x] h (.inl (some (am_I x), h)) := by
  intro p l e R s m args below meth c0 H locs cells slots mc ms ls D cy A ad Q hC hX hP hD hS hL h1 h2 z1 z2 hQ
  have h1 : cells + am_nc h ≤ mc + am_nc h := h1
  have h2 : slots + am_ns h ≤ ms + am_ns h := h2
  refine am_mono (vx_ret (W.widen (k := mc) (n := ms) (by omega) (by omega) (W.iret (Qc := am_Qc (.inl (some (am_I x), h)) D cy A ad h) (v := x) hC.1 hC.2.2.1 (hC.2.2.2.2.2.1.trans hr) (fun t ht hW => ⟨⟨some (am_I x), h, ad, rfl, rfl, am_ag.rf rfl, by rw [ht]; exact hP, hD⟩, hS.F ht⟩) hS.2.2 hd hC.2.2.2.2.2.2.1))) hQ
theorem am_zret {X : am_X} {d : Nat} {mt : am_M} {pc : Nat} {L : List (Option am_V)} {h : am_H} {x : Int32} {ty : FieldType} (hd : decode mt.2.1 pc = .ok (.ireturn, 1)) (hr : mt.2.2.2 = some ty) (hn : narrow ty (.int x) = .int x) : am_At X d mt pc L [am_I x] h (.inl (some (am_I x), h)) := by
  intro p l e R s m args below meth c0 H locs cells slots mc ms ls D cy A ad Q hC hX hP hD hS hL h1 h2 z1 z2 hQ
  have h1 : cells + am_nc h ≤ mc + am_nc h := h1
  have h2 : slots + am_ns h ≤ ms + am_ns h := h2
  refine am_mono (vx_ret (W.widen (k := mc) (n := ms) (by omega) (by omega) (W.zret (Qc := am_Qc (.inl (some (am_I x), h)) D cy A ad h) (v := x) hC.1 hC.2.2.1 (hC.2.2.2.2.2.1.trans hr) hn (fun t ht hW => ⟨⟨some (am_I x), h, ad, rfl, rfl, am_ag.rf rfl, by rw [ht]; exact hP, hD⟩, hS.F ht⟩) hS.2.2 hd hC.2.2.2.2.2.2.1))) hQ
theorem am_vret {X : am_X} {d : Nat} {mt : am_M} {pc : Nat} {L : List (Option am_V)} {h : am_H} (hd : decode mt.2.1 pc = .ok (.return_, 1)) (hr : mt.2.2.2 = none) : am_At X d mt pc L [] h (.inl (none, h)) := by
  intro p l e R s m args below meth c0 H locs cells slots mc ms ls D cy A ad Q hC hX hP hD hS hL h1 h2 z1 z2 hQ
  have h1 : cells + am_nc h ≤ mc + am_nc h := h1
  have h2 : slots + am_ns h ≤ ms + am_ns h := h2
  refine am_mono (vx_ret (W.widen (k := mc) (n := ms) (by omega) (by omega) (W.vret (Qc := am_Qc (.inl (none, h)) D cy A ad h) hC.1 hC.2.2.1 (hC.2.2.2.2.2.1.trans hr) (fun t ht hW => ⟨⟨none, h, ad, rfl, rfl, am_ag.rf rfl, by rw [ht]; exact hP, hD⟩, hS.F ht⟩) hS.2.2 hd hC.2.2.2.2.2.2.1))) hQ
/-! a method's beginning -/
theorem am_A.D {A : Nat → Prop} {ad : Nat → Nat → Nat} {h : am_H} (sz : Nat) (q : am_D A ad h) : am_D (am_A ad h sz) ad h := ⟨q.1, fun c r k n w ho => Or.inl ⟨c, r, k, n, w, ho, rfl⟩⟩
theorem am_entryL {ad : Nat → Nat → Nat} : ∀ {as : List am_V}, (∀ v ∈ as, ∀ ad, (am_cv ad v).category = 1) → ∀ (i k : Nat) (v : am_V), as[k]? = some v → (i + k, am_cv ad v) ∈ lv_args i (as.map (am_cv ad))
  | [], _, i, k, v, h => by simp at h
  | a :: as, hc, i, k, v, h => by
    have h1 : (am_cv ad a).category = 1 := hc a List.mem_cons_self ad
    show (i + k, am_cv ad v) ∈ (i, am_cv ad a) :: lv_args (if (am_cv ad a).category = 2 then i + 2 else i + 1) (as.map (am_cv ad))
    rw [h1, if_neg (by decide)]
    cases k with
    | zero =>
      cases h
      exact List.mem_cons_self
    | succ k =>
      have := am_entryL (ad := ad) (fun v hv => hc v (List.mem_cons_of_mem _ hv)) (i + 1) k v h
      rw [show i + (k + 1) = i + 1 + k by omega]
      exact List.mem_cons_of_mem _ this
theorem am_sl {ad : Nat → Nat → Nat} : ∀ {as : List am_V}, (∀ v ∈ as, ∀ ad, (am_cv ad v).category = 1) → (lg_sl (as.map (am_cv ad))).length = as.length
  | [], _ => rfl
  | a :: as, hc => by
    have h1 : (am_cv ad a).category = 1 := hc a List.mem_cons_self ad
    have ih := am_sl (ad := ad) (as := as) (fun v hv => hc v (List.mem_cons_of_mem _ hv))
    unfold lg_sl at ih ⊢
    rw [List.map_cons, List.flatMap_cons, h1, if_neg (by decide), List.length_append, ih]
    simp [Nat.add_comm]
theorem am_Ev.of {d : Nat} {mt : am_M} {as : List am_V} {h : am_H} {r : am_R} (hy : plainName mt.1.cls = true) (hc : ∀ v ∈ as, ∀ ad, (am_cv ad v).category = 1) (hn : as.length ≤ mt.2.2.1) (e1 : am_nc h ≤ am_rc r) (e2 : am_ns h ≤ am_rs r) (k : am_At am_X0 d mt 0 (as.map some ++ List.replicate (mt.2.2.1 - as.length) none) [] h r) : am_Ev d mt as h r := by
  intro l hl D cy ad sz
  refine vx_ofW hy rfl ?_
  intro p e s m args below meth c s₁ B hml ht hv
  obtain ⟨rfl, hsz, hP, hD0, hG⟩ := hv
  have hts := atoms_spec (ws := Cond.code mt.1 mt.2.1 mt.2.2.1 mt.2.2.2 :: am_ws) B.pre
  subst hsz
  rw [lg_entry_eq]
  have hlen := am_sl (ad := ad) hc
  have hL0 := lv_entry (as.map (am_cv ad)) (n := mt.2.2.1) (by rw [hlen]; exact hn)
  generalize (lg_sl (as.map (am_cv ad)) ++ List.replicate (mt.2.2.1 - (lg_sl (as.map (am_cv ad))).length) Slot.unset).toArray = ls at hL0 ⊢
  have hL : am_L ad ls mt.2.2.1 (as.map some ++ List.replicate (mt.2.2.1 - as.length) none) := by
    refine ⟨hL0.1, hL0.2.1, by simp; omega, fun k v hk => ?_⟩
    by_cases hka : k < as.length
    · rw [List.getElem?_append_left (by simpa using hka), List.getElem?_map] at hk
      cases e : as[k]? with
      | none => rw [e] at hk; cases hk
      | some w =>
        rw [e] at hk
        cases hk
        have := hL0.2.2 (0 + k, am_cv ad v) (am_entryL hc 0 k v e)
        rw [Nat.zero_add] at this
        exact ⟨this, hc v (List.mem_of_getElem? e) ad⟩
    · rw [List.getElem?_append_right (by simpa using hka)] at hk
      have := List.eq_of_mem_replicate (List.mem_of_getElem? hk)
      cases this
  exact k p l e _ s m _ below meth c s.heap [] 0 0 (am_rc r - am_nc h) (am_rs r - am_ns h) ls D cy (am_A ad h s.heap.size) ad _ ⟨B.exec, hl, B.bytes, hml, findClass_of_methodNamed B.named, B.returns, B.notSynchronized, (name_of_methodNamed B.named B.method).1, ht, fun w hw => hts w (List.mem_cons_of_mem _ hw), hG, fun q hq => Or.inr hq, rfl, rfl, Nat.le_refl _, Nat.le_refl _⟩ trivial hP (am_A.D _ hD0) va_S.rf hL (by omega) (by omega) e1 e2 (fun t z => z)
