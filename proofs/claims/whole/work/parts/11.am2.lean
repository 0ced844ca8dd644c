
/-! stores to locals -/
def am_al (ad : Nat → Nat → Nat) (L : List (Option am_V)) : List (Nat × Value) := (List.range L.length).filterMap (fun k => (L[k]?.join).map (fun v => (k, am_cv ad v)))
theorem am_L.has {ad : Nat → Nat → Nat} {ls : Array Slot} {nL : Nat} {L : List (Option am_V)} (hL : am_L ad ls nL L) : lv_has ls nL (am_al ad L) := by
  refine ⟨hL.1, hL.2.1, fun q hq => ?_⟩
  obtain ⟨k, -, hk⟩ := List.mem_filterMap.mp hq
  cases e : L[k]? with
  | none => rw [e] at hk; cases hk
  | some o =>
    cases o with
    | none => rw [e] at hk; cases hk
    | some v =>
      rw [e] at hk
      cases hk
      exact (hL.2.2.2 k v e).1
theorem am_L.set {ad : Nat → Nat → Nat} {ls ls' : Array Slot} {nL i : Nat} {L : List (Option am_V)} {a : am_V} (hL : am_L ad ls nL L) (hc : (am_cv ad a).category = 1) (h : lv_has ls' nL ((i, am_cv ad a) :: (am_al ad L).filter (fun q => !(q.1 == i) && !(q.1 + 1 == i && q.2.category == 2)))) : am_L ad ls' nL (L.set i (some a)) := by
  refine ⟨h.1, h.2.1, by rw [List.length_set]; exact hL.2.2.1, fun k v hk => ?_⟩
  by_cases hki : k = i
  · subst hki
    have hl : k < L.length := by
      have := (List.getElem?_eq_some_iff.mp hk).1
      rw [List.length_set] at this
      exact this
    rw [List.getElem?_set_self hl] at hk
    cases hk
    exact ⟨h.2.2 _ List.mem_cons_self, hc⟩
  · rw [List.getElem?_set_ne (Ne.symm hki)] at hk
    have h3 := hL.2.2.2 k v hk
    refine ⟨h.2.2 (k, am_cv ad v) (List.mem_cons_of_mem _ (List.mem_filter.mpr ⟨List.mem_filterMap.mpr ⟨k, List.mem_range.mpr (List.getElem?_eq_some_iff.mp hk).1, ?_⟩, ?_⟩)), h3.2⟩
    · rw [hk]; rfl
    · simp [hki, h3.2]
theorem am_L.lt {ad : Nat → Nat → Nat} {ls : Array Slot} {nL i : Nat} {L : List (Option am_V)} (hL : am_L ad ls nL L) (hi : i < L.length) : i < nL := by rw [← hL.2.2.1]; exact hi
theorem am_istore_n {X : am_X} {d : Nat} {mt : am_M} {pc : Nat} {L : List (Option am_V)} {st : List am_V} {h : am_H} {r : am_R} {q : Fin 4} {x : Int32} (hd : decode mt.2.1 pc = .ok (.istore_n q, 1)) (hi : (q : Nat) < L.length) (k : am_At X d mt (pc + 1) (L.set (q : Nat) (some (am_I x))) st h r) : am_At X d mt pc L (am_I x :: st) h r := by
  intro p l e R s m args below meth c H locs cells slots mc ms ls D cy A ad Q hC hX hP hD hS hL h1 h2 z1 z2 hQ
  exact lv_istore_n hC.1 hC.2.2.1 hd rfl hL.has (hL.lt hi) rfl (fun ls2 h9 => k p l e R s m args below meth c H locs cells slots mc ms ls2 D cy A ad Q hC hX hP hD hS (hL.set (a := am_I x) rfl h9) h1 h2 z1 z2 hQ)
theorem am_istore {X : am_X} {d : Nat} {mt : am_M} {pc : Nat} {L : List (Option am_V)} {st : List am_V} {h : am_H} {r : am_R} {q : Nat} {x : Int32} (hd : decode mt.2.1 pc = .ok (.istore q, 2)) (hi : (q : Nat) < L.length) (k : am_At X d mt (pc + 2) (L.set (q : Nat) (some (am_I x))) st h r) : am_At X d mt pc L (am_I x :: st) h r := by
  intro p l e R s m args below meth c H locs cells slots mc ms ls D cy A ad Q hC hX hP hD hS hL h1 h2 z1 z2 hQ
  exact lv_istore hC.1 hC.2.2.1 hd hL.has (hL.lt hi) rfl (fun ls2 h9 => k p l e R s m args below meth c H locs cells slots mc ms ls2 D cy A ad Q hC hX hP hD hS (hL.set (a := am_I x) rfl h9) h1 h2 z1 z2 hQ)
theorem am_astore_n {X : am_X} {d : Nat} {mt : am_M} {pc : Nat} {L : List (Option am_V)} {st : List am_V} {h : am_H} {r : am_R} {q : Fin 4} {x : Nat × Nat} (hd : decode mt.2.1 pc = .ok (.astore_n q, 1)) (hi : (q : Nat) < L.length) (k : am_At X d mt (pc + 1) (L.set (q : Nat) (some (.inr x))) st h r) : am_At X d mt pc L (.inr x :: st) h r := by
  intro p l e R s m args below meth c H locs cells slots mc ms ls D cy A ad Q hC hX hP hD hS hL h1 h2 z1 z2 hQ
  exact lv_astore_n hC.1 hC.2.2.1 hd rfl hL.has (hL.lt hi) rfl (fun ls2 h9 => k p l e R s m args below meth c H locs cells slots mc ms ls2 D cy A ad Q hC hX hP hD hS (hL.set (a := .inr x) rfl h9) h1 h2 z1 z2 hQ)
theorem am_astore {X : am_X} {d : Nat} {mt : am_M} {pc : Nat} {L : List (Option am_V)} {st : List am_V} {h : am_H} {r : am_R} {q : Nat} {x : Nat × Nat} (hd : decode mt.2.1 pc = .ok (.astore q, 2)) (hi : (q : Nat) < L.length) (k : am_At X d mt (pc + 2) (L.set (q : Nat) (some (.inr x))) st h r) : am_At X d mt pc L (.inr x :: st) h r := by
  intro p l e R s m args below meth c H locs cells slots mc ms ls D cy A ad Q hC hX hP hD hS hL h1 h2 z1 z2 hQ
  exact lv_astore hC.1 hC.2.2.1 hd hL.has (hL.lt hi) rfl (fun ls2 h9 => k p l e R s m args below meth c H locs cells slots mc ms ls2 D cy A ad Q hC hX hP hD hS (hL.set (a := .inr x) rfl h9) h1 h2 z1 z2 hQ)
theorem am_iinc {X : am_X} {d : Nat} {mt : am_M} {pc : Nat} {L : List (Option am_V)} {st : List am_V} {h : am_H} {r : am_R} {q : Nat} {n : Int} {x v : Int32} (hd : decode mt.2.1 pc = .ok (.iinc q n, 3)) (hl : L[q]? = some (some (am_I x))) (hv : x + Int32.ofInt n = v) (k : am_At X d mt (pc + 3) (L.set q (some (am_I v))) st h r) : am_At X d mt pc L st h r := by
  intro p l e R s m args below meth c H locs cells slots mc ms ls D cy A ad Q hC hX hP hD hS hL h1 h2 z1 z2 hQ
  have hi : q < L.length := (List.getElem?_eq_some_iff.mp hl).1
  have hm : (q, Value.int x) ∈ am_al ad L := List.mem_filterMap.mpr ⟨q, List.mem_range.mpr hi, by rw [hl]; rfl⟩
  obtain ⟨k9, hk9⟩ := List.getElem?_of_mem hm
  exact lv_iinc hC.1 hC.2.2.1 hd hL.has hk9 hv (hL.lt hi) rfl (fun ls2 h9 => k p l e R s m args below meth c H locs cells slots mc ms ls2 D cy A ad Q hC hX hP hD hS (hL.set (a := am_I v) rfl h9) h1 h2 z1 z2 hQ)

/-! fields -/
def am_cl (k : Nat) (q : vw_C) (ty : Nat → FieldType) : Prop := vwCl[k]? = some q ∧ (∀ w ∈ u_ws q.1 q.2.1 q.2.2, w ∈ am_ws) ∧ (∀ f, f < q.2.2 → parseFieldDescriptor (q.2.1 f).2.2.1 = some (ty f)) ∧ (∀ a, a < q.2.2 → ∀ b, b < q.2.2 → a ≠ b → (q.2.1 a).2.1 ≠ (q.2.1 b).2.1)
def am_fl (own : String) (idx : Nat) (q : vw_C) (f : Nat) : Prop := Cond.fieldLink own idx (q.2.1 f).1 (q.2.1 f).2.1 (q.2.1 f).2.2.1 ∈ am_ws ∨ ∃ host, Cond.fieldLinkNest own idx (q.2.1 f).1 (q.2.1 f).2.1 (q.2.1 f).2.2.1 host ∈ am_nw
/-- the pool's entry idx of own names the field f of class k -/
def am_gd (own : String) (idx k f : Nat) : Prop := ∃ (q : vw_C) (ty : Nat → FieldType), am_cl k q ty ∧ f < q.2.2 ∧ am_fl own idx q f
def am_pd (own : String) (idx k f : Nat) (t : FieldType) (fin : Bool) : Prop := ∃ (q : vw_C) (ty : Nat → FieldType), am_cl k q ty ∧ f < q.2.2 ∧ am_fl own idx q f ∧ ty f = t ∧ (q.2.1 f).2.2.2 = fin ∧ (fin = true → (q.2.1 f).1 = own ∧ Cond.fieldLink own idx (q.2.1 f).1 (q.2.1 f).2.1 (q.2.1 f).2.2.1 ∈ am_ws)
theorem am_k13 {k : Nat} {q : vw_C} {ty : Nat → FieldType} (h : am_cl k q ty) : k < 13 := (List.getElem?_eq_some_iff.mp h.1).1
theorem am_eo {cy : Nat → ClassId} {ad : Nat → Nat → Nat} {h : am_H} {c r k n w : Nat} (hk : k < 13) : am_e cy ad h c r k n w = .inr (k, (List.range n).map (am_fv ad h c k)) := by
  unfold am_e
  rw [if_pos hk]
theorem am_P.one {D : va_G} {cy : Nat → ClassId} {ad : Nat → Nat → Nat} {h : am_H} {H : Heap} {c r k n w : Nat} (hP : am_P D cy ad h H) (ho : am_ok h c r k n w) {e : va_E} (he : am_e cy ad h c r k n w = e) : va_P D vwCl [(ad c r, e)] H := by
  intro i q hi
  have h0 : i < 1 := (List.getElem?_eq_some_iff.mp hi).1
  rw [show i = 0 by omega] at hi
  cases hi
  rw [← he]
  exact hP c r k n w ho
theorem am_get {X : am_X} {d : Nat} {mt : am_M} {pc : Nat} {L : List (Option am_V)} {st : List am_V} {h : am_H} {r : am_R} {idx c k n w f : Nat} {v : am_V} (hd : decode mt.2.1 pc = .ok (.getfield idx, 3)) (g : am_gd mt.1.cls idx k f) (hs : h.1[c]? = some (k, n, w)) (hn : f < n) (hv : ∀ ad, am_fv ad h c k f = am_cv ad v) (kk : am_At X d mt (pc + 3) L (v :: st) h r) : am_At X d mt pc L (.inr (c, 0) :: st) h r := by
  intro p l e R s m args below meth c_1 H locs cells slots mc ms ls D cy A ad Q hC hX hP hD hS hL h1 h2 z1 z2 hQ
  obtain ⟨⟨C, T, N⟩, ty, hcl, hf, hfl⟩ := g
  have hP1 := hP.one ⟨hs, Or.inl rfl⟩ (am_eo (am_k13 hcl))
  have hts := hC.2.2.2.2.2.2.2.2.2.1
  have hG := hC.2.2.2.2.2.2.2.2.2.2.1
  have hfs : ((List.range n).map (am_fv ad h c k))[f]? = some (am_cv ad v) := by rw [List.getElem?_map, List.getElem?_range hn, ← hv ad]; rfl
  have K := kk p l e R s m args below meth c_1 H locs cells slots mc ms ls D cy A ad Q hC hX hP hD hS hL h1 h2 z1 z2 hQ
  rcases hfl with hfl | ⟨host, hfl⟩
  · exact va_get (D := D) hC.1 hC.2.2.1 hts hcl.2.1 hC.2.2.2.2.1 hG.1 hP1 0 rfl hcl.1 f hf (hts _ hfl) (fun _ z => z) hfs hd K
  · exact va_getN (D := D) hC.1 hC.2.2.1 hts hcl.2.1 hC.2.2.2.2.1 hG.1 hP1 0 rfl hcl.1 f hf (va_Nw.use rfl (hG.2.1 _ hfl)) (fun _ z => z) hfs hd K
theorem am_getI {X : am_X} {d : Nat} {mt : am_M} {pc : Nat} {L : List (Option am_V)} {st : List am_V} {h : am_H} {r : am_R} {idx c : Nat} (k f : Nat) {n w : Nat} (hd : decode mt.2.1 pc = .ok (.getfield idx, 3)) (g : am_gd mt.1.cls idx k f) (hs : h.1[c]? = some (k, n, w)) (hn : f < n) (hr : am_rf k f = false) (kk : am_At X d mt (pc + 3) L (am_I (h.2.1 c 0 f) :: st) h r) : am_At X d mt pc L (.inr (c, 0) :: st) h r :=
  am_get hd g hs hn (fun ad => by unfold am_fv; rw [hr]; rfl) kk
theorem am_getR {X : am_X} {d : Nat} {mt : am_M} {pc : Nat} {L : List (Option am_V)} {st : List am_V} {h : am_H} {r : am_R} {idx c : Nat} (k f t : Nat) {n w : Nat} (hd : decode mt.2.1 pc = .ok (.getfield idx, 3)) (g : am_gd mt.1.cls idx k f) (hs : h.1[c]? = some (k, n, w)) (hn : f < n) (hr : am_rf k f = true) (ht : h.2.2 c f = some t) (kk : am_At X d mt (pc + 3) L (.inr (t, 0) :: st) h r) : am_At X d mt pc L (.inr (c, 0) :: st) h r :=
  am_get hd g hs hn (fun ad => by unfold am_fv; rw [hr, ht]; rfl) kk
/-- a field written: the machine's part -/
theorem am_put0 {p : Program} {l : Launch} {e : Env} {R : Room} {s : State} {m : MethodId} {args : Array Value} {below : List Frame} {meth : Method} {c0 : Code} {H : Heap} {locs : List Loc} {cells slots : Nat} {Q : State → Prop} {cc : ByteArray} {pc : Nat} {ls : Array Slot} {rest : List Value} {D : va_G} {a : Nat} {tys : List (ClassId × FieldType)} {own : String} {idx k f : Nat} {t : FieldType} {fs : List Value} {v : Value}
    (hexec : p.tables.exec = Jvm.exec) (hb : c0.code = cc) (hts : ∀ w ∈ am_ws, w.before args s = true) (hnw : ∀ w ∈ am_nw, va_Nw w s) (hown : s.vm.findClass own = some m.cls) (hK : va_K D vwCl tys s) {fin : Bool} (hin : fin = true → meth.name = "<init>") (g : am_pd own idx k f t fin)
    (hat : va_at D vwCl (a, .inr (k, fs)) H) (hl : f < fs.length) (hn : narrow t v = v) (hfit : fits t v = true) (hdg : decode cc pc = .ok (.putfield idx, 3))
    (kk : ∀ (H1 : Heap) (j : Nat), va_at D vwCl (a, .inr (k, fs.set f v)) H1 → H1.size = H.size → (∀ q, q ≠ a → H1[q]? = H[q]?) → W p l e R s m args below meth c0 H1 (locs ++ [⟨a, j⟩]) cells slots Q (F0 m (pc + 3) ls rest)) : W p l e R s m args below meth c0 H locs cells slots Q (F0 m pc ls (v :: .ref a :: rest)) := by
  obtain ⟨⟨C, T, N⟩, ty, ⟨hc, hws, hty, hnm⟩, hk, hfl, htt, hfin, hdecl⟩ := g
  have hap := va_apart (own := own) hts hws ty hty hnm hK hc
  obtain ⟨r, h1, cell, q1, q2, q3, q4⟩ := hat
  have hr : r = (C, T, N) := Option.some.inj (h1.symm.trans hc)
  subst hr
  obtain ⟨hS, hfc, kC, hkC, hkind⟩ := hK.1 k _ hc
  obtain ⟨cf, kf, fi, fd, hi, hsl⟩ := hS f hk
  have hlay := hts _ (hws _ (u_in_lay hk))
  unfold u_lay at hlay
  have hst := (u_facts hfc hkC (u_lays hts hws hk) hi).1
  have hd2 : parseFieldDescriptor (T f).2.2.1 = some t := by rw [← htt]; exact hty f hk
  have fin1 : ∀ H' : Heap, H'[a]? = some (cell.setSlot fd.slot v) → va_at D vwCl (a, .inr (k, fs.set f v)) H' := fun H' e1 => by
    rw [hsl] at e1
    exact ⟨_, hc, t_OB.to (V := updV (vp_V fs) f v) ⟨_, e1, q2, q3, t_set q4 hap hk v⟩ (fun j _ => vp_updV_set hl v j)⟩
  cases fin with
  | false =>
    rw [if_neg (by rw [hfin]; decide)] at hlay
    have h6 := u_store hfc hkC hkind hlay hi hd2 hn hfit
    rcases hfl with hfl | ⟨host, hfl⟩
    · exact W.putK hexec hb (f := fd) ⟨hown, hts _ hfl, ⟨_, _, _, hi⟩, hst⟩ (by rw [q2]; exact h6) q1 q3 (by rw [hsl]; exact k2_hasslot (q4 f hk)) rfl rfl hdg fun H' e1 e2 e3 => kk H' _ (fin1 H' e1) e2 e3
    · exact va_WputK hexec hb (f := fd) hown (va_Nw.use rfl (hnw _ hfl)) hi hst (by rw [q2]; exact h6) q1 q3 (by rw [hsl]; exact k2_hasslot (q4 f hk)) rfl rfl hdg fun H' e1 e2 e3 => kk H' _ (fin1 H' e1) e2 e3
  | true =>
    rw [if_pos hfin] at hlay
    have hcf : m.cls = cf := by
      obtain ⟨_, _, c', _, _, _, -, -, hf', -, -, -, hown2, -⟩ := Cond.laysFinal_spec hlay
      have e1 : c' = cf := by have := hi.symm.trans hf'; simp at this; exact this.1.symm
      have e2 : (T f).1 = own := (hdecl rfl).1
      rw [e2] at hown2
      rw [← e1]; exact Option.some.inj (hown.symm.trans hown2)
    have h6 := u_fits hfc hkC hkind (Or.inr hlay) hi hd2 hn hfit
    exact W.putFinK hexec hb hown (hts _ (hdecl rfl).2) hi hst hcf (hin rfl) (by rw [q2]; exact h6) q1 q3 (by rw [hsl]; exact k2_hasslot (q4 f hk)) rfl rfl hdg fun H' e1 e2 e3 => kk H' _ (fin1 H' e1) e2 e3
theorem am_fs_set {ad : Nat → Nat → Nat} {h h' : am_H} {c k n f : Nat} {v : Value} (hf : f < n) (hv : am_fv ad h' c k f = v) (ho : ∀ f', f' ≠ f → am_fv ad h' c k f' = am_fv ad h c k f') : ((List.range n).map (am_fv ad h c k)).set f v = (List.range n).map (am_fv ad h' c k) := by
  apply List.ext_getElem?
  intro j
  by_cases hj : j = f
  · subst hj
    rw [List.getElem?_set_self (by simpa using hf), List.getElem?_map, List.getElem?_range hf, ← hv]
    rfl
  · rw [List.getElem?_set_ne (Ne.symm hj), List.getElem?_map, List.getElem?_map]
    by_cases hn : j < n
    · rw [List.getElem?_range hn]
      exact congrArg some (ho j hj).symm
    · rw [List.getElem?_eq_none (by simpa using hn)]
      rfl
theorem am_putI {X : am_X} {d : Nat} {mt : am_M} {pc : Nat} {L : List (Option am_V)} {st : List am_V} {h : am_H} {r : am_R} {idx c : Nat} (k f : Nat) {n w : Nat} {t : FieldType} {x : Int32} (hd : decode mt.2.1 pc = .ok (.putfield idx, 3)) (g : am_pd mt.1.cls idx k f t false ∨ (am_pd mt.1.cls idx k f t true ∧ mt.1.name = "<init>")) (hs : h.1[c]? = some (k, n, w)) (hn : f < n) (hr : am_rf k f = false) (ht : narrow t (.int x) = .int x) (hft : fits t (.int x) = true) (kk : am_At X d mt (pc + 3) L st (am_um h c 0 f x) r) : am_At X d mt pc L (am_I x :: .inr (c, 0) :: st) h r := by
  intro p l e R s m args below meth c_1 H locs cells slots mc ms ls D cy A ad Q hC hX hP hD hS hL h1 h2 z1 z2 hQ
  have hts := hC.2.2.2.2.2.2.2.2.2.1
  have hG := hC.2.2.2.2.2.2.2.2.2.2.1
  have hnm := hC.2.2.2.2.2.2.2.1
  have ho : am_ok h c 0 k n w := ⟨hs, Or.inl rfl⟩
  have hk : k < 13 := by rcases g with ⟨_, _, g, -⟩ | ⟨⟨_, _, g, -⟩, -⟩ <;> exact am_k13 g
  have hat := hP c 0 k n w ho
  rw [am_eo hk] at hat
  have fin : ∀ (H1 : Heap) (j : Nat), va_at D vwCl (ad c 0, .inr (k, ((List.range n).map (am_fv ad h c k)).set f (.int x))) H1 → H1.size = H.size → (∀ q, q ≠ ad c 0 → H1[q]? = H[q]?) → W p l e R s m args below meth c_1 H1 (locs ++ [⟨ad c 0, j⟩]) cells slots Q (F0 m (pc + 3) ls (st.map (am_cv ad))) := by
    intro H1 j e1 e2 e3
    rw [am_fs_set (h' := am_um h c 0 f x) hn (by unfold am_fv am_um am_u3; rw [hr]; simp) (fun f' hf' => by unfold am_fv am_um am_u3; simp [hf'])] at e1
    refine kk p l e R s m args below meth c_1 H1 _ cells slots mc ms ls D cy A ad Q hC hX (hP.set hD ho rfl (fun c' r' k' n' w' a b => am_e.um a b) (by rw [am_eo hk]; exact e1) e3) (hD.sh rfl) (hS.put e2 e3 (hD.2 c 0 k n w ho)) hL h1 h2 z1 z2 hQ
  rcases g with g | ⟨g, gi⟩
  · exact am_put0 (fin := false) hC.1 hC.2.2.1 hts hG.2.1 hC.2.2.2.2.1 hG.1 (fun z => by cases z) g hat (by simpa using hn) ht hft hd fin
  · exact am_put0 (fin := true) hC.1 hC.2.2.1 hts hG.2.1 hC.2.2.2.2.1 hG.1 (fun _ => by rw [hnm]; exact gi) g hat (by simpa using hn) ht hft hd fin
