/-! HEAPS WHILE THE THINGS COME TO BE: the first n shapes, the references put so far, the numbers -/
def rfR (R : List (Nat × Nat × Nat)) (c f : Nat) : Option Nat := (R.find? (fun q => q.1 == c && q.2.1 == f)).map (fun q => q.2.2)
def HB (n : Nat) (R : List (Nat × Nat × Nat)) (M : Mem) : am_H := (am_SH.take n, M, rfR R)
def am_Z (n : Nat) (M : Mem) : Prop := ∀ c r f, n ≤ c → M c r f = 0
def am_Xst (X : am_X) : Prop := ∀ ad ad1 A s, (∀ c r, 1000 ≤ c → ad1 c r = ad c r) → X ad A s → X ad1 A s
theorem am_Xst.z : am_Xst am_X0 := fun _ _ _ _ _ _ => trivial
def bvn (n : Nat) (v : am_V) : Bool := match v with
  | .inl _ => true
  | .inr q => q.1 != n
def bvl (n : Nat) (v : am_V) : Bool := match v with
  | .inl _ => true
  | .inr q => Nat.ble (q.1 + 1) n || Nat.ble 1000 q.1
def bL (p : am_V → Bool) (L : List (Option am_V)) : Bool := L.all (fun v => match v with
  | none => true
  | some v => p v)
def bR (n : Nat) (R : List (Nat × Nat × Nat)) : Bool := R.all (fun q => q.1 != n && q.2.2 != n)
theorem bL.o {n : Nat} {L : List (Option am_V)} (h : bL (bvn n) L = true) : ∀ v, some v ∈ L → am_old n v := by
  intro v hv
  have h1 := List.all_eq_true.mp h (some v) hv
  cases v with
  | inl v => trivial
  | inr q =>
    have h2 : (q.1 != n) = true := h1
    simpa [am_old] using h2
theorem bL.os {n : Nat} {L : List am_V} (h : L.all (bvn n) = true) : ∀ v, v ∈ L → am_old n v := by
  intro v hv
  have h1 := List.all_eq_true.mp h v hv
  cases v with
  | inl v => trivial
  | inr q =>
    have h2 : (q.1 != n) = true := h1
    simpa [am_old] using h2
theorem bvl.o {h : am_H} {n : Nat} {v : am_V} (hn : h.1.length = n) (h1 : bvl n v = true) : am_inh h v := by
  cases v with
  | inl v => trivial
  | inr q =>
    have h2 : (Nat.ble (q.1 + 1) n || Nat.ble 1000 q.1) = true := h1
    rw [Bool.or_eq_true, Nat.ble_eq, Nat.ble_eq] at h2
    show q.1 < h.1.length ∨ 1000 ≤ q.1
    omega
theorem bL.l {h : am_H} {n : Nat} {L : List (Option am_V)} (hn : h.1.length = n) (hb : bL (bvl n) L = true) : ∀ v, some v ∈ L → am_inh h v := fun v hv => bvl.o hn (List.all_eq_true.mp hb (some v) hv)
theorem bL.ls {h : am_H} {n : Nat} {L : List am_V} (hn : h.1.length = n) (hb : L.all (bvl n) = true) : ∀ v, v ∈ L → am_inh h v := fun v hv => bvl.o hn (List.all_eq_true.mp hb v hv)
theorem am_SHl : am_SH.length = 83 := rfl
theorem HB.len {n : Nat} {R : List (Nat × Nat × Nat)} {M : Mem} (hn : n ≤ 83) : (HB n R M).1.length = n := by
  show (am_SH.take n).length = n
  rw [List.length_take, am_SHl]
  omega
theorem bR.t {n : Nat} {R : List (Nat × Nat × Nat)} (h : bR n R = true) (c f : Nat) : rfR R c f ≠ some n := by
  intro e
  unfold rfR at e
  cases hq : R.find? (fun q => q.1 == c && q.2.1 == f) with
  | none => rw [hq] at e; cases e
  | some q =>
    rw [hq] at e
    have e1 : q.2.2 = n := Option.some.inj e
    have h1 := List.all_eq_true.mp h q (List.mem_of_find?_eq_some hq)
    rw [Bool.and_eq_true] at h1
    have h2 := h1.2
    rw [e1] at h2
    simp at h2
theorem bR.s {n : Nat} {R : List (Nat × Nat × Nat)} (h : bR n R = true) (f : Nat) : rfR R n f = none := by
  unfold rfR
  cases hq : R.find? (fun q => q.1 == n && q.2.1 == f) with
  | none => rfl
  | some q =>
    have h1 := List.all_eq_true.mp h q (List.mem_of_find?_eq_some hq)
    have h2 := List.find?_some hq
    rw [Bool.and_eq_true] at h1 h2
    have h3 : q.1 = n := by simpa using h2.1
    have h4 := h1.1
    rw [h3] at h4
    simp at h4
theorem HB.hN {n : Nat} {R : List (Nat × Nat × Nat)} {M : Mem} {q : Nat × Nat × Nat} (hq : am_SH[n]? = some q) : am_hN (HB n R M) q = HB (n + 1) R M := by
  unfold am_hN HB
  rw [List.take_add_one, hq]
  rfl
theorem HB.ur {n : Nat} {R : List (Nat × Nat × Nat)} {M : Mem} (c f t : Nat) : am_ur (HB n R M) c f (some t) = HB n ((c, f, t) :: R) M := by
  unfold am_ur HB
  refine congrArg (fun z => (am_SH.take n, M, z)) ?_
  funext c' f'
  unfold rfR
  rw [List.find?_cons]
  by_cases h : c' = c ∧ f' = f
  · obtain ⟨rfl, rfl⟩ := h
    simp
  · rw [if_neg h]
    have : ((c, f, t).1 == c' && (c, f, t).2.1 == f') = false := by
      rw [Bool.eq_false_iff]
      intro e
      rw [Bool.and_eq_true] at e
      have e1 : c = c' := by simpa using e.1
      have e2 : f = f' := by simpa using e.2
      exact h ⟨e1.symm, e2.symm⟩
    rw [this]
def ncS (n : Nat) : Nat := ((am_SH.take n).map am_c1).sum
def nsS (n : Nat) : Nat := ((am_SH.take n).map am_s1).sum
theorem SH_split {n m : Nat} (h : n ≤ m) : am_SH.take m = am_SH.take n ++ (am_SH.take m).drop n := by
  have e := List.take_append_drop n (am_SH.take m)
  rw [List.take_take, Nat.min_eq_left h] at e
  exact e.symm
theorem ncS.le {n m : Nat} (h : n ≤ m) : ncS n ≤ ncS m := by
  unfold ncS
  rw [SH_split h, List.map_append, List.sum_append]
  exact Nat.le_add_right _ _
theorem nsS.le {n m : Nat} (h : n ≤ m) : nsS n ≤ nsS m := by
  unfold nsS
  rw [SH_split h, List.map_append, List.sum_append]
  exact Nat.le_add_right _ _
theorem ncS.s {n : Nat} {q : Nat × Nat × Nat} (hq : am_SH[n]? = some q) : ncS (n + 1) = ncS n + am_c1 q := by
  unfold ncS
  rw [List.take_add_one, hq, List.map_append, List.sum_append]
  simp
theorem nsS.s {n : Nat} {q : Nat × Nat × Nat} (hq : am_SH[n]? = some q) : nsS (n + 1) = nsS n + am_s1 q := by
  unfold nsS
  rw [List.take_add_one, hq, List.map_append, List.sum_append]
  simp
/-- room is left, as the end has cells up to N -/
def am_rm (N : Nat) (r : am_R) : Prop := ncS N ≤ am_rc r ∧ nsS N ≤ am_rs r
theorem am_rm.mk {N : Nat} {R : List (Nat × Nat × Nat)} {M : Mem} {v : Option am_V} : am_rm N (.inl (v, HB N R M)) := ⟨Nat.le_refl _, Nat.le_refl _⟩
theorem am_Z.u {n : Nat} {M : Mem} {c r f : Nat} {v : Int32} (h : am_Z n M) (hc : Nat.ble (c + 1) n = true) : am_Z n (am_u3 M c r f v) := by
  intro c' r' f' h'
  have hc := Nat.le_of_ble_eq_true hc
  unfold am_u3
  rw [if_neg (fun z => by omega)]
  exact h c' r' f' h'
theorem am_Z.m {n m : Nat} {M : Mem} (h : am_Z n M) (hc : Nat.ble n m = true) : am_Z m M := fun c r f h' => h c r f (Nat.le_trans (Nat.le_of_ble_eq_true hc) h')
section
variable {X : am_X} {d : Nat} {mt : am_M} {pc : Nat} {L : List (Option am_V)} {st : List am_V} {r : am_R} {n N : Nat} {R : List (Nat × Nat × Nat)} {M : Mem}
theorem hb_new {idx : Nat} (k l : Nat) (hX : am_Xst X) (hr : am_rm N r) (hZ : am_Z n M) (hd : decode mt.2.1 pc = .ok (.new idx, 3)) (g : am_nd mt.1.cls idx k l) (hk : k ≠ 103) (hq : am_SH[n]? = some (k, l, 0)) (hb : (Nat.ble (n + 1) N && Nat.ble N 83 && bR n R && bL (bvn n) L && st.all (bvn n)) = true) (kk : am_At X d mt (pc + 3) L (.inr (n, 0) :: st) (HB (n + 1) R M) r) : am_At X d mt pc L st (HB n R M) r := by
  simp only [Bool.and_eq_true, Nat.ble_eq] at hb
  obtain ⟨⟨⟨⟨b1, b2⟩, b3⟩, b4⟩, b5⟩ := hb
  have hl : (HB n R M).1.length = n := HB.len (by omega)
  have c1 := ncS.s hq
  have c2 := nsS.s hq
  have c3 := ncS.le b1
  have c4 := nsS.le b1
  have c5 : am_c1 (k, l, 0) = 1 := by simp [am_c1, hk]
  have c6 : am_s1 (k, l, 0) = l := by simp [am_s1, hk]
  refine am_new k l hd g ?_ ?_ ?_ ?_ ?_ ?_ ?_ ?_ ?_ ?_
  · rw [hl]; exact fun f => hZ n 0 f (Nat.le_refl _)
  · rw [hl]; exact fun f => bR.s b3 f
  · omega
  · rw [hl]; exact fun c f => bR.t b3 c f
  · intro ad A s a hx
    exact hX _ _ _ _ (fun c r hc => am_ad.o (by omega)) hx
  · rw [hl]; exact bL.o b4
  · rw [hl]; exact bL.os b5
  · show ncS n + 1 ≤ _
    exact Nat.le_trans (by omega) hr.1
  · show nsS n + l ≤ _
    exact Nat.le_trans (by omega) hr.2
  · rw [hl, HB.hN hq]
    exact kk
theorem hb_newi {x : Int32} (l : Nat) (hX : am_Xst X) (hr : am_rm N r) (hZ : am_Z n M) (hd : decode mt.2.1 pc = .ok (.newarray .int, 2)) (hx : (decide (0 ≤ x) && x.toNatClampNeg == l && Nat.ble l 10000) = true) (harr : Cond.arrayClass .int ∈ am_ws) (hq : am_SH[n]? = some (100, l, 0)) (hb : (Nat.ble (n + 1) N && Nat.ble N 83 && bR n R && bL (bvn n) L && st.all (bvn n)) = true) (kk : am_At X d mt (pc + 2) L (.inr (n, 0) :: st) (HB (n + 1) R M) r) : am_At X d mt pc L (am_I x :: st) (HB n R M) r := by
  simp only [Bool.and_eq_true, Nat.ble_eq, decide_eq_true_eq, beq_iff_eq] at hb hx
  obtain ⟨⟨⟨⟨b1, b2⟩, b3⟩, b4⟩, b5⟩ := hb
  have hl : (HB n R M).1.length = n := HB.len (by omega)
  have c1 := ncS.s hq
  have c2 := nsS.s hq
  have c3 := ncS.le b1
  have c4 := nsS.le b1
  have c5 : am_c1 (100, l, 0) = 1 := rfl
  have c6 : am_s1 (100, l, 0) = l := rfl
  refine am_newi l hd ?_ hx.1.2 ?_ harr ?_ ?_ ?_ ?_ ?_ ?_ ?_ ?_ ?_
  · have := hx.1.1
    simpa using this
  · have : componentBytes .int = 4 := rfl
    rw [this]
    have := hx.2
    omega
  · rw [hl]; exact fun f => hZ n 0 f (Nat.le_refl _)
  · omega
  · rw [hl]; exact fun c f => bR.t b3 c f
  · intro ad A s a hx
    exact hX _ _ _ _ (fun c r hc => am_ad.o (by omega)) hx
  · rw [hl]; exact bL.o b4
  · rw [hl]; exact bL.os b5
  · show ncS n + 1 ≤ _
    exact Nat.le_trans (by omega) hr.1
  · show nsS n + l ≤ _
    exact Nat.le_trans (by omega) hr.2
  · rw [hl, HB.hN hq]
    exact kk
theorem hb_newb {x : Int32} (l : Nat) (hX : am_Xst X) (hr : am_rm N r) (hZ : am_Z n M) (hd : decode mt.2.1 pc = .ok (.newarray .byte, 2)) (hx : (decide (0 ≤ x) && x.toNatClampNeg == l && Nat.ble l 10000) = true) (harr : Cond.arrayClass .byte ∈ am_ws) (hq : am_SH[n]? = some (101, l, 0)) (hb : (Nat.ble (n + 1) N && Nat.ble N 83 && bR n R && bL (bvn n) L && st.all (bvn n)) = true) (kk : am_At X d mt (pc + 2) L (.inr (n, 0) :: st) (HB (n + 1) R M) r) : am_At X d mt pc L (am_I x :: st) (HB n R M) r := by
  simp only [Bool.and_eq_true, Nat.ble_eq, decide_eq_true_eq, beq_iff_eq] at hb hx
  obtain ⟨⟨⟨⟨b1, b2⟩, b3⟩, b4⟩, b5⟩ := hb
  have hl : (HB n R M).1.length = n := HB.len (by omega)
  have c1 := ncS.s hq
  have c2 := nsS.s hq
  have c3 := ncS.le b1
  have c4 := nsS.le b1
  have c5 : am_c1 (101, l, 0) = 1 := rfl
  have c6 : am_s1 (101, l, 0) = l := rfl
  refine am_newb l hd ?_ hx.1.2 ?_ harr ?_ ?_ ?_ ?_ ?_ ?_ ?_ ?_ ?_
  · have := hx.1.1
    simpa using this
  · have : componentBytes .byte = 1 := rfl
    rw [this]
    have := hx.2
    omega
  · rw [hl]; exact fun f => hZ n 0 f (Nat.le_refl _)
  · omega
  · rw [hl]; exact fun c f => bR.t b3 c f
  · intro ad A s a hx
    exact hX _ _ _ _ (fun c r hc => am_ad.o (by omega)) hx
  · rw [hl]; exact bL.o b4
  · rw [hl]; exact bL.os b5
  · show ncS n + 1 ≤ _
    exact Nat.le_trans (by omega) hr.1
  · show nsS n + l ≤ _
    exact Nat.le_trans (by omega) hr.2
  · rw [hl, HB.hN hq]
    exact kk
theorem hb_newl {x : Int32} (l : Nat) (hX : am_Xst X) (hr : am_rm N r) (hZ : am_Z n M) (hd : decode mt.2.1 pc = .ok (.newarray .long, 2)) (hx : (decide (0 ≤ x) && x.toNatClampNeg == l && Nat.ble l 10000) = true) (harr : Cond.arrayClass .long ∈ am_ws) (hq : am_SH[n]? = some (102, l, 0)) (hb : (Nat.ble (n + 1) N && Nat.ble N 83 && bR n R && bL (bvn n) L && st.all (bvn n)) = true) (kk : am_At X d mt (pc + 2) L (.inr (n, 0) :: st) (HB (n + 1) R M) r) : am_At X d mt pc L (am_I x :: st) (HB n R M) r := by
  simp only [Bool.and_eq_true, Nat.ble_eq, decide_eq_true_eq, beq_iff_eq] at hb hx
  obtain ⟨⟨⟨⟨b1, b2⟩, b3⟩, b4⟩, b5⟩ := hb
  have hl : (HB n R M).1.length = n := HB.len (by omega)
  have c1 := ncS.s hq
  have c2 := nsS.s hq
  have c3 := ncS.le b1
  have c4 := nsS.le b1
  have c5 : am_c1 (102, l, 0) = 1 := rfl
  have c6 : am_s1 (102, l, 0) = l := rfl
  refine am_newl l hd ?_ hx.1.2 ?_ harr ?_ ?_ ?_ ?_ ?_ ?_ ?_ ?_ ?_
  · have := hx.1.1
    simpa using this
  · have : componentBytes .long = 8 := rfl
    rw [this]
    have := hx.2
    omega
  · rw [hl]; exact fun f => bR.s b3 f
  · omega
  · rw [hl]; exact fun c f => bR.t b3 c f
  · intro ad A s a hx
    exact hX _ _ _ _ (fun c r hc => am_ad.o (by omega)) hx
  · rw [hl]; exact bL.o b4
  · rw [hl]; exact bL.os b5
  · show ncS n + 1 ≤ _
    exact Nat.le_trans (by omega) hr.1
  · show nsS n + l ≤ _
    exact Nat.le_trans (by omega) hr.2
  · rw [hl, HB.hN hq]
    exact kk
theorem hb_newg {idx : Nat} {x y : Int32} (l w : Nat) (hX : am_Xst X) (hr : am_rm N r) (hZ : am_Z n M) (hd : decode mt.2.1 pc = .ok (.multianewarray idx 2, 4)) (hx : (decide (0 ≤ x) && x.toNatClampNeg == l && Nat.ble l 10000 && (decide (0 ≤ y) && y.toNatClampNeg == w && Nat.ble w 10000)) = true) (hcl : Cond.classLink mt.1.cls idx ("[" ++ (FieldType.array .int).toString) ∈ am_ws) (hov : Cond.arrayOver (.array .int) ∈ am_nw) (harr : Cond.arrayClass .int ∈ am_ws) (hq : am_SH[n]? = some (103, l, w)) (hb : (Nat.ble (n + 1) N && Nat.ble N 83 && bR n R && bL (bvn n) L && st.all (bvn n)) = true) (kk : am_At X d mt (pc + 4) L (.inr (n, 0) :: st) (HB (n + 1) R M) r) : am_At X d mt pc L (am_I y :: am_I x :: st) (HB n R M) r := by
  simp only [Bool.and_eq_true, Nat.ble_eq, decide_eq_true_eq, beq_iff_eq] at hb hx
  obtain ⟨⟨⟨⟨b1, b2⟩, b3⟩, b4⟩, b5⟩ := hb
  have hl : (HB n R M).1.length = n := HB.len (by omega)
  have c1 := ncS.s hq
  have c2 := nsS.s hq
  have c3 := ncS.le b1
  have c4 := nsS.le b1
  have c5 : am_c1 (103, l, w) = 1 + l := rfl
  have c6 : am_s1 (103, l, w) = l + l * w := rfl
  refine am_newg l w hd ?_ hx.1.1.2 ?_ hx.2.1.2 ?_ ?_ ?_ hcl hov harr ?_ ?_ ?_ ?_ ?_ ?_ ?_ ?_ ?_
  · have := hx.1.1.1
    simpa using this
  · have := hx.2.1.1
    simpa using this
  · have := hx.1.2
    omega
  · have : componentBytes .int = 4 := rfl
    rw [this]
    have := hx.2.2
    omega
  · have := hx.2.2
    omega
  · rw [hl]; exact fun r f => hZ n r f (Nat.le_refl _)
  · omega
  · rw [hl]; exact fun c f => bR.t b3 c f
  · intro ad A s a hx
    exact hX _ _ _ _ (fun c r hc => am_adg.o (by omega)) hx
  · rw [hl]; exact bL.o b4
  · rw [hl]; exact bL.os b5
  · show ncS n + (1 + l) ≤ _
    exact Nat.le_trans (by omega) hr.1
  · show nsS n + (l + l * w) ≤ _
    exact Nat.le_trans (by omega) hr.2
  · rw [hl, HB.hN hq]
    exact kk
theorem hb_putR {idx c : Nat} (k f : Nat) {l w : Nat} {ft : FieldType} {t : Nat} (R' : List (Nat × Nat × Nat)) (hd : decode mt.2.1 pc = .ok (.putfield idx, 3)) (g : am_pd mt.1.cls idx k f ft false ∨ (am_pd mt.1.cls idx k f ft true ∧ mt.1.name = "<init>")) (hs : (am_SH.take n)[c]? = some (k, l, w)) (hn : f < l) (hr : am_rf k f = true) (ht : ∀ a, narrow ft (.ref a) = .ref a) (hft : ∀ a, fits ft (.ref a) = true) (hR : R' = (c, f, t) :: R) (kk : am_At X d mt (pc + 3) L st (HB n R' M) r) : am_At X d mt pc L (.inr (t, 0) :: .inr (c, 0) :: st) (HB n R M) r := by
  refine am_putR (h := HB n R M) k f hd g hs hn hr ht hft ?_
  rw [HB.ur, ← hR]
  exact kk
theorem hb_getR {idx c : Nat} (k f t : Nat) {l w : Nat} (hd : decode mt.2.1 pc = .ok (.getfield idx, 3)) (g : am_gd mt.1.cls idx k f) (hs : (am_SH.take n)[c]? = some (k, l, w)) (hn : f < l) (hr : am_rf k f = true) (ht : rfR R c f = some t) (kk : am_At X d mt (pc + 3) L (.inr (t, 0) :: st) (HB n R M) r) : am_At X d mt pc L (.inr (c, 0) :: st) (HB n R M) r :=
  am_getR (h := HB n R M) k f t hd g hs hn hr ht kk
theorem hb_callI {idx c nA d1 n1 : Nat} {y : am_M} (as : List am_V) {stk : List am_V} {R1 : List (Nat × Nat × Nat)} {M1 : Mem} (hX : am_Xst X) (hr : am_rm N r) (hd : decode mt.2.1 pc = .ok (.invokespecial idx, 3)) (hl : Cond.methodLink mt.1.cls idx y.1 ∈ am_ws) (g : am_im y nA) (hret : y.2.2.2 = none) (hn : as.length = nA) (hst : ∀ ad, ((st.map (am_cv ad)).map fun v => v.category).sum ≤ 8) (hd1 : d1 + 1 ≤ d) (hk : stk = as.reverse ++ .inr (c, 0) :: st) (E : am_Ev d1 y (.inr (c, 0) :: as) (HB n R M) (.inl (none, HB n1 R1 M1))) (hb : (Nat.ble n n1 && Nat.ble n1 N && Nat.ble N 83 && bL (bvl n) L && st.all (bvl n)) = true) (kk : am_At X d mt (pc + 3) L st (HB n1 R1 M1) r) : am_At X d mt pc L stk (HB n R M) r := by
  simp only [Bool.and_eq_true, Nat.ble_eq] at hb
  obtain ⟨⟨⟨⟨b0, b1⟩, b2⟩, b4⟩, b5⟩ := hb
  have hl1 : (HB n R M).1.length = n := HB.len (by omega)
  refine am_callI as hd hl g.1 g.2.1 g.2.2 hret hn hst hd1 hk E ?_ (bL.l hl1 b4) (bL.ls hl1 b5) (ncS.le b0) (nsS.le b0) (Nat.le_trans (ncS.le b1) hr.1) (Nat.le_trans (nsS.le b1) hr.2) kk
  intro ad ad1 A s ha hx
  exact hX _ _ _ _ (fun c r hc => ha.2.2 c r (Or.inr hc)) hx
theorem hb_callIN {idx c nA d1 n1 : Nat} {y : am_M} {host : String} (as : List am_V) {stk : List am_V} {R1 : List (Nat × Nat × Nat)} {M1 : Mem} (hX : am_Xst X) (hr : am_rm N r) (hd : decode mt.2.1 pc = .ok (.invokespecial idx, 3)) (hl : Cond.methodLinkNest mt.1.cls idx y.1 host ∈ am_nw) (g : am_im y nA) (hret : y.2.2.2 = none) (hn : as.length = nA) (hst : ∀ ad, ((st.map (am_cv ad)).map fun v => v.category).sum ≤ 8) (hd1 : d1 + 1 ≤ d) (hk : stk = as.reverse ++ .inr (c, 0) :: st) (E : am_Ev d1 y (.inr (c, 0) :: as) (HB n R M) (.inl (none, HB n1 R1 M1))) (hb : (Nat.ble n n1 && Nat.ble n1 N && Nat.ble N 83 && bL (bvl n) L && st.all (bvl n)) = true) (kk : am_At X d mt (pc + 3) L st (HB n1 R1 M1) r) : am_At X d mt pc L stk (HB n R M) r := by
  simp only [Bool.and_eq_true, Nat.ble_eq] at hb
  obtain ⟨⟨⟨⟨b0, b1⟩, b2⟩, b4⟩, b5⟩ := hb
  have hl1 : (HB n R M).1.length = n := HB.len (by omega)
  refine am_callIN as hd hl g.1 g.2.1 g.2.2 hret hn hst hd1 hk E ?_ (bL.l hl1 b4) (bL.ls hl1 b5) (ncS.le b0) (nsS.le b0) (Nat.le_trans (ncS.le b1) hr.1) (Nat.le_trans (nsS.le b1) hr.2) kk
  intro ad ad1 A s ha hx
  exact hX _ _ _ _ (fun c r hc => ha.2.2 c r (Or.inr hc)) hx
theorem hb_callV {idx c k l w nA d1 : Nat} {y : am_M} (as : List am_V) {stk : List am_V} {R1 : List (Nat × Nat × Nat)} {M1 : Mem} (hd : decode mt.2.1 pc = .ok (.invokevirtual idx, 3)) (hl : Cond.methodLink mt.1.cls idx y.1 ∈ am_ws) (g : am_vm y k nA) (hs : (am_SH.take n)[c]? = some (k, l, w)) (hn : as.length = nA) (hst : ∀ ad, ((st.map (am_cv ad)).map fun v => v.category).sum ≤ 8) (hd1 : d1 + 1 ≤ d) (hk : stk = as.reverse ++ .inr (c, 0) :: st) (E : am_Ev d1 y (.inr (c, 0) :: as) (HB n R M) (.inl (none, HB n R1 M1))) (kk : am_At X d mt (pc + 3) L st (HB n R1 M1) r) : am_At X d mt pc L stk (HB n R M) r :=
  am_callV (h := HB n R M) as hd hl g hs hn hst hd1 hk E rfl kk
end
