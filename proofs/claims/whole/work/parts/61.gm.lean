/-! THE STEPS FOR THE LAW'S OWN METHODS: with an exception table tb, an end Po told freely, and room r (cells, slots) -/
abbrev am_Po : Type := va_G → (Nat → ClassId) → (Nat → Prop) → (Nat → Nat → Nat) → Array Value → State → Outcome → State → Prop
abbrev am_Tb : Type := List (Nat × Nat × Nat × Nat)
def am_CxG (tb : am_Tb) (d : Nat) (mt : am_M) (p : Program) (l : Launch) (R : Room) (s : State) (m : MethodId) (args : Array Value) (meth : Method) (c : Code) (D : va_G) (cy : Nat → ClassId) (ad : Nat → Nat → Nat) (A : Nat → Prop) (mc ms : Nat) : Prop :=
  p.tables.exec = Jvm.exec ∧ l.stackTraces = false ∧ c.code = mt.2.1 ∧ c.maxLocals = mt.2.2.1 ∧ s.vm.findClass mt.1.cls = some m.cls ∧ meth.sig.returnType = mt.2.2.2 ∧ meth.locks = false ∧ meth.name = mt.1.name ∧
  c.exceptionTable.toList.map (fun h => (h.startPc, h.endPc, h.handlerPc, h.catchType)) = tb ∧ (∀ w ∈ am_ws, w.before args s = true) ∧ am_G D cy ad A s ∧ (∀ q, s.heap.size ≤ q → A q) ∧ R.cells = mc ∧ R.slots = ms ∧ d + 8 ≤ R.frames ∧ 64 * d + 256 ≤ R.locals
def am_AtG (tb : am_Tb) (Po : am_Po) (X : am_X) (d : Nat) (mt : am_M) (pc : Nat) (L : List (Option am_V)) (st : List am_V) (h : am_H) (r : Nat × Nat) : Prop :=
  ∀ (p : Program) (l : Launch) (e : Env) (R : Room) (s : State) (m : MethodId) (args : Array Value) (below : List Frame) (meth : Method) (c : Code) (H : Heap) (locs : List Loc) (cells slots mc ms : Nat) (ls : Array Slot) (D : va_G) (cy : Nat → ClassId) (A : Nat → Prop) (ad : Nat → Nat → Nat) (Q : State → Prop),
    am_CxG tb d mt p l R s m args meth c D cy ad A mc ms → X ad A s → am_P D cy ad h H → am_D A ad h → va_S A s.heap H locs → am_L ad ls mt.2.2.1 L →
    cells + r.1 ≤ mc + am_nc h → slots + r.2 ≤ ms + am_ns h → am_nc h ≤ r.1 → am_ns h ≤ r.2 →
    (∀ t, MQ below (Po D cy A ad) args s mc ms A t → Q t) →
    W p l e R s m args below meth c H locs cells slots Q (F0 m pc ls (st.map (am_cv ad)))
/-- less room will do -/
theorem am_AtG.less {tb : am_Tb} {Po : am_Po} {X : am_X} {d : Nat} {mt : am_M} {pc : Nat} {L : List (Option am_V)} {st : List am_V} {h : am_H} {r r' : Nat × Nat} (h1 : r'.1 ≤ r.1) (h2 : r'.2 ≤ r.2) (h3 : am_nc h ≤ r'.1) (h4 : am_ns h ≤ r'.2) (k : am_AtG tb Po X d mt pc L st h r') : am_AtG tb Po X d mt pc L st h r := by
  intro p l e R s m args below meth c H locs cells slots mc ms ls D cy A ad Q hC hX hP hD hS hL g1 g2 z1 z2 hQ
  exact k p l e R s m args below meth c H locs cells slots mc ms ls D cy A ad Q hC hX hP hD hS hL (by omega) (by omega) h3 h4 hQ
theorem gm_iadd {tb : am_Tb} {Po : am_Po} {X : am_X} {d : Nat} {mt : am_M} {pc : Nat} {L : List (Option am_V)} {st : List am_V} {h : am_H} {r : Nat × Nat} {x y : Int32} (hd : decode mt.2.1 pc = .ok (.iadd, 1)) (k : am_AtG tb Po X d mt (pc + 1) L (am_I (x + y) :: st) h r) : am_AtG tb Po X d mt pc L (am_I y :: am_I x :: st) h r := by
  intro p l e R s m args below meth c H locs cells slots mc ms ls D cy A ad Q hC hX hP hD hS hL h1 h2 z1 z2 hQ
  exact lv_iadd hC.1 hC.2.2.1 hd (k p l e R s m args below meth c H locs cells slots mc ms ls D cy A ad Q hC hX hP hD hS hL h1 h2 z1 z2 hQ)
theorem gm_isub {tb : am_Tb} {Po : am_Po} {X : am_X} {d : Nat} {mt : am_M} {pc : Nat} {L : List (Option am_V)} {st : List am_V} {h : am_H} {r : Nat × Nat} {x y : Int32} (hd : decode mt.2.1 pc = .ok (.isub, 1)) (k : am_AtG tb Po X d mt (pc + 1) L (am_I (x - y) :: st) h r) : am_AtG tb Po X d mt pc L (am_I y :: am_I x :: st) h r := by
  intro p l e R s m args below meth c H locs cells slots mc ms ls D cy A ad Q hC hX hP hD hS hL h1 h2 z1 z2 hQ
  exact lv_isub hC.1 hC.2.2.1 hd (k p l e R s m args below meth c H locs cells slots mc ms ls D cy A ad Q hC hX hP hD hS hL h1 h2 z1 z2 hQ)
theorem gm_iand {tb : am_Tb} {Po : am_Po} {X : am_X} {d : Nat} {mt : am_M} {pc : Nat} {L : List (Option am_V)} {st : List am_V} {h : am_H} {r : Nat × Nat} {x y : Int32} (hd : decode mt.2.1 pc = .ok (.iand, 1)) (k : am_AtG tb Po X d mt (pc + 1) L (am_I (x &&& y) :: st) h r) : am_AtG tb Po X d mt pc L (am_I y :: am_I x :: st) h r := by
  intro p l e R s m args below meth c H locs cells slots mc ms ls D cy A ad Q hC hX hP hD hS hL h1 h2 z1 z2 hQ
  exact lv_iand hC.1 hC.2.2.1 hd (k p l e R s m args below meth c H locs cells slots mc ms ls D cy A ad Q hC hX hP hD hS hL h1 h2 z1 z2 hQ)
theorem gm_i2l {tb : am_Tb} {Po : am_Po} {X : am_X} {d : Nat} {mt : am_M} {pc : Nat} {L : List (Option am_V)} {st : List am_V} {h : am_H} {r : Nat × Nat} {x : Int32} (hd : decode mt.2.1 pc = .ok (.i2l, 1)) (k : am_AtG tb Po X d mt (pc + 1) L (.inl (.long x.toInt64) :: st) h r) : am_AtG tb Po X d mt pc L (am_I x :: st) h r := by
  intro p l e R s m args below meth c H locs cells slots mc ms ls D cy A ad Q hC hX hP hD hS hL h1 h2 z1 z2 hQ
  exact lv_i2l hC.1 hC.2.2.1 hd rfl (k p l e R s m args below meth c H locs cells slots mc ms ls D cy A ad Q hC hX hP hD hS hL h1 h2 z1 z2 hQ)
theorem gm_iconst {tb : am_Tb} {Po : am_Po} {X : am_X} {d : Nat} {mt : am_M} {pc : Nat} {L : List (Option am_V)} {st : List am_V} {h : am_H} {r : Nat × Nat} (n : Int) {v : Int32} (hd : decode mt.2.1 pc = .ok (.iconst n, 1)) (hv : Int32.ofInt n = v) (k : am_AtG tb Po X d mt (pc + 1) L (am_I v :: st) h r) : am_AtG tb Po X d mt pc L st h r := by
  intro p l e R s m args below meth c H locs cells slots mc ms ls D cy A ad Q hC hX hP hD hS hL h1 h2 z1 z2 hQ
  exact lv_iconst hC.1 hC.2.2.1 hd hv (k p l e R s m args below meth c H locs cells slots mc ms ls D cy A ad Q hC hX hP hD hS hL h1 h2 z1 z2 hQ)
theorem gm_bipush {tb : am_Tb} {Po : am_Po} {X : am_X} {d : Nat} {mt : am_M} {pc : Nat} {L : List (Option am_V)} {st : List am_V} {h : am_H} {r : Nat × Nat} (n : Int) {v : Int32} (hd : decode mt.2.1 pc = .ok (.bipush n, 2)) (hv : (Int8.ofInt n).toInt32 = v) (k : am_AtG tb Po X d mt (pc + 2) L (am_I v :: st) h r) : am_AtG tb Po X d mt pc L st h r := by
  intro p l e R s m args below meth c H locs cells slots mc ms ls D cy A ad Q hC hX hP hD hS hL h1 h2 z1 z2 hQ
  exact lv_bipush hC.1 hC.2.2.1 hd hv (k p l e R s m args below meth c H locs cells slots mc ms ls D cy A ad Q hC hX hP hD hS hL h1 h2 z1 z2 hQ)
theorem gm_lconst {tb : am_Tb} {Po : am_Po} {X : am_X} {d : Nat} {mt : am_M} {pc : Nat} {L : List (Option am_V)} {st : List am_V} {h : am_H} {r : Nat × Nat} {n : Fin 2} {v : Int64} (hd : decode mt.2.1 pc = .ok (.lconst n, 1)) (hv : Int64.ofNat (n : Nat) = v) (k : am_AtG tb Po X d mt (pc + 1) L (.inl (.long v) :: st) h r) : am_AtG tb Po X d mt pc L st h r := by
  intro p l e R s m args below meth c H locs cells slots mc ms ls D cy A ad Q hC hX hP hD hS hL h1 h2 z1 z2 hQ
  exact lv_lconst hC.1 hC.2.2.1 hd hv (k p l e R s m args below meth c H locs cells slots mc ms ls D cy A ad Q hC hX hP hD hS hL h1 h2 z1 z2 hQ)
theorem gm_iload_n {tb : am_Tb} {Po : am_Po} {X : am_X} {d : Nat} {mt : am_M} {pc : Nat} {L : List (Option am_V)} {st : List am_V} {h : am_H} {r : Nat × Nat} {q : Fin 4} {x : Int32} (hd : decode mt.2.1 pc = .ok (.iload_n q, 1)) (hl : L[(q : Nat)]? = some (some (am_I x))) (k : am_AtG tb Po X d mt (pc + 1) L (am_I x :: st) h r) : am_AtG tb Po X d mt pc L st h r := by
  intro p l e R s m args below meth c H locs cells slots mc ms ls D cy A ad Q hC hX hP hD hS hL h1 h2 z1 z2 hQ
  exact lv_iload_n hC.1 hC.2.2.1 hd rfl (hL.2.2.2 _ _ hl).1 (k p l e R s m args below meth c H locs cells slots mc ms ls D cy A ad Q hC hX hP hD hS hL h1 h2 z1 z2 hQ)
theorem gm_iload {tb : am_Tb} {Po : am_Po} {X : am_X} {d : Nat} {mt : am_M} {pc : Nat} {L : List (Option am_V)} {st : List am_V} {h : am_H} {r : Nat × Nat} {q : Nat} {x : Int32} (hd : decode mt.2.1 pc = .ok (.iload q, 2)) (hl : L[(q : Nat)]? = some (some (am_I x))) (k : am_AtG tb Po X d mt (pc + 2) L (am_I x :: st) h r) : am_AtG tb Po X d mt pc L st h r := by
  intro p l e R s m args below meth c H locs cells slots mc ms ls D cy A ad Q hC hX hP hD hS hL h1 h2 z1 z2 hQ
  exact lv_iload hC.1 hC.2.2.1 hd (hL.2.2.2 _ _ hl).1 (k p l e R s m args below meth c H locs cells slots mc ms ls D cy A ad Q hC hX hP hD hS hL h1 h2 z1 z2 hQ)
theorem gm_aload_n {tb : am_Tb} {Po : am_Po} {X : am_X} {d : Nat} {mt : am_M} {pc : Nat} {L : List (Option am_V)} {st : List am_V} {h : am_H} {r : Nat × Nat} {q : Fin 4} {a : Nat × Nat} (hd : decode mt.2.1 pc = .ok (.aload_n q, 1)) (hl : L[(q : Nat)]? = some (some (.inr a))) (k : am_AtG tb Po X d mt (pc + 1) L (.inr a :: st) h r) : am_AtG tb Po X d mt pc L st h r := by
  intro p l e R s m args below meth c H locs cells slots mc ms ls D cy A ad Q hC hX hP hD hS hL h1 h2 z1 z2 hQ
  exact lv_aload_n hC.1 hC.2.2.1 hd rfl (hL.2.2.2 _ _ hl).1 (k p l e R s m args below meth c H locs cells slots mc ms ls D cy A ad Q hC hX hP hD hS hL h1 h2 z1 z2 hQ)
theorem gm_aload {tb : am_Tb} {Po : am_Po} {X : am_X} {d : Nat} {mt : am_M} {pc : Nat} {L : List (Option am_V)} {st : List am_V} {h : am_H} {r : Nat × Nat} {q : Nat} {a : Nat × Nat} (hd : decode mt.2.1 pc = .ok (.aload q, 2)) (hl : L[(q : Nat)]? = some (some (.inr a))) (k : am_AtG tb Po X d mt (pc + 2) L (.inr a :: st) h r) : am_AtG tb Po X d mt pc L st h r := by
  intro p l e R s m args below meth c H locs cells slots mc ms ls D cy A ad Q hC hX hP hD hS hL h1 h2 z1 z2 hQ
  exact lv_aload hC.1 hC.2.2.1 hd (hL.2.2.2 _ _ hl).1 (k p l e R s m args below meth c H locs cells slots mc ms ls D cy A ad Q hC hX hP hD hS hL h1 h2 z1 z2 hQ)
theorem gm_dup {tb : am_Tb} {Po : am_Po} {X : am_X} {d : Nat} {mt : am_M} {pc : Nat} {L : List (Option am_V)} {st : List am_V} {h : am_H} {r : Nat × Nat} {a : am_V} (hd : decode mt.2.1 pc = .ok (.dup, 1)) (ha : ∀ ad, (am_cv ad a).category = 1) (k : am_AtG tb Po X d mt (pc + 1) L (a :: a :: st) h r) : am_AtG tb Po X d mt pc L (a :: st) h r := by
  intro p l e R s m args below meth c H locs cells slots mc ms ls D cy A ad Q hC hX hP hD hS hL h1 h2 z1 z2 hQ
  exact lv_dup hC.1 hC.2.2.1 hd (ha ad) (k p l e R s m args below meth c H locs cells slots mc ms ls D cy A ad Q hC hX hP hD hS hL h1 h2 z1 z2 hQ)
theorem gm_goto {tb : am_Tb} {Po : am_Po} {X : am_X} {d : Nat} {mt : am_M} {pc : Nat} {L : List (Option am_V)} {st : List am_V} {h : am_H} {r : Nat × Nat} (off : Int) (tgt : Nat) (hd : decode mt.2.1 pc = .ok (.goto off, 3)) (ht : (pc : Int) + off = (tgt : Int)) (k : am_AtG tb Po X d mt tgt L st h r) : am_AtG tb Po X d mt pc L st h r := by
  intro p l e R s m args below meth c H locs cells slots mc ms ls D cy A ad Q hC hX hP hD hS hL h1 h2 z1 z2 hQ
  exact lv_goto hC.1 hC.2.2.1 hd ht (k p l e R s m args below meth c H locs cells slots mc ms ls D cy A ad Q hC hX hP hD hS hL h1 h2 z1 z2 hQ)
theorem gm_icmp_eq {tb : am_Tb} {Po : am_Po} {X : am_X} {d : Nat} {mt : am_M} {pc : Nat} {L : List (Option am_V)} {st : List am_V} {h : am_H} {r : Nat × Nat} {x y : Int32} (off : Int) (tgt : Nat) (hd : decode mt.2.1 pc = .ok (.if_icmp .eq off, 3)) (ht : (pc : Int) + off = (tgt : Int)) (kt : (x = y) → am_AtG tb Po X d mt tgt L st h r) (kf : ¬ (x = y) → am_AtG tb Po X d mt (pc + 3) L st h r) : am_AtG tb Po X d mt pc L (am_I y :: am_I x :: st) h r := by
  intro p l e R s m args below meth c H locs cells slots mc ms ls D cy A ad Q hC hX hP hD hS hL h1 h2 z1 z2 hQ
  exact lv_icmp_eq hC.1 hC.2.2.1 hd ht (fun z => kt z p l e R s m args below meth c H locs cells slots mc ms ls D cy A ad Q hC hX hP hD hS hL h1 h2 z1 z2 hQ) (fun z => kf z p l e R s m args below meth c H locs cells slots mc ms ls D cy A ad Q hC hX hP hD hS hL h1 h2 z1 z2 hQ)
theorem gm_if_eq {tb : am_Tb} {Po : am_Po} {X : am_X} {d : Nat} {mt : am_M} {pc : Nat} {L : List (Option am_V)} {st : List am_V} {h : am_H} {r : Nat × Nat} {x : Int32} (off : Int) (tgt : Nat) (hd : decode mt.2.1 pc = .ok (.ifCond .eq off, 3)) (ht : (pc : Int) + off = (tgt : Int)) (kt : (x = 0) → am_AtG tb Po X d mt tgt L st h r) (kf : ¬ (x = 0) → am_AtG tb Po X d mt (pc + 3) L st h r) : am_AtG tb Po X d mt pc L (am_I x :: st) h r := by
  intro p l e R s m args below meth c H locs cells slots mc ms ls D cy A ad Q hC hX hP hD hS hL h1 h2 z1 z2 hQ
  exact lv_if_eq hC.1 hC.2.2.1 hd ht (fun z => kt z p l e R s m args below meth c H locs cells slots mc ms ls D cy A ad Q hC hX hP hD hS hL h1 h2 z1 z2 hQ) (fun z => kf z p l e R s m args below meth c H locs cells slots mc ms ls D cy A ad Q hC hX hP hD hS hL h1 h2 z1 z2 hQ)
theorem gm_icmp_ne {tb : am_Tb} {Po : am_Po} {X : am_X} {d : Nat} {mt : am_M} {pc : Nat} {L : List (Option am_V)} {st : List am_V} {h : am_H} {r : Nat × Nat} {x y : Int32} (off : Int) (tgt : Nat) (hd : decode mt.2.1 pc = .ok (.if_icmp .ne off, 3)) (ht : (pc : Int) + off = (tgt : Int)) (kt : (¬ x = y) → am_AtG tb Po X d mt tgt L st h r) (kf : (x = y) → am_AtG tb Po X d mt (pc + 3) L st h r) : am_AtG tb Po X d mt pc L (am_I y :: am_I x :: st) h r := by
  intro p l e R s m args below meth c H locs cells slots mc ms ls D cy A ad Q hC hX hP hD hS hL h1 h2 z1 z2 hQ
  exact lv_icmp_ne hC.1 hC.2.2.1 hd ht (fun z => kt z p l e R s m args below meth c H locs cells slots mc ms ls D cy A ad Q hC hX hP hD hS hL h1 h2 z1 z2 hQ) (fun z => kf z p l e R s m args below meth c H locs cells slots mc ms ls D cy A ad Q hC hX hP hD hS hL h1 h2 z1 z2 hQ)
theorem gm_if_ne {tb : am_Tb} {Po : am_Po} {X : am_X} {d : Nat} {mt : am_M} {pc : Nat} {L : List (Option am_V)} {st : List am_V} {h : am_H} {r : Nat × Nat} {x : Int32} (off : Int) (tgt : Nat) (hd : decode mt.2.1 pc = .ok (.ifCond .ne off, 3)) (ht : (pc : Int) + off = (tgt : Int)) (kt : (¬ x = 0) → am_AtG tb Po X d mt tgt L st h r) (kf : (x = 0) → am_AtG tb Po X d mt (pc + 3) L st h r) : am_AtG tb Po X d mt pc L (am_I x :: st) h r := by
  intro p l e R s m args below meth c H locs cells slots mc ms ls D cy A ad Q hC hX hP hD hS hL h1 h2 z1 z2 hQ
  exact lv_if_ne hC.1 hC.2.2.1 hd ht (fun z => kt z p l e R s m args below meth c H locs cells slots mc ms ls D cy A ad Q hC hX hP hD hS hL h1 h2 z1 z2 hQ) (fun z => kf z p l e R s m args below meth c H locs cells slots mc ms ls D cy A ad Q hC hX hP hD hS hL h1 h2 z1 z2 hQ)
theorem gm_icmp_gt {tb : am_Tb} {Po : am_Po} {X : am_X} {d : Nat} {mt : am_M} {pc : Nat} {L : List (Option am_V)} {st : List am_V} {h : am_H} {r : Nat × Nat} {x y : Int32} (off : Int) (tgt : Nat) (hd : decode mt.2.1 pc = .ok (.if_icmp .gt off, 3)) (ht : (pc : Int) + off = (tgt : Int)) (kt : (y < x) → am_AtG tb Po X d mt tgt L st h r) (kf : ¬ (y < x) → am_AtG tb Po X d mt (pc + 3) L st h r) : am_AtG tb Po X d mt pc L (am_I y :: am_I x :: st) h r := by
  intro p l e R s m args below meth c H locs cells slots mc ms ls D cy A ad Q hC hX hP hD hS hL h1 h2 z1 z2 hQ
  exact lv_icmp_gt hC.1 hC.2.2.1 hd ht (fun z => kt z p l e R s m args below meth c H locs cells slots mc ms ls D cy A ad Q hC hX hP hD hS hL h1 h2 z1 z2 hQ) (fun z => kf z p l e R s m args below meth c H locs cells slots mc ms ls D cy A ad Q hC hX hP hD hS hL h1 h2 z1 z2 hQ)
theorem gm_istore_n {tb : am_Tb} {Po : am_Po} {X : am_X} {d : Nat} {mt : am_M} {pc : Nat} {L : List (Option am_V)} {st : List am_V} {h : am_H} {r : Nat × Nat} {q : Fin 4} {x : Int32} (hd : decode mt.2.1 pc = .ok (.istore_n q, 1)) (hi : (q : Nat) < L.length) (k : am_AtG tb Po X d mt (pc + 1) (L.set (q : Nat) (some (am_I x))) st h r) : am_AtG tb Po X d mt pc L (am_I x :: st) h r := by
  intro p l e R s m args below meth c H locs cells slots mc ms ls D cy A ad Q hC hX hP hD hS hL h1 h2 z1 z2 hQ
  exact lv_istore_n hC.1 hC.2.2.1 hd rfl hL.has (hL.lt hi) rfl (fun ls2 h9 => k p l e R s m args below meth c H locs cells slots mc ms ls2 D cy A ad Q hC hX hP hD hS (hL.set (a := am_I x) rfl h9) h1 h2 z1 z2 hQ)
theorem gm_istore {tb : am_Tb} {Po : am_Po} {X : am_X} {d : Nat} {mt : am_M} {pc : Nat} {L : List (Option am_V)} {st : List am_V} {h : am_H} {r : Nat × Nat} {q : Nat} {x : Int32} (hd : decode mt.2.1 pc = .ok (.istore q, 2)) (hi : (q : Nat) < L.length) (k : am_AtG tb Po X d mt (pc + 2) (L.set (q : Nat) (some (am_I x))) st h r) : am_AtG tb Po X d mt pc L (am_I x :: st) h r := by
  intro p l e R s m args below meth c H locs cells slots mc ms ls D cy A ad Q hC hX hP hD hS hL h1 h2 z1 z2 hQ
  exact lv_istore hC.1 hC.2.2.1 hd hL.has (hL.lt hi) rfl (fun ls2 h9 => k p l e R s m args below meth c H locs cells slots mc ms ls2 D cy A ad Q hC hX hP hD hS (hL.set (a := am_I x) rfl h9) h1 h2 z1 z2 hQ)
theorem gm_astore_n {tb : am_Tb} {Po : am_Po} {X : am_X} {d : Nat} {mt : am_M} {pc : Nat} {L : List (Option am_V)} {st : List am_V} {h : am_H} {r : Nat × Nat} {q : Fin 4} {x : Nat × Nat} (hd : decode mt.2.1 pc = .ok (.astore_n q, 1)) (hi : (q : Nat) < L.length) (k : am_AtG tb Po X d mt (pc + 1) (L.set (q : Nat) (some (.inr x))) st h r) : am_AtG tb Po X d mt pc L (.inr x :: st) h r := by
  intro p l e R s m args below meth c H locs cells slots mc ms ls D cy A ad Q hC hX hP hD hS hL h1 h2 z1 z2 hQ
  exact lv_astore_n hC.1 hC.2.2.1 hd rfl hL.has (hL.lt hi) rfl (fun ls2 h9 => k p l e R s m args below meth c H locs cells slots mc ms ls2 D cy A ad Q hC hX hP hD hS (hL.set (a := .inr x) rfl h9) h1 h2 z1 z2 hQ)
theorem gm_astore {tb : am_Tb} {Po : am_Po} {X : am_X} {d : Nat} {mt : am_M} {pc : Nat} {L : List (Option am_V)} {st : List am_V} {h : am_H} {r : Nat × Nat} {q : Nat} {x : Nat × Nat} (hd : decode mt.2.1 pc = .ok (.astore q, 2)) (hi : (q : Nat) < L.length) (k : am_AtG tb Po X d mt (pc + 2) (L.set (q : Nat) (some (.inr x))) st h r) : am_AtG tb Po X d mt pc L (.inr x :: st) h r := by
  intro p l e R s m args below meth c H locs cells slots mc ms ls D cy A ad Q hC hX hP hD hS hL h1 h2 z1 z2 hQ
  exact lv_astore hC.1 hC.2.2.1 hd hL.has (hL.lt hi) rfl (fun ls2 h9 => k p l e R s m args below meth c H locs cells slots mc ms ls2 D cy A ad Q hC hX hP hD hS (hL.set (a := .inr x) rfl h9) h1 h2 z1 z2 hQ)
theorem gm_iinc {tb : am_Tb} {Po : am_Po} {X : am_X} {d : Nat} {mt : am_M} {pc : Nat} {L : List (Option am_V)} {st : List am_V} {h : am_H} {r : Nat × Nat} {q : Nat} {n : Int} {x v : Int32} (hd : decode mt.2.1 pc = .ok (.iinc q n, 3)) (hl : L[q]? = some (some (am_I x))) (hv : x + Int32.ofInt n = v) (k : am_AtG tb Po X d mt (pc + 3) (L.set q (some (am_I v))) st h r) : am_AtG tb Po X d mt pc L st h r := by
  intro p l e R s m args below meth c H locs cells slots mc ms ls D cy A ad Q hC hX hP hD hS hL h1 h2 z1 z2 hQ
  have hi : q < L.length := (List.getElem?_eq_some_iff.mp hl).1
  have hm : (q, Value.int x) ∈ am_al ad L := List.mem_filterMap.mpr ⟨q, List.mem_range.mpr hi, by rw [hl]; rfl⟩
  obtain ⟨k9, hk9⟩ := List.getElem?_of_mem hm
  exact lv_iinc hC.1 hC.2.2.1 hd hL.has hk9 hv (hL.lt hi) rfl (fun ls2 h9 => k p l e R s m args below meth c H locs cells slots mc ms ls2 D cy A ad Q hC hX hP hD hS (hL.set (a := am_I v) rfl h9) h1 h2 z1 z2 hQ)
theorem gm_lald {tb : am_Tb} {Po : am_Po} {X : am_X} {d : Nat} {mt : am_M} {pc : Nat} {L : List (Option am_V)} {st : List am_V} {h : am_H} {r : Nat × Nat} {c n w : Nat} {j : Int32} (hd : decode mt.2.1 pc = .ok (.laload, 1)) (hs : h.1[c]? = some (102, n, w)) (hin : vp_in j n) (kk : am_AtG tb Po X d mt (pc + 1) L (.inl (.long (am_lg (h.2.2 c j.toNatClampNeg))) :: st) h r) : am_AtG tb Po X d mt pc L (am_I j :: .inr (c, 0) :: st) h r := by
  intro p l e R s m args below meth c0 H locs cells slots mc ms ls D cy A ad Q hC hX hP hD hS hL h1 h2 z1 z2 hQ
  exact va_lald (D := D) hC.1 hC.2.2.1 hC.2.2.2.2.2.2.2.2.2.2.1.1 (hP.one ⟨hs, Or.inl rfl⟩ am_el) 0 2 rfl rfl hin hd (kk p l e R s m args below meth c0 H locs cells slots mc ms ls D cy A ad Q hC hX hP hD hS hL h1 h2 z1 z2 hQ)
theorem gm_last {tb : am_Tb} {Po : am_Po} {X : am_X} {d : Nat} {mt : am_M} {pc : Nat} {L : List (Option am_V)} {st : List am_V} {h : am_H} {r : Nat × Nat} {c n w : Nat} {j x : Int32} (hd : decode mt.2.1 pc = .ok (.lastore, 1)) (hs : h.1[c]? = some (102, n, w)) (hin : vp_in j n) (kk : am_AtG tb Po X d mt (pc + 1) L st (am_ur h c j.toNatClampNeg (am_lc x)) r) : am_AtG tb Po X d mt pc L (.inl (.long x.toInt64) :: am_I j :: .inr (c, 0) :: st) h r := by
  intro p l e R s m args below meth c0 H locs cells slots mc ms ls D cy A ad Q hC hX hP hD hS hL h1 h2 z1 z2 hQ
  have ho : am_ok h c 0 102 n w := ⟨hs, Or.inl rfl⟩
  have ha : H[ad c 0]? = some (vp_cell (cy 2) (n, .inr (.inl (fun j => am_lg (h.2.2 c j))))) := by have := hP c 0 102 n w ho; rw [am_el] at this; exact this
  have hK := hC.2.2.2.2.2.2.2.2.2.2.1.1
  refine W.last hC.1 hC.2.2.1 ha ((hK.2 2 _ rfl).1 n (fun j => .long (am_lg (h.2.2 c j)))) (fun q => by cases q) (by show ¬ (j < 0 ∨ (arrV _ _ _).slots.size ≤ _); rw [arrV_size]; exact hin) rfl rfl hd fun H1 e1 e2 e3 => ?_
  refine kk p l e R s m args below meth c0 H1 _ cells slots mc ms ls D cy A ad Q hC hX (hP.set hD ho rfl (fun c' r' k' n' w' a b => am_e.ur a b) ?_ e3) (hD.sh rfl) (hS.put e2 e3 (hD.2 c 0 102 n w ho)) hL h1 h2 z1 z2 hQ
  rw [am_el]
  show H1[ad c 0]? = some (vp_cell _ _)
  rw [e1, vp_cell_l, vp_cell_l, arrV_store]
  congr 2
  funext q
  by_cases hq : q = j.toNatClampNeg
  · subst hq
    simp [updV, am_ur, am_lgc]
  · simp [updV, am_ur, hq]
theorem gm_lcmp {tb : am_Tb} {Po : am_Po} {X : am_X} {d : Nat} {mt : am_M} {pc : Nat} {L : List (Option am_V)} {st : List am_V} {h : am_H} {r : Nat × Nat} {x y : Int64} (hd : decode mt.2.1 pc = .ok (.lcmp, 1)) (kk : am_AtG tb Po X d mt (pc + 1) L (am_I (lg_cmp x y) :: st) h r) : am_AtG tb Po X d mt pc L (.inl (.long y) :: .inl (.long x) :: st) h r := by
  intro p l e R s m args below meth c0 H locs cells slots mc ms ls D cy A ad Q hC hX hP hD hS hL h1 h2 z1 z2 hQ
  obtain ⟨hx, htr, hb, hml, hown, hr, hlk, hnm, hex, hts, hG, hA, hRc, hRs, hRf, hRl⟩ := id hC
  exact W.lcmp hx hb hd (kk p l e R s m args below meth c0 H locs cells slots mc ms ls D cy A ad Q hC hX hP hD hS hL h1 h2 z1 z2 hQ)
theorem gm_tabIn {tb : am_Tb} {Po : am_Po} {X : am_X} {d : Nat} {mt : am_M} {pc : Nat} {L : List (Option am_V)} {st : List am_V} {h : am_H} {r : Nat × Nat} {dflt lo hi : Int} {offs : Array Int} {len : Nat} {x : Int32} (off : Int) (tgt : Nat) (hd : decode mt.2.1 pc = .ok (.tableswitch dflt lo hi offs, len)) (q1 : ¬ x.toInt < lo) (q2 : ¬ hi < x.toInt) (ho : offs[(x.toInt - lo).toNat]? = some off) (ht : (pc : Int) + off = (tgt : Int)) (kk : am_AtG tb Po X d mt tgt L st h r) : am_AtG tb Po X d mt pc L (am_I x :: st) h r := by
  intro p l e R s m args below meth c0 H locs cells slots mc ms ls D cy A ad Q hC hX hP hD hS hL h1 h2 z1 z2 hQ
  obtain ⟨hx, htr, hb, hml, hown, hr, hlk, hnm, hex, hts, hG, hA, hRc, hRs, hRf, hRl⟩ := id hC
  exact lv_tableIn hx hb hd q1 q2 ho ht (kk p l e R s m args below meth c0 H locs cells slots mc ms ls D cy A ad Q hC hX hP hD hS hL h1 h2 z1 z2 hQ)
theorem gm_tabOut {tb : am_Tb} {Po : am_Po} {X : am_X} {d : Nat} {mt : am_M} {pc : Nat} {L : List (Option am_V)} {st : List am_V} {h : am_H} {r : Nat × Nat} {dflt lo hi : Int} {offs : Array Int} {len : Nat} {x : Int32} (tgt : Nat) (hd : decode mt.2.1 pc = .ok (.tableswitch dflt lo hi offs, len)) (q1 : x.toInt < lo ∨ hi < x.toInt) (ht : (pc : Int) + dflt = (tgt : Int)) (kk : am_AtG tb Po X d mt tgt L st h r) : am_AtG tb Po X d mt pc L (am_I x :: st) h r := by
  intro p l e R s m args below meth c0 H locs cells slots mc ms ls D cy A ad Q hC hX hP hD hS hL h1 h2 z1 z2 hQ
  obtain ⟨hx, htr, hb, hml, hown, hr, hlk, hnm, hex, hts, hG, hA, hRc, hRs, hRf, hRl⟩ := id hC
  exact lv_tableOut hx hb hd q1 ht (kk p l e R s m args below meth c0 H locs cells slots mc ms ls D cy A ad Q hC hX hP hD hS hL h1 h2 z1 z2 hQ)
theorem gm_callV {tb : am_Tb} {Po : am_Po} {X : am_X} {d : Nat} {mt : am_M} {pc : Nat} {L : List (Option am_V)} {st : List am_V} {h : am_H} {r : Nat × Nat} {idx c k n w nA d1 : Nat} {y : am_M} (as : List am_V) {stk : List am_V} {v : Option am_V} {h1 : am_H} (hd : decode mt.2.1 pc = .ok (.invokevirtual idx, 3)) (hl : Cond.methodLink mt.1.cls idx y.1 ∈ am_ws) (g : am_vm y k nA) (hs : h.1[c]? = some (k, n, w)) (hn : as.length = nA) (hst : ∀ ad, ((st.map (am_cv ad)).map fun v => v.category).sum ≤ 8) (hd1 : d1 + 1 ≤ d) (hk : stk = as.reverse ++ .inr (c, 0) :: st) (E : am_Ev d1 y (.inr (c, 0) :: as) h (.inl (v, h1))) (hsh : h1.1 = h.1) (kk : am_AtG tb Po X d mt (pc + 3) L (v.toList ++ st) h1 r) : am_AtG tb Po X d mt pc L stk h r := by
  intro p l e R s m args below meth c0 H locs cells slots mc ms ls D cy A ad Q hC hX hP hD hS hL h1' h2' z1 z2 hQ
  subst hk
  obtain ⟨hx, htr, hb, hml, hown, hr, hlk, hnm, hex, hts, hG, hA, hRc, hRs, hRf, hRl⟩ := id hC
  have e1 : am_rc (.inl (v, h1)) - am_nc h = 0 := by show am_nc h1 - am_nc h = 0; unfold am_nc; rw [hsh]; omega
  have e2 : am_rs (.inl (v, h1)) - am_ns h = 0 := by show am_ns h1 - am_ns h = 0; unfold am_ns; rw [hsh]; omega
  have hrc : cells ≤ mc := by omega
  have hrs : slots ≤ ms := by omega
  refine am_after (h := h) (r1 := (.inl (v, h1))) (vx_runV (As := as.map (am_cv ad)) (rest := st.map (am_cv ad)) (b := ad c 0) (C := g.2.2.2.choose.1) ⟨hx, hb, hml, hown, hts⟩ (E l htr D cy ad H.size) ⟨am_cb (d := d) hts g.1 hl hRf hRl hd1, hts _ g.2.1, by rw [g.2.2.2.choose_spec.2]; exact hts _ g.2.2.1⟩ ⟨am_blind, am_recv hP hG.1 hs g.2.2.2.choose_spec.1, am_pre (av := .ref (ad c 0) :: as.map (am_cv ad)) hP hD hA hS hG⟩ rfl (by simpa using hn) hL.1 (by simp [am_cv]) (lv_room (hst ad)) hd ⟨by rw [e1, hRc]; exact hrc, by rw [e2, hRs]; exact hrs⟩) (am_AB hD hA hS) hS ?_ ?_
  · intro E1 h9 ad1 H1 locs1 q9 ce z
    cases z
  · intro v9 h9 ad1 H1 locs1 z hag hP1 hD1 hS1
    cases z
    have ead : ad1 = ad := hag.2.1 (by rw [hsh])
    subst ead
    rw [e1, e2]
    have hn1 : am_nc h1 = am_nc h := by unfold am_nc; rw [hsh]
    have hn2 : am_ns h1 = am_ns h := by unfold am_ns; rw [hsh]
    have := kk p l e R s m args below meth c0 H1 locs1 (cells + 0) (slots + 0) mc ms ls D cy A ad1 Q hC hX hP1 hD1 hS1 hL (by rw [hn1]; exact h1') (by rw [hn2]; exact h2') (by rw [hn1]; exact z1) (by rw [hn2]; exact z2) (fun t ht => hQ t (by have e9 := hag.2.1 (by rw [hsh]); rw [e9] at ht; exact ht))
    cases v <;> exact this
theorem gm_grow {tb : am_Tb} {Po : am_Po} (hPo : ∀ D cy A ad ad1, Po D cy A ad = Po D cy A ad1) {X : am_X} {d : Nat} {mt : am_M} {pc pc1 : Nat} {L : List (Option am_V)} {st st1 : List am_V} {h : am_H} {r : Nat × Nat} {k n w : Nat} (hk : k ≠ 103) (hN : h.1.length < 1000) (hrf : ∀ c f, h.2.2 c f ≠ some h.1.length) (hXs : ∀ ad A s a, X ad A s → X (am_ad ad h.1.length a) A s) (hLo : ∀ v, some v ∈ L → am_old h.1.length v) (hso : ∀ v, v ∈ st1 → am_old h.1.length v) (b1 : am_nc h + 1 ≤ r.1) (b2 : am_ns h + n ≤ r.2) (kk : am_AtG tb Po X d mt pc1 L (.inr (h.1.length, 0) :: st1) (am_hN h (k, n, w)) r)
    (step : ∀ (p : Program) (l : Launch) (e : Env) (R : Room) (s : State) (m : MethodId) (args : Array Value) (below : List Frame) (meth : Method) (c : Code) (H : Heap) (locs : List Loc) (cells slots mc ms : Nat) (ls : Array Slot) (D : va_G) (cy : Nat → ClassId) (A : Nat → Prop) (ad : Nat → Nat → Nat) (Q : State → Prop), am_CxG tb d mt p l R s m args meth c D cy ad A mc ms → cells + 1 ≤ R.cells → slots + n ≤ R.slots →
      (∀ H1 : Heap, H1.size = H.size + 1 → (∀ q, q < H.size → H1[q]? = H[q]?) → va_at D vwCl (H.size, am_e cy (am_ad ad h.1.length H.size) (am_hN h (k, n, w)) h.1.length 0 k n w) H1 → W p l e R s m args below meth c H1 locs (cells + 1) (slots + n) Q (F0 m pc1 ls (.ref H.size :: st1.map (am_cv ad)))) → W p l e R s m args below meth c H locs cells slots Q (F0 m pc ls (st.map (am_cv ad)))) : am_AtG tb Po X d mt pc L st h r := by
  intro p l e R s m args below meth c0 H locs cells slots mc ms ls D cy A ad Q hC hX hP hD hS hL h1 h2 z1 z2 hQ
  obtain ⟨hx, htr, hb, hml, hown, hr, hlk, hnm, hex, hts, hG, hA, hRc, hRs, hRf, hRl⟩ := id hC
  refine step p l e R s m args below meth c0 H locs cells slots mc ms ls D cy A ad Q hC (by omega) (by omega) fun H1 hz ho hat => ?_
  have hst : .ref H.size :: st1.map (am_cv ad) = ((.inr (h.1.length, 0) :: st1 : List am_V)).map (am_cv (am_ad ad h.1.length H.size)) := by
    rw [List.map_cons]
    congr 1
    · show Value.ref H.size = Value.ref (am_ad ad h.1.length H.size h.1.length 0)
      rw [am_ad.e]
    · exact (List.map_congr_left (fun v hv => (hso v hv).cv)).symm
  rw [hst]
  have hn1 := am_hN.nc (h := h) (n := n) (w := w) hk
  have hn2 := am_hN.ns (h := h) (n := n) (w := w) hk
  refine kk p l e R s m args below meth c0 H1 locs (cells + 1) (slots + n) mc ms ls D cy A (am_ad ad h.1.length H.size) Q ⟨hx, htr, hb, hml, hown, hr, hlk, hnm, hex, hts, hG.ad hN, hA, hRc, hRs, hRf, hRl⟩ (hXs _ _ _ _ hX) ?_ ?_ ?_ ?_ (by omega) (by omega) (by omega) (by omega) (fun t ht => hQ t (by rw [hPo D cy A ad (am_ad ad h.1.length H.size)]; exact ht))
  · intro c r' k' n' w' ok'
    rcases am_hN.ok ok' with ⟨hc, oo⟩ | ⟨rfl, eq, hr0⟩
    · rw [am_ad.o hc, am_hN.e hc hrf]
      exact (hP c r' k' n' w' oo).kept (ho _ (hP c r' k' n' w' oo).lt)
    · cases eq
      have : r' = 0 := by
        rcases hr0 with z | z
        · exact z
        · exact absurd z.1 hk
      subst this
      rw [am_ad.e]
      exact hat
  · refine ⟨fun c r1 k1 n1 w1 c' r1' k1' n1' w1' o1 o2 e => ?_, fun c r1 k1 n1 w1 o1 => ?_⟩
    · rcases am_hN.ok o1 with ⟨hc, oo⟩ | ⟨rfl, eq, hr0⟩
      · rcases am_hN.ok o2 with ⟨hc', oo'⟩ | ⟨rfl, eq', hr0'⟩
        · rw [am_ad.o hc, am_ad.o hc'] at e
          exact hD.1 _ _ _ _ _ _ _ _ _ _ oo oo' e
        · cases eq'
          have : r1' = 0 := by
            rcases hr0' with z | z
            · exact z
            · exact absurd z.1 hk
          subst this
          rw [am_ad.o hc, am_ad.e] at e
          exact absurd e (Nat.ne_of_lt (hP _ _ _ _ _ oo).lt)
      · cases eq
        have : r1 = 0 := by
          rcases hr0 with z | z
          · exact z
          · exact absurd z.1 hk
        subst this
        rcases am_hN.ok o2 with ⟨hc', oo'⟩ | ⟨rfl, eq', hr0'⟩
        · rw [am_ad.o hc', am_ad.e] at e
          exact absurd e.symm (Nat.ne_of_lt (hP _ _ _ _ _ oo').lt)
        · cases eq'
          have : r1' = 0 := by
            rcases hr0' with z | z
            · exact z
            · exact absurd z.1 hk
          exact ⟨rfl, this.symm⟩
    · rcases am_hN.ok o1 with ⟨hc, oo⟩ | ⟨rfl, eq, hr0⟩
      · rw [am_ad.o hc]
        exact hD.2 _ _ _ _ _ oo
      · cases eq
        have : r1 = 0 := by
          rcases hr0 with z | z
          · exact z
          · exact absurd z.1 hk
        subst this
        rw [am_ad.e]
        exact hA _ hS.1
  · exact ⟨Nat.le_trans hS.1 (by omega), fun q q1 q2 => (ho q (Nat.lt_of_lt_of_le q1 hS.1)).trans (hS.2.1 q q1 q2), hS.2.2⟩
  · refine ⟨hL.1, hL.2.1, hL.2.2.1, fun i v hv => ?_⟩
    have hm : some v ∈ L := List.mem_of_getElem? hv
    rw [(hLo v hm).cv]
    exact hL.2.2.2 i v hv
theorem gm_new {tb : am_Tb} {Po : am_Po} (hPo : ∀ D cy A ad ad1, Po D cy A ad = Po D cy A ad1) {X : am_X} {d : Nat} {mt : am_M} {pc : Nat} {L : List (Option am_V)} {st : List am_V} {h : am_H} {r : Nat × Nat} {idx : Nat} (k n : Nat) (hd : decode mt.2.1 pc = .ok (.new idx, 3)) (g : am_nd mt.1.cls idx k n) (hz : ∀ f, h.2.1 h.1.length 0 f = 0) (hzr : ∀ f, h.2.2 h.1.length f = none) (hN : h.1.length < 1000) (hrf : ∀ c f, h.2.2 c f ≠ some h.1.length) (hXs : ∀ ad A s a, X ad A s → X (am_ad ad h.1.length a) A s) (hLo : ∀ v, some v ∈ L → am_old h.1.length v) (hso : ∀ v, v ∈ st → am_old h.1.length v) (b1 : am_nc h + 1 ≤ r.1) (b2 : am_ns h + n ≤ r.2) (kk : am_AtG tb Po X d mt (pc + 3) L (.inr (h.1.length, 0) :: st) (am_hN h (k, n, 0)) r) : am_AtG tb Po X d mt pc L st h r := by
  obtain ⟨q, ty, hcl, hqn, hlk, hins, hini, hty⟩ := g
  have hk13 := am_k13 hcl
  refine gm_grow hPo (w := 0) (by omega) hN hrf hXs hLo hso b1 b2 kk ?_
  intro p l e R s m args below meth c0 H locs cells slots mc ms ls D cy A ad Q hC hc hs K
  obtain ⟨hx, htr, hb, hml, hown, hr, hlk', hnm, hex, hts, hG, hA, hRc, hRs, hRf, hRl⟩ := id hC
  have hKn := hG.1.1 k _ hcl.1
  refine W.newcK hx hb hown (hts _ hlk) (hts _ hins) (hts _ hini) rfl hd hc hs hKn.2.1 rfl fun H1 kC hkC e1 z1 o1 => K H1 z1 o1 ?_
  rw [am_eo hk13]
  refine ⟨q, hcl.1, (u_born ty hts hcl.2.1 hKn hkC e1 hcl.2.2.1).to (fun j hj => ?_)⟩
  rw [hqn] at hj
  rw [hty j hj]
  show _ = ((List.range n).map (am_fv (am_ad ad h.1.length H.size) (am_hN h (k, n, 0)) h.1.length k)).getD j .null
  rw [List.getD_eq_getElem?_getD, List.getElem?_map, List.getElem?_range hj]
  show _ = am_fv (am_ad ad h.1.length H.size) (am_hN h (k, n, 0)) h.1.length k j
  unfold am_fv am_hN
  by_cases hq : am_rf k j = true
  · rw [if_pos hq, if_pos hq]
    show _ = va_rf ((h.2.2 h.1.length j).map _)
    rw [hzr]; rfl
  · rw [if_neg hq, if_neg hq]
    show _ = Value.int (h.2.1 h.1.length 0 j)
    rw [hz]
theorem gm_newl {tb : am_Tb} {Po : am_Po} (hPo : ∀ D cy A ad ad1, Po D cy A ad = Po D cy A ad1) {X : am_X} {d : Nat} {mt : am_M} {pc : Nat} {L : List (Option am_V)} {st : List am_V} {h : am_H} {r : Nat × Nat} {x : Int32} (n : Nat) (hd : decode mt.2.1 pc = .ok (.newarray .long, 2)) (hx0 : ¬ x < 0) (hxn : x.toNatClampNeg = n) (hb4 : n * componentBytes .long ≤ 536870912) (harr : Cond.arrayClass .long ∈ am_ws) (hz : ∀ f, h.2.2 h.1.length f = none) (hN : h.1.length < 1000) (hrf : ∀ c f, h.2.2 c f ≠ some h.1.length) (hXs : ∀ ad A s a, X ad A s → X (am_ad ad h.1.length a) A s) (hLo : ∀ v, some v ∈ L → am_old h.1.length v) (hso : ∀ v, v ∈ st → am_old h.1.length v) (b1 : am_nc h + 1 ≤ r.1) (b2 : am_ns h + n ≤ r.2) (kk : am_AtG tb Po X d mt (pc + 2) L (.inr (h.1.length, 0) :: st) (am_hN h (102, n, 0)) r) : am_AtG tb Po X d mt pc L (am_I x :: st) h r := by
  refine gm_grow hPo (w := 0) (by decide) hN hrf hXs hLo hso b1 b2 kk ?_
  intro p l e R s m args below meth c0 H locs cells slots mc ms ls D cy A ad Q hC hc hs K
  obtain ⟨hx, htr, hb, hml, hown, hr, hlk', hnm, hex, hts, hG, hA, hRc, hRs, hRf, hRl⟩ := id hC
  refine va_newaK hx hb (atype := .long) (hts _ harr) rfl hd rfl hx0 hxn hb4 hc hs rfl fun H1 cA e1 z1 o1 hAr hNm => K H1 z1 o1 ?_
  have hcy : cA = cy 2 := by
    have := (hG.1.2 2 (cy 2, .long) rfl).2
    exact Option.some.inj (hNm.symm.trans this)
  subst hcy
  show H1[H.size]? = some _
  rw [e1]
  refine congrArg some ?_
  show arrV (cy 2) n _ = arrV (cy 2) n (fun j => .long (am_lg ((am_hN h (102, n, 0)).2.2 h.1.length j)))
  refine congrArg (arrV (cy 2) n) (funext fun j => ?_)
  show _ = Value.long (am_lg (h.2.2 h.1.length j))
  rw [hz]; rfl
theorem gm_callI {tb : am_Tb} {Po : am_Po} (hPo : ∀ D cy A ad ad1, Po D cy A ad = Po D cy A ad1) {X : am_X} {d : Nat} {mt : am_M} {pc : Nat} {L : List (Option am_V)} {st : List am_V} {h : am_H} {r : Nat × Nat} {idx c nA d1 : Nat} {y : am_M} (as : List am_V) {stk : List am_V} {h1 : am_H} (hd : decode mt.2.1 pc = .ok (.invokespecial idx, 3)) (hl : Cond.methodLink mt.1.cls idx y.1 ∈ am_ws) (g : am_md y nA) (hin : Cond.instanceMethod y.1 ∈ am_ws) (hy : y.1.name = "<init>") (hret : y.2.2.2 = none) (hn : as.length = nA) (hst : ∀ ad, ((st.map (am_cv ad)).map fun v => v.category).sum ≤ 8) (hd1 : d1 + 1 ≤ d) (hk : stk = as.reverse ++ .inr (c, 0) :: st) (E : am_Ev d1 y (.inr (c, 0) :: as) h (.inl (none, h1))) (hXs : ∀ ad ad1 A s, am_ag h h1 ad ad1 → X ad A s → X ad1 A s) (hLo : ∀ v, some v ∈ L → am_inh h v) (hso : ∀ v, v ∈ st → am_inh h v) (m1 : am_nc h ≤ am_nc h1) (m2 : am_ns h ≤ am_ns h1) (b1 : am_nc h1 ≤ r.1) (b2 : am_ns h1 ≤ r.2) (kk : am_AtG tb Po X d mt (pc + 3) L st h1 r) : am_AtG tb Po X d mt pc L stk h r := by
  intro p l e R s m args below meth c0 H locs cells slots mc ms ls D cy A ad Q hC hX hP hD hS hL h1' h2' z1 z2 hQ
  subst hk
  obtain ⟨hx, htr, hb, hml, hown, hr, hlk, hnm, hex, hts, hG, hA, hRc, hRs, hRf, hRl⟩ := id hC
  have e1 : am_rc (.inl (none, h1)) - am_nc h = am_nc h1 - am_nc h := rfl
  have e2 : am_rs (.inl (none, h1)) - am_ns h = am_ns h1 - am_ns h := rfl
  obtain ⟨yn, yc, ym, yr⟩ := y
  simp only at hret
  subst hret
  refine am_after (h := h) (r1 := (.inl (none, h1))) (am_run (va_runI (As := as.map (am_cv ad)) (rest := st.map (am_cv ad)) (b := ad c 0) ⟨hx, hb, hml, hown, hts⟩ (E.met l htr D cy ad H.size) ⟨am_cb (d := d) hts g hl hRf hRl hd1, hy, hts _ hin⟩ ⟨am_blind, am_pre (av := .ref (ad c 0) :: as.map (am_cv ad)) hP hD hA hS hG⟩ rfl (by simpa using hn) hL.1 (by simp [am_cv]) (lv_room (hst ad)) hd ⟨by rw [e1, hRc]; omega, by rw [e2, hRs]; omega⟩)) (am_AB hD hA hS) hS ?_ ?_
  · intro E1 h9 ad1 H1 locs1 q9 ce z
    cases z
  · intro v9 h9 ad1 H1 locs1 z hag hP1 hD1 hS1
    cases z
    rw [e1, e2]
    have hst1 : st.map (am_cv ad) = st.map (am_cv ad1) := List.map_congr_left (fun v hv => (am_inh.cv hag (hso v hv)).symm)
    show W p l e R s m args below meth c0 H1 locs1 (cells + (am_nc h1 - am_nc h)) (slots + (am_ns h1 - am_ns h)) Q (F0 m (pc + 3) ls (st.map (am_cv ad)))
    rw [hst1]
    refine kk p l e R s m args below meth c0 H1 locs1 _ _ mc ms ls D cy A ad1 Q ⟨hx, htr, hb, hml, hown, hr, hlk, hnm, hex, hts, hG.ag hag, hA, hRc, hRs, hRf, hRl⟩ (hXs _ _ _ _ hag hX) hP1 hD1 hS1 ?_ (by omega) (by omega) b1 b2 (fun t ht => hQ t (by rw [hPo D cy A ad ad1]; exact ht))
    refine ⟨hL.1, hL.2.1, hL.2.2.1, fun i v hv => ?_⟩
    have hm : some v ∈ L := List.mem_of_getElem? hv
    rw [am_inh.cv hag (hLo v hm)]
    exact hL.2.2.2 i v hv
theorem gm_iret {tb : am_Tb} {Po : am_Po} {X : am_X} {d : Nat} {mt : am_M} {pc : Nat} {L : List (Option am_V)} {h : am_H} {r : Nat × Nat} {x : Int32} {ty : FieldType} (hd : decode mt.2.1 pc = .ok (.ireturn, 1)) (hr : mt.2.2.2 = some ty) (hn : narrow ty (.int x) = .int x)
    (hP0 : ∀ D cy A ad (args : Array Value) (s t : State), X ad A s → am_P D cy ad h t.heap → am_D A ad h → va_F A s t → Po D cy A ad args s (.returned (some (.int x))) t) : am_AtG tb Po X d mt pc L [am_I x] h r := by
  intro p l e R s m args below meth c0 H locs cells slots mc ms ls D cy A ad Q hC hX hP hD hS hL h1 h2 z1 z2 hQ
  exact am_mono (W.widen (k := mc) (n := ms) (by omega) (by omega) (W.zret (Qc := Po D cy A ad) (v := x) hC.1 hC.2.2.1 (hC.2.2.2.2.2.1.trans hr) hn (fun t ht hW => hP0 D cy A ad args s t hX (by rw [ht]; exact hP) hD (hS.F ht)) hS.2.2 hd hC.2.2.2.2.2.2.1)) hQ
/-- an exception is put away -/
theorem gm_astx_n {tb : am_Tb} {Po : am_Po} {X : am_X} {d : Nat} {mt : am_M} {pc : Nat} {L : List (Option am_V)} {st : List am_V} {h : am_H} {r : Nat × Nat} {q : Fin 4} {a : Addr} (hd : decode mt.2.1 pc = .ok (.astore_n q, 1)) (hi : (q : Nat) < L.length) (k : am_AtG tb Po X d mt (pc + 1) (L.set (q : Nat) (some (.inl (.ref a)))) st h r) : am_AtG tb Po X d mt pc L (.inl (.ref a) :: st) h r := by
  intro p l e R s m args below meth c H locs cells slots mc ms ls D cy A ad Q hC hX hP hD hS hL h1 h2 z1 z2 hQ
  exact lv_astore_n hC.1 hC.2.2.1 hd rfl hL.has (hL.lt hi) rfl (fun ls2 h9 => k p l e R s m args below meth c H locs cells slots mc ms ls2 D cy A ad Q hC hX hP hD hS (hL.set (a := .inl (.ref a)) rfl h9) h1 h2 z1 z2 hQ)
theorem gm_astx {tb : am_Tb} {Po : am_Po} {X : am_X} {d : Nat} {mt : am_M} {pc : Nat} {L : List (Option am_V)} {st : List am_V} {h : am_H} {r : Nat × Nat} {q : Nat} {a : Addr} (hd : decode mt.2.1 pc = .ok (.astore q, 2)) (hi : (q : Nat) < L.length) (k : am_AtG tb Po X d mt (pc + 2) (L.set (q : Nat) (some (.inl (.ref a)))) st h r) : am_AtG tb Po X d mt pc L (.inl (.ref a) :: st) h r := by
  intro p l e R s m args below meth c H locs cells slots mc ms ls D cy A ad Q hC hX hP hD hS hL h1 h2 z1 z2 hQ
  exact lv_astore hC.1 hC.2.2.1 hd hL.has (hL.lt hi) rfl (fun ls2 h9 => k p l e R s m args below meth c H locs cells slots mc ms ls2 D cy A ad Q hC hX hP hD hS (hL.set (a := .inl (.ref a)) rfl h9) h1 h2 z1 z2 hQ)
/-- what is known of the table for a throw of Ex at pc: it goes to hp -/
def am_Tk (own : String) (tb : am_Tb) (Ex : String) (pc hp : Nat) (N : State → Prop) : Prop := ∃ (pre : am_Tb) (x : Nat × Nat × Nat × Nat) (suf : am_Tb) (nm : String), tb = pre ++ x :: suf ∧ (Nat.ble x.1 pc && Nat.ble (pc + 1) x.2.1) = true ∧ x.2.2.1 = hp ∧ x.2.2.2 ≠ 0 ∧ Cond.classLink own x.2.2.2 nm ∈ am_ws ∧ Cond.castable Ex nm ∈ am_nw ∧
  ∀ z ∈ pre, z.2.2.2 ≠ 0 ∧ ∃ nm : String, Cond.classLink own z.2.2.2 nm ∈ am_ws ∧ ∀ s, N s → va_Nc Ex nm s
theorem gm_callVC {tb : am_Tb} {Po : am_Po} {X : am_X} {d : Nat} {mt : am_M} {pc : Nat} {L : List (Option am_V)} {st : List am_V} {h : am_H} {r r' : Nat × Nat} {idx c k n w nA d1 hp : Nat} {y : am_M} (as : List am_V) {stk : List am_V} {Ex : String} {h1 : am_H} {N : State → Prop} (hd : decode mt.2.1 pc = .ok (.invokevirtual idx, 3)) (hl : Cond.methodLink mt.1.cls idx y.1 ∈ am_ws) (g : am_vm y k nA) (hs : h.1[c]? = some (k, n, w)) (hn : as.length = nA) (hst : ∀ ad, ((st.map (am_cv ad)).map fun v => v.category).sum ≤ 8) (hd1 : d1 + 1 ≤ d) (hk : stk = as.reverse ++ .inr (c, 0) :: st) (E : am_Ev d1 y (.inr (c, 0) :: as) h (.inr (Ex, h1))) (hsh : h1.1 = h.1) (hN : ∀ ad A s, X ad A s → N s) (ht : am_Tk mt.1.cls tb Ex pc hp N) (hr1 : r'.1 + 1 ≤ r.1) (hr2 : r'.2 + 6 ≤ r.2) (hr3 : am_nc h ≤ r'.1) (hr4 : am_ns h ≤ r'.2)
    (kk : ∀ q : Addr, am_AtG tb Po X d mt hp L [.inl (.ref q)] h1 r') : am_AtG tb Po X d mt pc L stk h r := by
  intro p l e R s m args below meth c0 H locs cells slots mc ms ls D cy A ad Q hC hX hP hD hS hL h1' h2' z1 z2 hQ
  subst hk
  obtain ⟨hx, htr, hb, hml, hown, hr, hlk, hnm, hex, hts, hG, hA, hRc, hRs, hRf, hRl⟩ := id hC
  have n1 : am_nc h1 = am_nc h := by unfold am_nc; rw [hsh]
  have n2 : am_ns h1 = am_ns h := by unfold am_ns; rw [hsh]
  have e1 : am_rc (.inr (Ex, h1)) - am_nc h = 1 := by show am_nc h1 + 1 - am_nc h = 1; omega
  have e2 : am_rs (.inr (Ex, h1)) - am_ns h = 6 := by show am_ns h1 + 6 - am_ns h = 6; omega
  have hrc : cells + 1 ≤ mc := by omega
  have hrs : slots + 6 ≤ ms := by omega
  refine am_after (h := h) (r1 := (.inr (Ex, h1))) (vx_runV (As := as.map (am_cv ad)) (rest := st.map (am_cv ad)) (b := ad c 0) (C := g.2.2.2.choose.1) ⟨hx, hb, hml, hown, hts⟩ (E l htr D cy ad H.size) ⟨am_cb (d := d) hts g.1 hl hRf hRl hd1, hts _ g.2.1, by rw [g.2.2.2.choose_spec.2]; exact hts _ g.2.2.1⟩ ⟨am_blind, am_recv hP hG.1 hs g.2.2.2.choose_spec.1, am_pre (av := .ref (ad c 0) :: as.map (am_cv ad)) hP hD hA hS hG⟩ rfl (by simpa using hn) hL.1 (by simp [am_cv]) (lv_room (hst ad)) hd ⟨by rw [e1, hRc]; exact hrc, by rw [e2, hRs]; exact hrs⟩) (am_AB hD hA hS) hS ?_ ?_
  · intro E1 h9 ad1 H1 locs1 q9 ce z hag hP1 hD1 hS1 hce hcv hcl
    cases z
    rw [e1, e2]
    have had : ad1 = ad := hag.2.1 (by rw [hsh])
    subst had
    obtain ⟨pre, x, suf, nm, ht1, ht2, ht3, ht4, ht5, ht6, ht7⟩ := ht
    rw [ht1] at hex
    obtain ⟨l1, l2, hl12, hl1, hl2⟩ := List.map_eq_append_iff.mp hex
    obtain ⟨y1, l3, hl3, hy1, hl4⟩ := List.map_eq_cons_iff.mp hl2
    rw [hl3] at hl12
    subst hy1
    simp only at ht2 ht3 ht4 ht5
    rw [Bool.and_eq_true, Nat.ble_eq, Nat.ble_eq] at ht2
    refine vx_catch (own := mt.1.cls) (E := Ex) (ce := ce) hown l1 y1 l3 hl12 ?_ ?_ ht4 (hts _ ht5) (va_Nw.use rfl (hG.2.1 _ ht6)) hce hcv hcl ?_
    · intro z hz
      right
      have hm : (z.startPc, z.endPc, z.handlerPc, z.catchType) ∈ pre := by
        rw [← hl1]
        exact List.mem_map.mpr ⟨z, hz, rfl⟩
      obtain ⟨a1, nm1, a2, a3⟩ := ht7 _ hm
      exact ⟨a1, nm1, hts _ a2, a3 s (hN _ _ _ hX)⟩
    · unfold covers
      simp only [Bool.and_eq_true, decide_eq_true_eq]
      omega
    · rw [ht3]
      exact kk q9 p l e R s m args below meth c0 H1 locs1 (cells + 1) (slots + 6) mc ms ls D cy A ad1 Q hC hX hP1 hD1 hS1 hL (by omega) (by omega) (by omega) (by omega) hQ
  · intro v9 h9 ad1 H1 locs1 z
    cases z
