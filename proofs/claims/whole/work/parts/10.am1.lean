def am_rfs : List (List Bool) := [[true, true, true, false], [false, true, true, true, true, false, true, true, false, true, true, true, false, false], [true, true, false], [true, false, true, false, false, true, true], [true, true], [true, true, true, false, true, true, true, false], [true, true, true, true, true, false, true, false, false, false, false], [true, false, true, false], [true], [true, true, true, false, false, false, false], [true, false, false, false, false, false, false], [true, true, true, true, true, true, true, true, true, true, true, true, false, false, false], [false, false, false, false, false, false, false, false, false, true, true, true, true, true, true, true, true, true, true, false, false, true, true, true, true, true, true, true, false, true, true, true, true, true, false, false, false, false, false, false, false, false, true, true, true, true, false, true, false, false]]
def am_SN : Nat := 8
def am_Srefs : List (String × Nat × String × Nat) := [("LiddedRiver$Bed", 76, "board barge flow street fish smell", 0), ("LiddedRiver$Law", 61, "+-", 1), ("LiddedRiver$Law", 70, "*/%", 2), ("LiddedRiver$Law", 79, "(", 3), ("LiddedRiver$Law", 89, "hour day board clear bears drains fish fined least most", 4), ("LiddedRiver$Steps", 52, "lift shut leave hour again", 5), ("LiddedRiver", 401, "there is no such one", 6), ("LiddedRiver", 408, "out of its range", 7)]

/-! AN ABSTRACT MACHINE OVER THE KIT: abstract values (a number, or the cell and the row of a thing), an abstract heap (shapes, numbers, references), and the judgement am_At: from here the method comes to its end with this answer and this heap. -/
abbrev am_V : Type := Value ⊕ (Nat × Nat)
/-- shapes (kind, length, width), the numbers by cell, row and place, the references by cell and field -/
abbrev am_H : Type := List (Nat × Nat × Nat) × (Nat → Nat → Nat → Int32) × (Nat → Nat → Option Nat)
/-- returned (what, heap) or thrown (kind of throw, heap) -/
abbrev am_R : Type := (Option am_V × am_H) ⊕ (String × am_H)
/-- a method: name, bytes, locals, what it returns -/
abbrev am_M : Type := MethodName × ByteArray × Nat × Option FieldType
/-- what else is known at a method's start (the script, in the law's own body) -/
abbrev am_X : Type := (Nat → Nat → Nat) → (Nat → Prop) → State → Prop
def am_X0 : am_X := fun _ _ _ => True
def am_cv (ad : Nat → Nat → Nat) (v : am_V) : Value := match v with
  | .inl v => v
  | .inr q => .ref (ad q.1 q.2)
def am_rf (k f : Nat) : Bool := (am_rfs.getD k []).getD f false
def am_fv (ad : Nat → Nat → Nat) (h : am_H) (c k f : Nat) : Value := if am_rf k f = true then va_rf ((h.2.2 c f).map (fun t => ad t 0)) else .int (h.2.1 c 0 f)
/-- a long that is an int, kept where the references are: no method's function reads or writes it -/
def am_lg (o : Option Nat) : Int64 := match o with
  | none => 0
  | some n => (Int32.ofBitVec (BitVec.ofNat 32 n)).toInt64
def am_lc (x : Int32) : Option Nat := some x.toBitVec.toNat
theorem am_lgc (x : Int32) : am_lg (am_lc x) = x.toInt64 := by
  show (Int32.ofBitVec (BitVec.ofNat 32 x.toBitVec.toNat)).toInt64 = x.toInt64
  rw [BitVec.ofNat_toNat, BitVec.setWidth_eq, Int32.ofBitVec_toBitVec]
/-- what lies at a row of a cell -/
def am_e (cy : Nat → ClassId) (ad : Nat → Nat → Nat) (h : am_H) (c r k n w : Nat) : va_E :=
  if k < 13 then .inr (k, (List.range n).map (am_fv ad h c k))
  else if k = 100 then .inl (cy 0, n, .inl (h.2.1 c 0))
  else if k = 101 then .inl (cy 1, n, .inl (h.2.1 c 0))
  else if k = 102 then .inl (cy 2, n, .inr (.inl (fun j => am_lg (h.2.2 c j))))
  else if r = 0 then .inl (cy 3, n, .inr (.inr (.inr (.inr (fun i => some (ad c (i + 1)))))))
  else .inl (cy 0, w, .inl (h.2.1 c r))
def am_ok (h : am_H) (c r k n w : Nat) : Prop := h.1[c]? = some (k, n, w) ∧ (r = 0 ∨ (k = 103 ∧ r ≤ n))
def am_P (D : va_G) (cy : Nat → ClassId) (ad : Nat → Nat → Nat) (h : am_H) (H : Heap) : Prop := ∀ c r k n w, am_ok h c r k n w → va_at D vwCl (ad c r, am_e cy ad h c r k n w) H
def am_D (A : Nat → Prop) (ad : Nat → Nat → Nat) (h : am_H) : Prop := (∀ c r k n w c' r' k' n' w', am_ok h c r k n w → am_ok h c' r' k' n' w' → ad c r = ad c' r' → c = c' ∧ r = r') ∧ ∀ c r k n w, am_ok h c r k n w → A (ad c r)
/-- which cells may change: the world's, and new ones -/
def am_A (ad : Nat → Nat → Nat) (h : am_H) (sz : Nat) : Nat → Prop := fun q => (∃ c r k n w, am_ok h c r k n w ∧ q = ad c r) ∨ sz ≤ q
def am_ag (h h' : am_H) (ad ad' : Nat → Nat → Nat) : Prop := h.1.length ≤ h'.1.length ∧ (h'.1.length = h.1.length → ad' = ad) ∧ ∀ c r, (c < h.1.length ∨ 1000 ≤ c) → ad' c r = ad c r
def am_ws : List Cond := lw_tbl.filter goodWord
def am_isn (w : Cond) : Bool := match w with
  | .fieldLinkNest .. => true
  | .methodLinkNest .. => true
  | .castable .. => true
  | .declares .. => true
  | .arrayOver .. => true
  | _ => false
def am_nw : List Cond := lw_tbl.filter am_isn
abbrev am_tys (cy : Nat → ClassId) : List (ClassId × FieldType) := [(cy 0, .int), (cy 1, .byte), (cy 2, .long), (cy 3, .array .int)]
/-- the String constants: their addresses are ad (1000 + k) 0, their bytes' ad (2000 + k) 0 -/
def am_GS (ad : Nat → Nat → Nat) (A : Nat → Prop) (U : State) : Prop :=
  vk_S am_SN am_Slen am_Sbyt (fun k => ad (1000 + k) 0) (fun k => ad (2000 + k) 0) A U U.heap ∧ (∀ q ∈ am_Srefs, vk_R q.1 q.2.1 q.2.2.1 (ad (1000 + q.2.2.2) 0) U) ∧
  va_Z "java/lang/String" "COMPACT_STRINGS" "Z" (.int 1) A U U.heap ∧ va_Zq "jdk/internal/util/Preconditions" "SIOOBE_FORMATTER" "Ljava/util/function/BiFunction;" A U U.heap
/-- what is known of the tables and of old cells -/
def am_G (D : va_G) (cy : Nat → ClassId) (ad : Nat → Nat → Nat) (A : Nat → Prop) (U : State) : Prop :=
  va_K D vwCl (am_tys cy) U ∧ (∀ w ∈ am_nw, va_Nw w U) ∧ vx_Zq Bundle.tN "UNASSIGNED_STACK" Bundle.steD A U U.heap ∧ vx_Zq Bundle.tN "SUPPRESSED_SENTINEL" Bundle.listD A U U.heap ∧
  am_GS ad A U
/-- cells and slots of a shape -/
def am_c1 (q : Nat × Nat × Nat) : Nat := if q.1 = 103 then 1 + q.2.1 else 1
def am_s1 (q : Nat × Nat × Nat) : Nat := if q.1 = 103 then q.2.1 + q.2.1 * q.2.2 else q.2.1
def am_nc (h : am_H) : Nat := (h.1.map am_c1).sum
def am_ns (h : am_H) : Nat := (h.1.map am_s1).sum
def am_rc (r : am_R) : Nat := match r with
  | .inl q => am_nc q.2
  | .inr q => am_nc q.2 + 1
def am_rs (r : am_R) : Nat := match r with
  | .inl q => am_ns q.2
  | .inr q => am_ns q.2 + 6
def am_L (ad : Nat → Nat → Nat) (ls : Array Slot) (nL : Nat) (L : List (Option am_V)) : Prop := ls.size = nL ∧ lv_wf ls ∧ L.length = nL ∧ ∀ (k : Nat) (v : am_V), L[k]? = some (some v) → ls[k]? = some (.val (am_cv ad v)) ∧ (am_cv ad v).category = 1
def am_Qc (r : am_R) (D : va_G) (cy : Nat → ClassId) (A : Nat → Prop) (ad : Nat → Nat → Nat) (h : am_H) : Array Value → State → Outcome → State → Prop := fun _ st o t =>
  (∃ (v : Option am_V) (h' : am_H) (ad' : Nat → Nat → Nat), r = .inl (v, h') ∧ o = .returned (v.map (am_cv ad')) ∧ am_ag h h' ad ad' ∧ am_P D cy ad' h' t.heap ∧ am_D A ad' h') ∧ va_F A st t
def am_XC (r : am_R) (D : va_G) (cy : Nat → ClassId) (A : Nat → Prop) (ad : Nat → Nat → Nat) (h : am_H) : String → State → State → Prop := fun E st t =>
  (∃ (h' : am_H) (ad' : Nat → Nat → Nat), r = .inr (E, h') ∧ am_ag h h' ad ad' ∧ am_P D cy ad' h' t.heap ∧ am_D A ad' h') ∧ va_F A st t
def am_Cx (d : Nat) (mt : am_M) (p : Program) (l : Launch) (R : Room) (s : State) (m : MethodId) (args : Array Value) (meth : Method) (c : Code) (D : va_G) (cy : Nat → ClassId) (ad : Nat → Nat → Nat) (A : Nat → Prop) (mc ms : Nat) : Prop :=
  p.tables.exec = Jvm.exec ∧ l.stackTraces = false ∧ c.code = mt.2.1 ∧ c.maxLocals = mt.2.2.1 ∧ s.vm.findClass mt.1.cls = some m.cls ∧ meth.sig.returnType = mt.2.2.2 ∧ meth.locks = false ∧ meth.name = mt.1.name ∧
  (∀ x ∈ c.exceptionTable.toList, False) ∧ (∀ w ∈ am_ws, w.before args s = true) ∧ am_G D cy ad A s ∧ (∀ q, s.heap.size ≤ q → A q) ∧ R.cells = mc ∧ R.slots = ms ∧ d + 8 ≤ R.frames ∧ 64 * d + 256 ≤ R.locals
/-- FROM HERE THE METHOD COMES TO ITS END: at pc, with locals L, operands st (the top first), heap h, it ends as r says -/
def am_At (X : am_X) (d : Nat) (mt : am_M) (pc : Nat) (L : List (Option am_V)) (st : List am_V) (h : am_H) (r : am_R) : Prop :=
  ∀ (p : Program) (l : Launch) (e : Env) (R : Room) (s : State) (m : MethodId) (args : Array Value) (below : List Frame) (meth : Method) (c : Code) (H : Heap) (locs : List Loc) (cells slots mc ms : Nat) (ls : Array Slot) (D : va_G) (cy : Nat → ClassId) (A : Nat → Prop) (ad : Nat → Nat → Nat) (Q : State → Prop),
    am_Cx d mt p l R s m args meth c D cy ad A mc ms → X ad A s → am_P D cy ad h H → am_D A ad h → va_S A s.heap H locs → am_L ad ls mt.2.2.1 L →
    cells + am_rc r ≤ mc + am_nc h → slots + am_rs r ≤ ms + am_ns h → am_nc h ≤ am_rc r → am_ns h ≤ am_rs r →
    (∀ t, vx_MQ below (am_Qc r D cy A ad h) (am_XC r D cy A ad h) args s mc ms A t → Q t) →
    W p l e R s m args below meth c H locs cells slots Q (F0 m pc ls (st.map (am_cv ad)))
/-- .. and the whole method, called with as in heap h -/
def am_Ev (d : Nat) (mt : am_M) (as : List am_V) (h : am_H) (r : am_R) : Prop :=
  ∀ (l : Launch), l.stackTraces = false → ∀ (D : va_G) (cy : Nat → ClassId) (ad : Nat → Nat → Nat) (sz : Nat),
    vx_Met l mt.1 (Cond.code mt.1 mt.2.1 mt.2.2.1 mt.2.2.2 :: am_ws) { frames := d + 8, cells := am_rc r - am_nc h, slots := am_rs r - am_ns h, locals := 64 * d + 256 }
      (va_Pc (as.map (am_cv ad)) (fun U => U.heap.size = sz ∧ am_P D cy ad h U.heap ∧ am_D (fun _ => True) ad h ∧ am_G D cy ad (am_A ad h sz) U))
      (am_Qc r D cy (am_A ad h sz) ad h) (am_XC r D cy (am_A ad h sz) ad h) (am_rc r - am_nc h) (am_rs r - am_ns h) (am_A ad h sz)
def am_um (h : am_H) (c r j : Nat) (v : Int32) : am_H := (h.1, am_u3 h.2.1 c r j v, h.2.2)
def am_ur (h : am_H) (c f : Nat) (t : Option Nat) : am_H := (h.1, h.2.1, fun c' f' => if c' = c ∧ f' = f then t else h.2.2 c' f')
/-- numbers on the stack -/
abbrev am_I (x : Int32) : am_V := .inl (.int x)
theorem am_ag.rf {h h' : am_H} {ad : Nat → Nat → Nat} (e : h'.1.length = h.1.length) : am_ag h h' ad ad := ⟨Nat.le_of_eq e.symm, fun _ => rfl, fun _ _ _ => rfl⟩
theorem am_ag.tr {h h1 h2 : am_H} {ad ad1 ad2 : Nat → Nat → Nat} (a : am_ag h h1 ad ad1) (b : am_ag h1 h2 ad1 ad2) : am_ag h h2 ad ad2 := by
  refine ⟨Nat.le_trans a.1 b.1, fun e => ?_, fun c r q => ?_⟩
  · have e1 : h1.1.length = h.1.length := Nat.le_antisymm (by rw [← e]; exact b.1) a.1
    rw [b.2.1 (by rw [e, e1]), a.2.1 e1]
  · rw [b.2.2 c r (by rcases q with q | q; exact Or.inl (Nat.lt_of_lt_of_le q a.1); exact Or.inr q), a.2.2 c r q]
theorem am_MQ {below : List Frame} {args : Array Value} {s t : State} {mc ms : Nat} {r : am_R} {D : va_G} {cy : Nat → ClassId} {A : Nat → Prop} {ad ad1 : Nat → Nat → Nat} {h h1 : am_H} (a : am_ag h h1 ad ad1) (z : vx_MQ below (am_Qc r D cy A ad1 h1) (am_XC r D cy A ad1 h1) args s mc ms A t) : vx_MQ below (am_Qc r D cy A ad h) (am_XC r D cy A ad h) args s mc ms A t := by
  obtain ⟨o, b1, b2, b3⟩ := z
  refine ⟨o, b1, b2, ?_⟩
  rcases b3 with ⟨⟨⟨v, h', ad', e1, e2, e3, e4⟩, e5⟩, b4⟩ | ⟨q, e0, E, ce, Lx, ⟨⟨h', ad', e1, e3, e4⟩, e5⟩, b4⟩
  · exact Or.inl ⟨⟨⟨v, h', ad', e1, e2, a.tr e3, e4⟩, e5⟩, b4⟩
  · exact Or.inr ⟨q, e0, E, ce, Lx, ⟨⟨h', ad', e1, a.tr e3, e4⟩, e5⟩, b4⟩
theorem am_ok.sh {h h' : am_H} (e : h'.1 = h.1) {c r k n w : Nat} (q : am_ok h' c r k n w) : am_ok h c r k n w := by
  unfold am_ok at q ⊢
  rw [e] at q
  exact q
theorem am_D.sh {A : Nat → Prop} {ad : Nat → Nat → Nat} {h h' : am_H} (e : h'.1 = h.1) (q : am_D A ad h) : am_D A ad h' :=
  ⟨fun c r k n w c' r' k' n' w' a b => q.1 c r k n w c' r' k' n' w' (a.sh e) (b.sh e), fun c r k n w a => q.2 c r k n w (a.sh e)⟩
theorem am_P.set {D : va_G} {cy : Nat → ClassId} {ad : Nat → Nat → Nat} {A : Nat → Prop} {h h' : am_H} {H H1 : Heap} {c r k n w : Nat} (hP : am_P D cy ad h H) (hD : am_D A ad h) (ho : am_ok h c r k n w) (e : h'.1 = h.1)
    (hel : ∀ c' r' k' n' w', am_ok h c' r' k' n' w' → ¬ (c' = c ∧ r' = r) → am_e cy ad h' c' r' k' n' w' = am_e cy ad h c' r' k' n' w') (hn : va_at D vwCl (ad c r, am_e cy ad h' c r k n w) H1) (oq : ∀ q, q ≠ ad c r → H1[q]? = H[q]?) : am_P D cy ad h' H1 := by
  intro c' r' k' n' w' q
  have q' := q.sh e
  by_cases hc : c' = c ∧ r' = r
  · obtain ⟨rfl, rfl⟩ := hc
    have e2 : some (k', n', w') = some (k, n, w) := q'.1.symm.trans ho.1
    cases e2
    exact hn
  · rw [hel c' r' k' n' w' q' hc]
    exact (hP c' r' k' n' w' q').kept (oq _ (fun z => hc (hD.1 _ _ _ _ _ _ _ _ _ _ q' ho z)))
/-- the numbers of other rows stay -/
theorem am_e.um {cy : Nat → ClassId} {ad : Nat → Nat → Nat} {h : am_H} {c r j : Nat} {v : Int32} {c' r' k' n' w' : Nat} (q : am_ok h c' r' k' n' w') (hc : ¬ (c' = c ∧ r' = r)) : am_e cy ad (am_um h c r j v) c' r' k' n' w' = am_e cy ad h c' r' k' n' w' := by
  have key : ∀ r'', (r'' = r' ∨ r'' = 0 ∧ r' = 0) → am_u3 h.2.1 c r j v c' r'' = h.2.1 c' r'' := by
    intro r'' e
    have e : r'' = r' := by omega
    subst e
    funext j'
    unfold am_u3
    rw [if_neg (fun z => hc ⟨z.1, z.2.1⟩)]
  unfold am_e am_um
  by_cases h1 : k' < 13
  · have e0 : r' = 0 := by rcases q.2 with z | z <;> omega
    have k0 := key 0 (Or.inr ⟨rfl, e0⟩)
    simp only [h1, if_true]
    refine congrArg (fun z => Sum.inr (k', z)) (List.map_congr_left fun f _ => ?_)
    unfold am_fv
    simp only [k0]
  · simp only [h1, if_false]
    by_cases h2 : r' = 0
    · have k0 := key 0 (Or.inr ⟨rfl, h2⟩)
      simp only [k0, h2, if_true]
    · have h3 : k' = 103 := by rcases q.2 with z | z; exact absurd z h2; exact z.1
      have k0 := key r' (Or.inl rfl)
      subst h3
      simp [h2, k0]
theorem am_iadd {X : am_X} {d : Nat} {mt : am_M} {pc : Nat} {L : List (Option am_V)} {st : List am_V} {h : am_H} {r : am_R} {x y : Int32} (hd : decode mt.2.1 pc = .ok (.iadd, 1)) (k : am_At X d mt (pc + 1) L (am_I (x + y) :: st) h r) : am_At X d mt pc L (am_I y :: am_I x :: st) h r := by
  intro p l e R s m args below meth c H locs cells slots mc ms ls D cy A ad Q hC hX hP hD hS hL h1 h2 z1 z2 hQ
  exact lv_iadd hC.1 hC.2.2.1 hd (k p l e R s m args below meth c H locs cells slots mc ms ls D cy A ad Q hC hX hP hD hS hL h1 h2 z1 z2 hQ)
theorem am_isub {X : am_X} {d : Nat} {mt : am_M} {pc : Nat} {L : List (Option am_V)} {st : List am_V} {h : am_H} {r : am_R} {x y : Int32} (hd : decode mt.2.1 pc = .ok (.isub, 1)) (k : am_At X d mt (pc + 1) L (am_I (x - y) :: st) h r) : am_At X d mt pc L (am_I y :: am_I x :: st) h r := by
  intro p l e R s m args below meth c H locs cells slots mc ms ls D cy A ad Q hC hX hP hD hS hL h1 h2 z1 z2 hQ
  exact lv_isub hC.1 hC.2.2.1 hd (k p l e R s m args below meth c H locs cells slots mc ms ls D cy A ad Q hC hX hP hD hS hL h1 h2 z1 z2 hQ)
theorem am_imul {X : am_X} {d : Nat} {mt : am_M} {pc : Nat} {L : List (Option am_V)} {st : List am_V} {h : am_H} {r : am_R} {x y : Int32} (hd : decode mt.2.1 pc = .ok (.imul, 1)) (k : am_At X d mt (pc + 1) L (am_I (x * y) :: st) h r) : am_At X d mt pc L (am_I y :: am_I x :: st) h r := by
  intro p l e R s m args below meth c H locs cells slots mc ms ls D cy A ad Q hC hX hP hD hS hL h1 h2 z1 z2 hQ
  exact lv_imul hC.1 hC.2.2.1 hd (k p l e R s m args below meth c H locs cells slots mc ms ls D cy A ad Q hC hX hP hD hS hL h1 h2 z1 z2 hQ)
theorem am_iand {X : am_X} {d : Nat} {mt : am_M} {pc : Nat} {L : List (Option am_V)} {st : List am_V} {h : am_H} {r : am_R} {x y : Int32} (hd : decode mt.2.1 pc = .ok (.iand, 1)) (k : am_At X d mt (pc + 1) L (am_I (x &&& y) :: st) h r) : am_At X d mt pc L (am_I y :: am_I x :: st) h r := by
  intro p l e R s m args below meth c H locs cells slots mc ms ls D cy A ad Q hC hX hP hD hS hL h1 h2 z1 z2 hQ
  exact lv_iand hC.1 hC.2.2.1 hd (k p l e R s m args below meth c H locs cells slots mc ms ls D cy A ad Q hC hX hP hD hS hL h1 h2 z1 z2 hQ)
theorem am_ior {X : am_X} {d : Nat} {mt : am_M} {pc : Nat} {L : List (Option am_V)} {st : List am_V} {h : am_H} {r : am_R} {x y : Int32} (hd : decode mt.2.1 pc = .ok (.ior, 1)) (k : am_At X d mt (pc + 1) L (am_I (x ||| y) :: st) h r) : am_At X d mt pc L (am_I y :: am_I x :: st) h r := by
  intro p l e R s m args below meth c H locs cells slots mc ms ls D cy A ad Q hC hX hP hD hS hL h1 h2 z1 z2 hQ
  exact lv_ior hC.1 hC.2.2.1 hd (k p l e R s m args below meth c H locs cells slots mc ms ls D cy A ad Q hC hX hP hD hS hL h1 h2 z1 z2 hQ)
theorem am_ixor {X : am_X} {d : Nat} {mt : am_M} {pc : Nat} {L : List (Option am_V)} {st : List am_V} {h : am_H} {r : am_R} {x y : Int32} (hd : decode mt.2.1 pc = .ok (.ixor, 1)) (k : am_At X d mt (pc + 1) L (am_I (x ^^^ y) :: st) h r) : am_At X d mt pc L (am_I y :: am_I x :: st) h r := by
  intro p l e R s m args below meth c H locs cells slots mc ms ls D cy A ad Q hC hX hP hD hS hL h1 h2 z1 z2 hQ
  exact lv_ixor hC.1 hC.2.2.1 hd (k p l e R s m args below meth c H locs cells slots mc ms ls D cy A ad Q hC hX hP hD hS hL h1 h2 z1 z2 hQ)
theorem am_ishl {X : am_X} {d : Nat} {mt : am_M} {pc : Nat} {L : List (Option am_V)} {st : List am_V} {h : am_H} {r : am_R} {x y : Int32} (hd : decode mt.2.1 pc = .ok (.ishl, 1)) (k : am_At X d mt (pc + 1) L (am_I (x <<< (y &&& 31)) :: st) h r) : am_At X d mt pc L (am_I y :: am_I x :: st) h r := by
  intro p l e R s m args below meth c H locs cells slots mc ms ls D cy A ad Q hC hX hP hD hS hL h1 h2 z1 z2 hQ
  exact lv_ishl hC.1 hC.2.2.1 hd (k p l e R s m args below meth c H locs cells slots mc ms ls D cy A ad Q hC hX hP hD hS hL h1 h2 z1 z2 hQ)
theorem am_ishr {X : am_X} {d : Nat} {mt : am_M} {pc : Nat} {L : List (Option am_V)} {st : List am_V} {h : am_H} {r : am_R} {x y : Int32} (hd : decode mt.2.1 pc = .ok (.ishr, 1)) (k : am_At X d mt (pc + 1) L (am_I (x >>> (y &&& 31)) :: st) h r) : am_At X d mt pc L (am_I y :: am_I x :: st) h r := by
  intro p l e R s m args below meth c H locs cells slots mc ms ls D cy A ad Q hC hX hP hD hS hL h1 h2 z1 z2 hQ
  exact lv_ishr hC.1 hC.2.2.1 hd (k p l e R s m args below meth c H locs cells slots mc ms ls D cy A ad Q hC hX hP hD hS hL h1 h2 z1 z2 hQ)
theorem am_idiv {X : am_X} {d : Nat} {mt : am_M} {pc : Nat} {L : List (Option am_V)} {st : List am_V} {h : am_H} {r : am_R} {x y : Int32} (hd : decode mt.2.1 pc = .ok (.idiv, 1)) (hn : ¬ y = 0) (k : am_At X d mt (pc + 1) L (am_I (x / y) :: st) h r) : am_At X d mt pc L (am_I y :: am_I x :: st) h r := by
  intro p l e R s m args below meth c H locs cells slots mc ms ls D cy A ad Q hC hX hP hD hS hL h1 h2 z1 z2 hQ
  exact lv_idiv hC.1 hC.2.2.1 hd hn (k p l e R s m args below meth c H locs cells slots mc ms ls D cy A ad Q hC hX hP hD hS hL h1 h2 z1 z2 hQ)
theorem am_irem {X : am_X} {d : Nat} {mt : am_M} {pc : Nat} {L : List (Option am_V)} {st : List am_V} {h : am_H} {r : am_R} {x y : Int32} (hd : decode mt.2.1 pc = .ok (.irem, 1)) (hn : ¬ y = 0) (k : am_At X d mt (pc + 1) L (am_I (x - x / y * y) :: st) h r) : am_At X d mt pc L (am_I y :: am_I x :: st) h r := by
  intro p l e R s m args below meth c H locs cells slots mc ms ls D cy A ad Q hC hX hP hD hS hL h1 h2 z1 z2 hQ
  exact lv_irem hC.1 hC.2.2.1 hd hn (k p l e R s m args below meth c H locs cells slots mc ms ls D cy A ad Q hC hX hP hD hS hL h1 h2 z1 z2 hQ)
theorem am_iushr {X : am_X} {d : Nat} {mt : am_M} {pc : Nat} {L : List (Option am_V)} {st : List am_V} {h : am_H} {r : am_R} {x y : Int32} (hd : decode mt.2.1 pc = .ok (.iushr, 1)) (k : am_At X d mt (pc + 1) L (am_I ((x.toUInt32 >>> (y.toUInt32 &&& Int32.toUInt32 31)).toInt32) :: st) h r) : am_At X d mt pc L (am_I y :: am_I x :: st) h r := by
  intro p l e R s m args below meth c H locs cells slots mc ms ls D cy A ad Q hC hX hP hD hS hL h1 h2 z1 z2 hQ
  exact lv_iushr hC.1 hC.2.2.1 hd rfl (k p l e R s m args below meth c H locs cells slots mc ms ls D cy A ad Q hC hX hP hD hS hL h1 h2 z1 z2 hQ)
theorem am_ineg {X : am_X} {d : Nat} {mt : am_M} {pc : Nat} {L : List (Option am_V)} {st : List am_V} {h : am_H} {r : am_R} {x : Int32} (hd : decode mt.2.1 pc = .ok (.ineg, 1)) (k : am_At X d mt (pc + 1) L (am_I (-x) :: st) h r) : am_At X d mt pc L (am_I x :: st) h r := by
  intro p l e R s m args below meth c H locs cells slots mc ms ls D cy A ad Q hC hX hP hD hS hL h1 h2 z1 z2 hQ
  exact lv_ineg hC.1 hC.2.2.1 hd (k p l e R s m args below meth c H locs cells slots mc ms ls D cy A ad Q hC hX hP hD hS hL h1 h2 z1 z2 hQ)
theorem am_i2b {X : am_X} {d : Nat} {mt : am_M} {pc : Nat} {L : List (Option am_V)} {st : List am_V} {h : am_H} {r : am_R} {x : Int32} (hd : decode mt.2.1 pc = .ok (.i2b, 1)) (k : am_At X d mt (pc + 1) L (am_I (x.toInt8.toInt32) :: st) h r) : am_At X d mt pc L (am_I x :: st) h r := by
  intro p l e R s m args below meth c H locs cells slots mc ms ls D cy A ad Q hC hX hP hD hS hL h1 h2 z1 z2 hQ
  exact lv_i2b hC.1 hC.2.2.1 hd rfl (k p l e R s m args below meth c H locs cells slots mc ms ls D cy A ad Q hC hX hP hD hS hL h1 h2 z1 z2 hQ)
theorem am_i2l {X : am_X} {d : Nat} {mt : am_M} {pc : Nat} {L : List (Option am_V)} {st : List am_V} {h : am_H} {r : am_R} {x : Int32} (hd : decode mt.2.1 pc = .ok (.i2l, 1)) (k : am_At X d mt (pc + 1) L (.inl (.long x.toInt64) :: st) h r) : am_At X d mt pc L (am_I x :: st) h r := by
  intro p l e R s m args below meth c H locs cells slots mc ms ls D cy A ad Q hC hX hP hD hS hL h1 h2 z1 z2 hQ
  exact lv_i2l hC.1 hC.2.2.1 hd rfl (k p l e R s m args below meth c H locs cells slots mc ms ls D cy A ad Q hC hX hP hD hS hL h1 h2 z1 z2 hQ)
theorem am_iconst {X : am_X} {d : Nat} {mt : am_M} {pc : Nat} {L : List (Option am_V)} {st : List am_V} {h : am_H} {r : am_R} (n : Int) {v : Int32} (hd : decode mt.2.1 pc = .ok (.iconst n, 1)) (hv : Int32.ofInt n = v) (k : am_At X d mt (pc + 1) L (am_I v :: st) h r) : am_At X d mt pc L st h r := by
  intro p l e R s m args below meth c H locs cells slots mc ms ls D cy A ad Q hC hX hP hD hS hL h1 h2 z1 z2 hQ
  exact lv_iconst hC.1 hC.2.2.1 hd hv (k p l e R s m args below meth c H locs cells slots mc ms ls D cy A ad Q hC hX hP hD hS hL h1 h2 z1 z2 hQ)
theorem am_bipush {X : am_X} {d : Nat} {mt : am_M} {pc : Nat} {L : List (Option am_V)} {st : List am_V} {h : am_H} {r : am_R} (n : Int) {v : Int32} (hd : decode mt.2.1 pc = .ok (.bipush n, 2)) (hv : (Int8.ofInt n).toInt32 = v) (k : am_At X d mt (pc + 2) L (am_I v :: st) h r) : am_At X d mt pc L st h r := by
  intro p l e R s m args below meth c H locs cells slots mc ms ls D cy A ad Q hC hX hP hD hS hL h1 h2 z1 z2 hQ
  exact lv_bipush hC.1 hC.2.2.1 hd hv (k p l e R s m args below meth c H locs cells slots mc ms ls D cy A ad Q hC hX hP hD hS hL h1 h2 z1 z2 hQ)
theorem am_sipush {X : am_X} {d : Nat} {mt : am_M} {pc : Nat} {L : List (Option am_V)} {st : List am_V} {h : am_H} {r : am_R} (n : Int) {v : Int32} (hd : decode mt.2.1 pc = .ok (.sipush n, 3)) (hv : (Int16.ofInt n).toInt32 = v) (k : am_At X d mt (pc + 3) L (am_I v :: st) h r) : am_At X d mt pc L st h r := by
  intro p l e R s m args below meth c H locs cells slots mc ms ls D cy A ad Q hC hX hP hD hS hL h1 h2 z1 z2 hQ
  exact lv_sipush hC.1 hC.2.2.1 hd hv (k p l e R s m args below meth c H locs cells slots mc ms ls D cy A ad Q hC hX hP hD hS hL h1 h2 z1 z2 hQ)
theorem am_lconst {X : am_X} {d : Nat} {mt : am_M} {pc : Nat} {L : List (Option am_V)} {st : List am_V} {h : am_H} {r : am_R} {n : Fin 2} {v : Int64} (hd : decode mt.2.1 pc = .ok (.lconst n, 1)) (hv : Int64.ofNat (n : Nat) = v) (k : am_At X d mt (pc + 1) L (.inl (.long v) :: st) h r) : am_At X d mt pc L st h r := by
  intro p l e R s m args below meth c H locs cells slots mc ms ls D cy A ad Q hC hX hP hD hS hL h1 h2 z1 z2 hQ
  exact lv_lconst hC.1 hC.2.2.1 hd hv (k p l e R s m args below meth c H locs cells slots mc ms ls D cy A ad Q hC hX hP hD hS hL h1 h2 z1 z2 hQ)
theorem am_iload_n {X : am_X} {d : Nat} {mt : am_M} {pc : Nat} {L : List (Option am_V)} {st : List am_V} {h : am_H} {r : am_R} {q : Fin 4} {x : Int32} (hd : decode mt.2.1 pc = .ok (.iload_n q, 1)) (hl : L[(q : Nat)]? = some (some (am_I x))) (k : am_At X d mt (pc + 1) L (am_I x :: st) h r) : am_At X d mt pc L st h r := by
  intro p l e R s m args below meth c H locs cells slots mc ms ls D cy A ad Q hC hX hP hD hS hL h1 h2 z1 z2 hQ
  exact lv_iload_n hC.1 hC.2.2.1 hd rfl (hL.2.2.2 _ _ hl).1 (k p l e R s m args below meth c H locs cells slots mc ms ls D cy A ad Q hC hX hP hD hS hL h1 h2 z1 z2 hQ)
theorem am_iload {X : am_X} {d : Nat} {mt : am_M} {pc : Nat} {L : List (Option am_V)} {st : List am_V} {h : am_H} {r : am_R} {q : Nat} {x : Int32} (hd : decode mt.2.1 pc = .ok (.iload q, 2)) (hl : L[(q : Nat)]? = some (some (am_I x))) (k : am_At X d mt (pc + 2) L (am_I x :: st) h r) : am_At X d mt pc L st h r := by
  intro p l e R s m args below meth c H locs cells slots mc ms ls D cy A ad Q hC hX hP hD hS hL h1 h2 z1 z2 hQ
  exact lv_iload hC.1 hC.2.2.1 hd (hL.2.2.2 _ _ hl).1 (k p l e R s m args below meth c H locs cells slots mc ms ls D cy A ad Q hC hX hP hD hS hL h1 h2 z1 z2 hQ)
theorem am_aload_n {X : am_X} {d : Nat} {mt : am_M} {pc : Nat} {L : List (Option am_V)} {st : List am_V} {h : am_H} {r : am_R} {q : Fin 4} {a : Nat × Nat} (hd : decode mt.2.1 pc = .ok (.aload_n q, 1)) (hl : L[(q : Nat)]? = some (some (.inr a))) (k : am_At X d mt (pc + 1) L (.inr a :: st) h r) : am_At X d mt pc L st h r := by
  intro p l e R s m args below meth c H locs cells slots mc ms ls D cy A ad Q hC hX hP hD hS hL h1 h2 z1 z2 hQ
  exact lv_aload_n hC.1 hC.2.2.1 hd rfl (hL.2.2.2 _ _ hl).1 (k p l e R s m args below meth c H locs cells slots mc ms ls D cy A ad Q hC hX hP hD hS hL h1 h2 z1 z2 hQ)
theorem am_aload {X : am_X} {d : Nat} {mt : am_M} {pc : Nat} {L : List (Option am_V)} {st : List am_V} {h : am_H} {r : am_R} {q : Nat} {a : Nat × Nat} (hd : decode mt.2.1 pc = .ok (.aload q, 2)) (hl : L[(q : Nat)]? = some (some (.inr a))) (k : am_At X d mt (pc + 2) L (.inr a :: st) h r) : am_At X d mt pc L st h r := by
  intro p l e R s m args below meth c H locs cells slots mc ms ls D cy A ad Q hC hX hP hD hS hL h1 h2 z1 z2 hQ
  exact lv_aload hC.1 hC.2.2.1 hd (hL.2.2.2 _ _ hl).1 (k p l e R s m args below meth c H locs cells slots mc ms ls D cy A ad Q hC hX hP hD hS hL h1 h2 z1 z2 hQ)
theorem am_dup {X : am_X} {d : Nat} {mt : am_M} {pc : Nat} {L : List (Option am_V)} {st : List am_V} {h : am_H} {r : am_R} {a : am_V} (hd : decode mt.2.1 pc = .ok (.dup, 1)) (ha : ∀ ad, (am_cv ad a).category = 1) (k : am_At X d mt (pc + 1) L (a :: a :: st) h r) : am_At X d mt pc L (a :: st) h r := by
  intro p l e R s m args below meth c H locs cells slots mc ms ls D cy A ad Q hC hX hP hD hS hL h1 h2 z1 z2 hQ
  exact lv_dup hC.1 hC.2.2.1 hd (ha ad) (k p l e R s m args below meth c H locs cells slots mc ms ls D cy A ad Q hC hX hP hD hS hL h1 h2 z1 z2 hQ)
theorem am_pop {X : am_X} {d : Nat} {mt : am_M} {pc : Nat} {L : List (Option am_V)} {st : List am_V} {h : am_H} {r : am_R} {a : am_V} (hd : decode mt.2.1 pc = .ok (.pop, 1)) (ha : ∀ ad, (am_cv ad a).category = 1) (k : am_At X d mt (pc + 1) L st h r) : am_At X d mt pc L (a :: st) h r := by
  intro p l e R s m args below meth c H locs cells slots mc ms ls D cy A ad Q hC hX hP hD hS hL h1 h2 z1 z2 hQ
  exact lv_pop hC.1 hC.2.2.1 hd (ha ad) (k p l e R s m args below meth c H locs cells slots mc ms ls D cy A ad Q hC hX hP hD hS hL h1 h2 z1 z2 hQ)
theorem am_dup2 {X : am_X} {d : Nat} {mt : am_M} {pc : Nat} {L : List (Option am_V)} {st : List am_V} {h : am_H} {r : am_R} {a b : am_V} (hd : decode mt.2.1 pc = .ok (.dup2, 1)) (ha : ∀ ad, (am_cv ad a).category = 1) (hb : ∀ ad, (am_cv ad b).category = 1) (k : am_At X d mt (pc + 1) L (a :: b :: a :: b :: st) h r) : am_At X d mt pc L (a :: b :: st) h r := by
  intro p l e R s m args below meth c H locs cells slots mc ms ls D cy A ad Q hC hX hP hD hS hL h1 h2 z1 z2 hQ
  exact lv_dup2_11 hC.1 hC.2.2.1 hd (ha ad) (hb ad) (k p l e R s m args below meth c H locs cells slots mc ms ls D cy A ad Q hC hX hP hD hS hL h1 h2 z1 z2 hQ)
theorem am_goto {X : am_X} {d : Nat} {mt : am_M} {pc : Nat} {L : List (Option am_V)} {st : List am_V} {h : am_H} {r : am_R} (off : Int) (tgt : Nat) (hd : decode mt.2.1 pc = .ok (.goto off, 3)) (ht : (pc : Int) + off = (tgt : Int)) (k : am_At X d mt tgt L st h r) : am_At X d mt pc L st h r := by
  intro p l e R s m args below meth c H locs cells slots mc ms ls D cy A ad Q hC hX hP hD hS hL h1 h2 z1 z2 hQ
  exact lv_goto hC.1 hC.2.2.1 hd ht (k p l e R s m args below meth c H locs cells slots mc ms ls D cy A ad Q hC hX hP hD hS hL h1 h2 z1 z2 hQ)
theorem am_icmp_eq {X : am_X} {d : Nat} {mt : am_M} {pc : Nat} {L : List (Option am_V)} {st : List am_V} {h : am_H} {r : am_R} {x y : Int32} (off : Int) (tgt : Nat) (hd : decode mt.2.1 pc = .ok (.if_icmp .eq off, 3)) (ht : (pc : Int) + off = (tgt : Int)) (kt : (x = y) → am_At X d mt tgt L st h r) (kf : ¬ (x = y) → am_At X d mt (pc + 3) L st h r) : am_At X d mt pc L (am_I y :: am_I x :: st) h r := by
  intro p l e R s m args below meth c H locs cells slots mc ms ls D cy A ad Q hC hX hP hD hS hL h1 h2 z1 z2 hQ
  exact lv_icmp_eq hC.1 hC.2.2.1 hd ht (fun z => kt z p l e R s m args below meth c H locs cells slots mc ms ls D cy A ad Q hC hX hP hD hS hL h1 h2 z1 z2 hQ) (fun z => kf z p l e R s m args below meth c H locs cells slots mc ms ls D cy A ad Q hC hX hP hD hS hL h1 h2 z1 z2 hQ)
theorem am_if_eq {X : am_X} {d : Nat} {mt : am_M} {pc : Nat} {L : List (Option am_V)} {st : List am_V} {h : am_H} {r : am_R} {x : Int32} (off : Int) (tgt : Nat) (hd : decode mt.2.1 pc = .ok (.ifCond .eq off, 3)) (ht : (pc : Int) + off = (tgt : Int)) (kt : (x = 0) → am_At X d mt tgt L st h r) (kf : ¬ (x = 0) → am_At X d mt (pc + 3) L st h r) : am_At X d mt pc L (am_I x :: st) h r := by
  intro p l e R s m args below meth c H locs cells slots mc ms ls D cy A ad Q hC hX hP hD hS hL h1 h2 z1 z2 hQ
  exact lv_if_eq hC.1 hC.2.2.1 hd ht (fun z => kt z p l e R s m args below meth c H locs cells slots mc ms ls D cy A ad Q hC hX hP hD hS hL h1 h2 z1 z2 hQ) (fun z => kf z p l e R s m args below meth c H locs cells slots mc ms ls D cy A ad Q hC hX hP hD hS hL h1 h2 z1 z2 hQ)
theorem am_icmp_ne {X : am_X} {d : Nat} {mt : am_M} {pc : Nat} {L : List (Option am_V)} {st : List am_V} {h : am_H} {r : am_R} {x y : Int32} (off : Int) (tgt : Nat) (hd : decode mt.2.1 pc = .ok (.if_icmp .ne off, 3)) (ht : (pc : Int) + off = (tgt : Int)) (kt : (¬ x = y) → am_At X d mt tgt L st h r) (kf : (x = y) → am_At X d mt (pc + 3) L st h r) : am_At X d mt pc L (am_I y :: am_I x :: st) h r := by
  intro p l e R s m args below meth c H locs cells slots mc ms ls D cy A ad Q hC hX hP hD hS hL h1 h2 z1 z2 hQ
  exact lv_icmp_ne hC.1 hC.2.2.1 hd ht (fun z => kt z p l e R s m args below meth c H locs cells slots mc ms ls D cy A ad Q hC hX hP hD hS hL h1 h2 z1 z2 hQ) (fun z => kf z p l e R s m args below meth c H locs cells slots mc ms ls D cy A ad Q hC hX hP hD hS hL h1 h2 z1 z2 hQ)
theorem am_if_ne {X : am_X} {d : Nat} {mt : am_M} {pc : Nat} {L : List (Option am_V)} {st : List am_V} {h : am_H} {r : am_R} {x : Int32} (off : Int) (tgt : Nat) (hd : decode mt.2.1 pc = .ok (.ifCond .ne off, 3)) (ht : (pc : Int) + off = (tgt : Int)) (kt : (¬ x = 0) → am_At X d mt tgt L st h r) (kf : (x = 0) → am_At X d mt (pc + 3) L st h r) : am_At X d mt pc L (am_I x :: st) h r := by
  intro p l e R s m args below meth c H locs cells slots mc ms ls D cy A ad Q hC hX hP hD hS hL h1 h2 z1 z2 hQ
  exact lv_if_ne hC.1 hC.2.2.1 hd ht (fun z => kt z p l e R s m args below meth c H locs cells slots mc ms ls D cy A ad Q hC hX hP hD hS hL h1 h2 z1 z2 hQ) (fun z => kf z p l e R s m args below meth c H locs cells slots mc ms ls D cy A ad Q hC hX hP hD hS hL h1 h2 z1 z2 hQ)
theorem am_icmp_lt {X : am_X} {d : Nat} {mt : am_M} {pc : Nat} {L : List (Option am_V)} {st : List am_V} {h : am_H} {r : am_R} {x y : Int32} (off : Int) (tgt : Nat) (hd : decode mt.2.1 pc = .ok (.if_icmp .lt off, 3)) (ht : (pc : Int) + off = (tgt : Int)) (kt : (x < y) → am_At X d mt tgt L st h r) (kf : ¬ (x < y) → am_At X d mt (pc + 3) L st h r) : am_At X d mt pc L (am_I y :: am_I x :: st) h r := by
  intro p l e R s m args below meth c H locs cells slots mc ms ls D cy A ad Q hC hX hP hD hS hL h1 h2 z1 z2 hQ
  exact lv_icmp_lt hC.1 hC.2.2.1 hd ht (fun z => kt z p l e R s m args below meth c H locs cells slots mc ms ls D cy A ad Q hC hX hP hD hS hL h1 h2 z1 z2 hQ) (fun z => kf z p l e R s m args below meth c H locs cells slots mc ms ls D cy A ad Q hC hX hP hD hS hL h1 h2 z1 z2 hQ)
theorem am_if_lt {X : am_X} {d : Nat} {mt : am_M} {pc : Nat} {L : List (Option am_V)} {st : List am_V} {h : am_H} {r : am_R} {x : Int32} (off : Int) (tgt : Nat) (hd : decode mt.2.1 pc = .ok (.ifCond .lt off, 3)) (ht : (pc : Int) + off = (tgt : Int)) (kt : (x < 0) → am_At X d mt tgt L st h r) (kf : ¬ (x < 0) → am_At X d mt (pc + 3) L st h r) : am_At X d mt pc L (am_I x :: st) h r := by
  intro p l e R s m args below meth c H locs cells slots mc ms ls D cy A ad Q hC hX hP hD hS hL h1 h2 z1 z2 hQ
  exact lv_if_lt hC.1 hC.2.2.1 hd ht (fun z => kt z p l e R s m args below meth c H locs cells slots mc ms ls D cy A ad Q hC hX hP hD hS hL h1 h2 z1 z2 hQ) (fun z => kf z p l e R s m args below meth c H locs cells slots mc ms ls D cy A ad Q hC hX hP hD hS hL h1 h2 z1 z2 hQ)
theorem am_icmp_ge {X : am_X} {d : Nat} {mt : am_M} {pc : Nat} {L : List (Option am_V)} {st : List am_V} {h : am_H} {r : am_R} {x y : Int32} (off : Int) (tgt : Nat) (hd : decode mt.2.1 pc = .ok (.if_icmp .ge off, 3)) (ht : (pc : Int) + off = (tgt : Int)) (kt : (y ≤ x) → am_At X d mt tgt L st h r) (kf : ¬ (y ≤ x) → am_At X d mt (pc + 3) L st h r) : am_At X d mt pc L (am_I y :: am_I x :: st) h r := by
  intro p l e R s m args below meth c H locs cells slots mc ms ls D cy A ad Q hC hX hP hD hS hL h1 h2 z1 z2 hQ
  exact lv_icmp_ge hC.1 hC.2.2.1 hd ht (fun z => kt z p l e R s m args below meth c H locs cells slots mc ms ls D cy A ad Q hC hX hP hD hS hL h1 h2 z1 z2 hQ) (fun z => kf z p l e R s m args below meth c H locs cells slots mc ms ls D cy A ad Q hC hX hP hD hS hL h1 h2 z1 z2 hQ)
theorem am_if_ge {X : am_X} {d : Nat} {mt : am_M} {pc : Nat} {L : List (Option am_V)} {st : List am_V} {h : am_H} {r : am_R} {x : Int32} (off : Int) (tgt : Nat) (hd : decode mt.2.1 pc = .ok (.ifCond .ge off, 3)) (ht : (pc : Int) + off = (tgt : Int)) (kt : (0 ≤ x) → am_At X d mt tgt L st h r) (kf : ¬ (0 ≤ x) → am_At X d mt (pc + 3) L st h r) : am_At X d mt pc L (am_I x :: st) h r := by
  intro p l e R s m args below meth c H locs cells slots mc ms ls D cy A ad Q hC hX hP hD hS hL h1 h2 z1 z2 hQ
  exact lv_if_ge hC.1 hC.2.2.1 hd ht (fun z => kt z p l e R s m args below meth c H locs cells slots mc ms ls D cy A ad Q hC hX hP hD hS hL h1 h2 z1 z2 hQ) (fun z => kf z p l e R s m args below meth c H locs cells slots mc ms ls D cy A ad Q hC hX hP hD hS hL h1 h2 z1 z2 hQ)
theorem am_icmp_gt {X : am_X} {d : Nat} {mt : am_M} {pc : Nat} {L : List (Option am_V)} {st : List am_V} {h : am_H} {r : am_R} {x y : Int32} (off : Int) (tgt : Nat) (hd : decode mt.2.1 pc = .ok (.if_icmp .gt off, 3)) (ht : (pc : Int) + off = (tgt : Int)) (kt : (y < x) → am_At X d mt tgt L st h r) (kf : ¬ (y < x) → am_At X d mt (pc + 3) L st h r) : am_At X d mt pc L (am_I y :: am_I x :: st) h r := by
  intro p l e R s m args below meth c H locs cells slots mc ms ls D cy A ad Q hC hX hP hD hS hL h1 h2 z1 z2 hQ
  exact lv_icmp_gt hC.1 hC.2.2.1 hd ht (fun z => kt z p l e R s m args below meth c H locs cells slots mc ms ls D cy A ad Q hC hX hP hD hS hL h1 h2 z1 z2 hQ) (fun z => kf z p l e R s m args below meth c H locs cells slots mc ms ls D cy A ad Q hC hX hP hD hS hL h1 h2 z1 z2 hQ)
theorem am_if_gt {X : am_X} {d : Nat} {mt : am_M} {pc : Nat} {L : List (Option am_V)} {st : List am_V} {h : am_H} {r : am_R} {x : Int32} (off : Int) (tgt : Nat) (hd : decode mt.2.1 pc = .ok (.ifCond .gt off, 3)) (ht : (pc : Int) + off = (tgt : Int)) (kt : (0 < x) → am_At X d mt tgt L st h r) (kf : ¬ (0 < x) → am_At X d mt (pc + 3) L st h r) : am_At X d mt pc L (am_I x :: st) h r := by
  intro p l e R s m args below meth c H locs cells slots mc ms ls D cy A ad Q hC hX hP hD hS hL h1 h2 z1 z2 hQ
  exact lv_if_gt hC.1 hC.2.2.1 hd ht (fun z => kt z p l e R s m args below meth c H locs cells slots mc ms ls D cy A ad Q hC hX hP hD hS hL h1 h2 z1 z2 hQ) (fun z => kf z p l e R s m args below meth c H locs cells slots mc ms ls D cy A ad Q hC hX hP hD hS hL h1 h2 z1 z2 hQ)
theorem am_icmp_le {X : am_X} {d : Nat} {mt : am_M} {pc : Nat} {L : List (Option am_V)} {st : List am_V} {h : am_H} {r : am_R} {x y : Int32} (off : Int) (tgt : Nat) (hd : decode mt.2.1 pc = .ok (.if_icmp .le off, 3)) (ht : (pc : Int) + off = (tgt : Int)) (kt : (x ≤ y) → am_At X d mt tgt L st h r) (kf : ¬ (x ≤ y) → am_At X d mt (pc + 3) L st h r) : am_At X d mt pc L (am_I y :: am_I x :: st) h r := by
  intro p l e R s m args below meth c H locs cells slots mc ms ls D cy A ad Q hC hX hP hD hS hL h1 h2 z1 z2 hQ
  exact lv_icmp_le hC.1 hC.2.2.1 hd ht (fun z => kt z p l e R s m args below meth c H locs cells slots mc ms ls D cy A ad Q hC hX hP hD hS hL h1 h2 z1 z2 hQ) (fun z => kf z p l e R s m args below meth c H locs cells slots mc ms ls D cy A ad Q hC hX hP hD hS hL h1 h2 z1 z2 hQ)
theorem am_if_le {X : am_X} {d : Nat} {mt : am_M} {pc : Nat} {L : List (Option am_V)} {st : List am_V} {h : am_H} {r : am_R} {x : Int32} (off : Int) (tgt : Nat) (hd : decode mt.2.1 pc = .ok (.ifCond .le off, 3)) (ht : (pc : Int) + off = (tgt : Int)) (kt : (x ≤ 0) → am_At X d mt tgt L st h r) (kf : ¬ (x ≤ 0) → am_At X d mt (pc + 3) L st h r) : am_At X d mt pc L (am_I x :: st) h r := by
  intro p l e R s m args below meth c H locs cells slots mc ms ls D cy A ad Q hC hX hP hD hS hL h1 h2 z1 z2 hQ
  exact lv_if_le hC.1 hC.2.2.1 hd ht (fun z => kt z p l e R s m args below meth c H locs cells slots mc ms ls D cy A ad Q hC hX hP hD hS hL h1 h2 z1 z2 hQ) (fun z => kf z p l e R s m args below meth c H locs cells slots mc ms ls D cy A ad Q hC hX hP hD hS hL h1 h2 z1 z2 hQ)
