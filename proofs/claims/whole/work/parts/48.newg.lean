/-! NEW CELLS: grids -/
def am_adg (ad : Nat → Nat → Nat) (N a : Nat) : Nat → Nat → Nat := fun c r => if c = N then a + r else ad c r
theorem am_adg.o {ad : Nat → Nat → Nat} {N a c r : Nat} (h : c ≠ N) : am_adg ad N a c r = ad c r := by
  unfold am_adg
  rw [if_neg h]
theorem am_adg.e {ad : Nat → Nat → Nat} {N a r : Nat} : am_adg ad N a N r = a + r := by
  unfold am_adg
  rw [if_pos rfl]
theorem am_old.cvg {ad : Nat → Nat → Nat} {N a : Nat} {v : am_V} (h : am_old N v) : am_cv (am_adg ad N a) v = am_cv ad v := by
  cases v with
  | inl v => rfl
  | inr q => exact congrArg Value.ref (am_adg.o h)
theorem outer_i (c : ClassId) (N h0 : Nat) : ∀ i, Jvm.Free.Multi.outerC c N h0 i = arrV c N (fun j => if j < i then .ref (h0 + 1 + j) else .null)
  | 0 => by
    show ({ cls := c, slots := Array.replicate N .null, vm := .none } : Cell) = _
    rw [arrV_new]
    refine congrArg (arrV c N) (funext fun j => ?_)
    rw [if_neg (by omega)]
  | i + 1 => by
    show (Jvm.Free.Multi.outerC c N h0 i).setSlot i (.ref (h0 + 1 + i)) = _
    rw [outer_i c N h0 i, arrV_store]
    refine congrArg (arrV c N) (funext fun j => ?_)
    unfold updV
    by_cases e : j = i
    · subst e
      rw [if_pos rfl, if_pos (by omega)]
    · rw [if_neg e]
      show (if j < i then Value.ref (h0 + 1 + j) else Value.null) = _
      by_cases h3 : j < i
      · rw [if_pos h3, if_pos (by omega)]
      · rw [if_neg h3, if_neg (by omega)]
theorem outer_arr (c : ClassId) (N h0 : Nat) : Jvm.Free.Multi.outerC c N h0 N = arrV c N (fun j => .ref (h0 + 1 + j)) := by
  rw [outer_i]
  unfold arrV
  have : (fun j : Fin N => if j.val < N then Value.ref (h0 + 1 + j.val) else .null) = (fun j : Fin N => Value.ref (h0 + 1 + j.val)) := funext fun j => if_pos j.isLt
  rw [this]
theorem W_mnew {p : Program} {l : Launch} {e : Env} {R : Room} {s : State} {m : MethodId} {args : Array Value} {below : List Frame} {meth : Method} {c : Code} {H : Heap} {locs : List Loc} {cells slots : Nat} {Q : State → Prop} {cc : ByteArray} {pc : Nat} {ls : Array Slot} {rest : List Value} (hexec : p.tables.exec = Jvm.exec) (hb : c.code = cc) {own : String} {index : Nat} (hown : s.vm.findClass own = some m.cls) (hclink : (Cond.classLink own index ("[" ++ (FieldType.array .int).toString)).before args s = true) (hover : (Cond.arrayOver (.array .int)).before args s = true) (harr : (Cond.arrayClass .int).before args s = true) (hdg : decode cc pc = .ok (.multianewarray index 2, 4)) {n k : Int32} {N M : Nat} (hn : ¬ n < 0) (hk : ¬ k < 0) (hN : n.toNatClampNeg = N) (hM : k.toNatClampNeg = M) (hb1 : N * 4 ≤ 536870912) (hb2 : M * componentBytes .int ≤ 536870912) (hb3 : M ≤ 536870912) (hcells : cells + (1 + N) ≤ R.cells) (hslots : slots + (N + N * M) ≤ R.slots)
    (kk : ∀ (H1 : Heap) (cA comp : ClassId), H1.size = H.size + 1 + N → H1[H.size]? = some (arrV cA N (fun j => .ref (H.size + 1 + j))) → (∀ j, j < N → H1[H.size + 1 + j]? = some (arrV comp M (fun _ => .int 0))) → (∀ q, q < H.size → H1[q]? = H[q]?) → s.vm.findClass ("[" ++ (FieldType.array .int).toString) = some cA → s.vm.findClass (FieldType.array .int).toString = some comp → W p l e R s m args below meth c H1 locs (cells + 1 + N) (slots + N + N * M) Q (F0 m (pc + 4) ls (.ref H.size :: rest))) : W p l e R s m args below meth c H locs cells slots Q (F0 m pc ls (.int k :: .int n :: rest)) := by
  subst hN hM
  intro T hT X
  obtain ⟨vm₁, cA, comp, hW, hfA, hfC, hO, hI, X1, step⟩ := X.multianewarray2F hexec hown hclink hover harr (g := F0 m pc ls (.int k :: .int n :: rest)) rfl (by rw [hb]; exact hdg) rfl hn hk hb1 hb2 hb3 rfl rfl hcells hslots
  have hT' : (T.setVm vm₁).heap = H := hT
  obtain ⟨z1, z2, -, -⟩ := Jvm.Free.Multi.fill_facts (T.setVm vm₁) cA comp n.toNatClampNeg k.toNatClampNeg (defaultValue .int) n.toNatClampNeg
  have z3 := fun j hj => Jvm.Free.Multi.fill_inner (T.setVm vm₁) cA comp n.toNatClampNeg k.toNatClampNeg (defaultValue .int) n.toNatClampNeg j hj
  have z4 := fun (q : Nat) (hq : q < H.size) => Jvm.Free.Multi.fill_old (T.setVm vm₁) cA comp n.toNatClampNeg k.toNatClampNeg (defaultValue .int) (a := q) (by rw [hT']; exact hq) n.toNatClampNeg
  rw [hT'] at z1 z2
  obtain ⟨t, a, b⟩ := kk _ cA comp z1 (by rw [← outer_arr]; exact z2) (fun j hj => by
    have := z3 j hj
    rw [hT'] at this
    rw [this]
    exact congrArg some (arrV_new comp k.toNatClampNeg (.int 0))) (fun q hq => by rw [z4 q hq, hT']) hfA hfC _ rfl X1
  refine ⟨t, step t ?_, b⟩
  rw [hT]
  exact a
theorem am_hN.ncg {h : am_H} {n w : Nat} : am_nc (am_hN h (103, n, w)) = am_nc h + (1 + n) := by
  unfold am_nc am_hN am_c1
  simp
theorem am_hN.nsg {h : am_H} {n w : Nat} : am_ns (am_hN h (103, n, w)) = am_ns h + (n + n * w) := by
  unfold am_ns am_hN am_s1
  simp
theorem am_hN.agg {h : am_H} {q : Nat × Nat × Nat} {ad : Nat → Nat → Nat} {a : Nat} (hN : h.1.length < 1000) : am_ag h (am_hN h q) ad (am_adg ad h.1.length a) := by
  refine ⟨by simp [am_hN], fun e => ?_, fun c r z => am_adg.o (by omega)⟩
  simp [am_hN] at e
theorem am_G.adg {D : va_G} {cy : Nat → ClassId} {ad : Nat → Nat → Nat} {A : Nat → Prop} {s : State} {N a : Nat} (hN : N < 1000) (hG : am_G D cy ad A s) : am_G D cy (am_adg ad N a) A s := by
  obtain ⟨g1, g2, g3, g4, g5, g6, g7, g8⟩ := hG
  refine ⟨g1, g2, g3, g4, ?_, fun q hq => ?_, g7, g8⟩
  · have e1 : (fun k => am_adg ad N a (1000 + k) 0) = (fun k => ad (1000 + k) 0) := funext (fun k => am_adg.o (by omega))
    have e2 : (fun k => am_adg ad N a (2000 + k) 0) = (fun k => ad (2000 + k) 0) := funext (fun k => am_adg.o (by omega))
    rw [e1, e2]
    exact g5
  · rw [am_adg.o (by omega)]
    exact g6 q hq
theorem am_hN.eg {cy : Nat → ClassId} {ad : Nat → Nat → Nat} {h : am_H} {q : Nat × Nat × Nat} {a c r k n w : Nat} (hc : c ≠ h.1.length) (hrf : ∀ c f, h.2.2 c f ≠ some h.1.length) : am_e cy (am_adg ad h.1.length a) (am_hN h q) c r k n w = am_e cy ad h c r k n w := by
  have e1 : ∀ f, am_fv (am_adg ad h.1.length a) (am_hN h q) c k f = am_fv ad h c k f := by
    intro f
    unfold am_fv am_hN
    by_cases hk : am_rf k f = true
    · rw [if_pos hk, if_pos hk]
      cases ht : h.2.2 c f with
      | none => rfl
      | some t =>
        show va_rf (some (am_adg ad h.1.length a t 0)) = va_rf (some (ad t 0))
        rw [am_adg.o (fun z => hrf c f (by rw [ht, z]))]
    · rw [if_neg hk, if_neg hk]
  have e2 : (fun i => some (am_adg ad h.1.length a c (i + 1))) = (fun i => some (ad c (i + 1))) := funext (fun i => by rw [am_adg.o hc])
  unfold am_e
  rw [e2, List.map_congr_left (fun f _ => e1 f)]
  rfl
theorem am_newg {X : am_X} {d : Nat} {mt : am_M} {pc : Nat} {L : List (Option am_V)} {st : List am_V} {h : am_H} {r : am_R} {idx : Nat} {x y : Int32} (n w : Nat) (hd : decode mt.2.1 pc = .ok (.multianewarray idx 2, 4)) (hx0 : ¬ x < 0) (hxn : x.toNatClampNeg = n) (hy0 : ¬ y < 0) (hyw : y.toNatClampNeg = w) (hb1 : n * 4 ≤ 536870912) (hb2 : w * componentBytes .int ≤ 536870912) (hb3 : w ≤ 536870912) (hcl : Cond.classLink mt.1.cls idx ("[" ++ (FieldType.array .int).toString) ∈ am_ws) (hov : Cond.arrayOver (.array .int) ∈ am_nw) (harr : Cond.arrayClass .int ∈ am_ws) (hz : ∀ r f, h.2.1 h.1.length r f = 0) (hN : h.1.length < 1000) (hrf : ∀ c f, h.2.2 c f ≠ some h.1.length) (hXs : ∀ ad A s a, X ad A s → X (am_adg ad h.1.length a) A s) (hLo : ∀ v, some v ∈ L → am_old h.1.length v) (hso : ∀ v, v ∈ st → am_old h.1.length v) (b1 : am_nc h + (1 + n) ≤ am_rc r) (b2 : am_ns h + (n + n * w) ≤ am_rs r) (kk : am_At X d mt (pc + 4) L (.inr (h.1.length, 0) :: st) (am_hN h (103, n, w)) r) : am_At X d mt pc L (am_I y :: am_I x :: st) h r := by
  intro p l e R s m args below meth c0 H locs cells slots mc ms ls D cy A ad Q hC hX hP hD hS hL h1 h2 z1 z2 hQ
  obtain ⟨hx, htr, hb, hml, hown, hr, hlk, hnm, hex, hts, hG, hA, hRc, hRs, hRf, hRl⟩ := id hC
  refine W_mnew (N := n) (M := w) hx hb hown (hts _ hcl) (am_ovt rfl (hG.2.1 _ hov)) (hts _ harr) hd hx0 hy0 hxn hyw hb1 hb2 hb3 (by omega) (by omega) fun H1 cA comp hz1 ho1 hi1 old hfA hfC => ?_
  have hcA : cA = cy 3 := by
    have := (hG.1.2 3 (cy 3, .array .int) rfl).2
    exact Option.some.inj (hfA.symm.trans this)
  have hcm : comp = cy 0 := by
    have := (hG.1.2 0 (cy 0, .int) rfl).2
    exact Option.some.inj (hfC.symm.trans this)
  subst hcA hcm
  have hst : .ref H.size :: st.map (am_cv ad) = ((.inr (h.1.length, 0) :: st : List am_V)).map (am_cv (am_adg ad h.1.length H.size)) := by
    rw [List.map_cons]
    congr 1
    · show Value.ref H.size = Value.ref (am_adg ad h.1.length H.size h.1.length 0)
      rw [am_adg.e]; rfl
    · exact (List.map_congr_left (fun v hv => (hso v hv).cvg)).symm
  show W p l e R s m args below meth c0 H1 locs (cells + 1 + n) (slots + n + n * w) Q (F0 m (pc + 4) ls (.ref H.size :: st.map (am_cv ad)))
  rw [hst]
  have hn1 := am_hN.ncg (h := h) (n := n) (w := w)
  have hn2 := am_hN.nsg (h := h) (n := n) (w := w)
  refine kk p l e R s m args below meth c0 H1 locs (cells + 1 + n) (slots + n + n * w) mc ms ls D cy A (am_adg ad h.1.length H.size) Q ⟨hx, htr, hb, hml, hown, hr, hlk, hnm, hex, hts, hG.adg hN, hA, hRc, hRs, hRf, hRl⟩ (hXs _ _ _ _ hX) ?_ ?_ ?_ ?_ (by omega) (by omega) (by omega) (by omega) (fun t ht => hQ t (am_MQ (am_hN.agg hN) ht))
  · intro c r' k' n' w' ok'
    rcases am_hN.ok ok' with ⟨hc, oo⟩ | ⟨rfl, eq, hr0⟩
    · rw [am_adg.o hc, am_hN.eg hc hrf]
      exact (hP c r' k' n' w' oo).kept (old _ (hP c r' k' n' w' oo).lt)
    · cases eq
      rw [am_adg.e]
      by_cases h0 : r' = 0
      · subst h0
        show H1[H.size]? = some (arrV (cy 3) n (fun j => va_rf (some (am_adg ad h.1.length H.size h.1.length (j + 1)))))
        rw [ho1]
        refine congrArg some (congrArg (arrV (cy 3) n) (funext fun j => ?_))
        show _ = Value.ref (am_adg ad h.1.length H.size h.1.length (j + 1))
        rw [am_adg.e, show H.size + 1 + j = H.size + (j + 1) by omega]
      · obtain ⟨j, rfl⟩ : ∃ j, r' = j + 1 := ⟨r' - 1, by omega⟩
        have hj : j < n := by
          rcases hr0 with z | z
          · exact absurd z h0
          · have := z.2; omega
        have e0 : am_e cy (am_adg ad h.1.length H.size) (am_hN h (103, n, w)) h.1.length (j + 1) 103 n w = .inl (cy 0, w, .inl (h.2.1 h.1.length (j + 1))) := by
          unfold am_e
          simp [am_hN]
        rw [e0]
        show H1[H.size + (j + 1)]? = some (arrV (cy 0) w (fun i => .int (h.2.1 h.1.length (j + 1) i)))
        rw [show H.size + (j + 1) = H.size + 1 + j by omega, hi1 j hj]
        refine congrArg some (congrArg (arrV (cy 0) w) (funext fun i => ?_))
        rw [hz]
  · refine ⟨fun c r1 k1 n1 w1 c' r1' k1' n1' w1' o1 o2 e => ?_, fun c r1 k1 n1 w1 o1 => ?_⟩
    · rcases am_hN.ok o1 with ⟨hc, oo⟩ | ⟨rfl, eq, hr0⟩
      · rcases am_hN.ok o2 with ⟨hc', oo'⟩ | ⟨rfl, eq', hr0'⟩
        · rw [am_adg.o hc, am_adg.o hc'] at e
          exact hD.1 _ _ _ _ _ _ _ _ _ _ oo oo' e
        · rw [am_adg.o hc, am_adg.e] at e
          have := (hP _ _ _ _ _ oo).lt
          have h9 : ad c r1 < H.size := this
          omega
      · rcases am_hN.ok o2 with ⟨hc', oo'⟩ | ⟨rfl, eq', hr0'⟩
        · rw [am_adg.o hc', am_adg.e] at e
          have h9 : ad c' r1' < H.size := (hP _ _ _ _ _ oo').lt
          omega
        · rw [am_adg.e, am_adg.e] at e
          exact ⟨rfl, by omega⟩
    · rcases am_hN.ok o1 with ⟨hc, oo⟩ | ⟨rfl, eq, hr0⟩
      · rw [am_adg.o hc]
        exact hD.2 _ _ _ _ _ oo
      · rw [am_adg.e]
        exact hA _ (Nat.le_trans hS.1 (Nat.le_add_right _ _))
  · exact ⟨Nat.le_trans hS.1 (by omega), fun q q1 q2 => (old q (Nat.lt_of_lt_of_le q1 hS.1)).trans (hS.2.1 q q1 q2), hS.2.2⟩
  · refine ⟨hL.1, hL.2.1, hL.2.2.1, fun i v hv => ?_⟩
    have hm : some v ∈ L := List.mem_of_getElem? hv
    rw [(hLo v hm).cvg]
    exact hL.2.2.2 i v hv
