/-! NEW CELLS -/
def am_ad (ad : Nat → Nat → Nat) (N a : Nat) : Nat → Nat → Nat := fun c r => if c = N ∧ r = 0 then a else ad c r
def am_old (N : Nat) (v : am_V) : Prop := match v with
  | .inl _ => True
  | .inr q => q.1 ≠ N
theorem am_ad.o {ad : Nat → Nat → Nat} {N a c r : Nat} (h : c ≠ N) : am_ad ad N a c r = ad c r := by
  unfold am_ad
  rw [if_neg (fun z => h z.1)]
theorem am_ad.e {ad : Nat → Nat → Nat} {N a : Nat} : am_ad ad N a N 0 = a := by
  unfold am_ad
  rw [if_pos ⟨rfl, rfl⟩]
theorem am_old.cv {ad : Nat → Nat → Nat} {N a : Nat} {v : am_V} (h : am_old N v) : am_cv (am_ad ad N a) v = am_cv ad v := by
  cases v with
  | inl v => rfl
  | inr q => exact congrArg Value.ref (am_ad.o h)
def am_hN (h : am_H) (q : Nat × Nat × Nat) : am_H := (h.1 ++ [q], h.2.1, h.2.2)
theorem am_hN.nc {h : am_H} {k n w : Nat} (hk : k ≠ 103) : am_nc (am_hN h (k, n, w)) = am_nc h + 1 := by
  unfold am_nc am_hN am_c1
  simp [hk]
theorem am_hN.ns {h : am_H} {k n w : Nat} (hk : k ≠ 103) : am_ns (am_hN h (k, n, w)) = am_ns h + n := by
  unfold am_ns am_hN am_s1
  simp [hk]
theorem am_hN.ag {h : am_H} {q : Nat × Nat × Nat} {ad : Nat → Nat → Nat} {a : Nat} (hN : h.1.length < 1000) : am_ag h (am_hN h q) ad (am_ad ad h.1.length a) := by
  refine ⟨by simp [am_hN], fun e => ?_, fun c r z => am_ad.o (by omega)⟩
  simp [am_hN] at e
theorem am_G.ad {D : va_G} {cy : Nat → ClassId} {ad : Nat → Nat → Nat} {A : Nat → Prop} {s : State} {N a : Nat} (hN : N < 1000) (hG : am_G D cy ad A s) : am_G D cy (am_ad ad N a) A s := by
  obtain ⟨g1, g2, g3, g4, g5, g6, g7, g8⟩ := hG
  refine ⟨g1, g2, g3, g4, ?_, fun q hq => ?_, g7, g8⟩
  · have e1 : (fun k => am_ad ad N a (1000 + k) 0) = (fun k => ad (1000 + k) 0) := funext (fun k => am_ad.o (by omega))
    have e2 : (fun k => am_ad ad N a (2000 + k) 0) = (fun k => ad (2000 + k) 0) := funext (fun k => am_ad.o (by omega))
    rw [e1, e2]
    exact g5
  · rw [am_ad.o (by omega)]
    exact g6 q hq
theorem am_hN.ok {h : am_H} {q : Nat × Nat × Nat} {c r k n w : Nat} (ho : am_ok (am_hN h q) c r k n w) : (c ≠ h.1.length ∧ am_ok h c r k n w) ∨ (c = h.1.length ∧ (k, n, w) = q ∧ (r = 0 ∨ (k = 103 ∧ r ≤ n))) := by
  obtain ⟨h1, h2⟩ := ho
  by_cases hc : c < h.1.length
  · refine Or.inl ⟨by omega, ?_, h2⟩
    rw [show (am_hN h q).1 = h.1 ++ [q] from rfl, List.getElem?_append_left hc] at h1
    exact h1
  · rw [show (am_hN h q).1 = h.1 ++ [q] from rfl, List.getElem?_append_right (by omega)] at h1
    have hz : c - h.1.length < 1 := (List.getElem?_eq_some_iff.mp h1).1
    have hc0 : c = h.1.length := by omega
    rw [hc0, Nat.sub_self] at h1
    cases h1
    exact Or.inr ⟨hc0, rfl, h2⟩
theorem am_hN.e {cy : Nat → ClassId} {ad : Nat → Nat → Nat} {h : am_H} {q : Nat × Nat × Nat} {a c r k n w : Nat} (hc : c ≠ h.1.length) (hrf : ∀ c f, h.2.2 c f ≠ some h.1.length) : am_e cy (am_ad ad h.1.length a) (am_hN h q) c r k n w = am_e cy ad h c r k n w := by
  have e1 : ∀ f, am_fv (am_ad ad h.1.length a) (am_hN h q) c k f = am_fv ad h c k f := by
    intro f
    unfold am_fv am_hN
    by_cases hk : am_rf k f = true
    · rw [if_pos hk, if_pos hk]
      cases ht : h.2.2 c f with
      | none => rfl
      | some t =>
        show va_rf (some (am_ad ad h.1.length a t 0)) = va_rf (some (ad t 0))
        rw [am_ad.o (fun z => hrf c f (by rw [ht, z]))]
    · rw [if_neg hk, if_neg hk]
  have e2 : (fun i => some (am_ad ad h.1.length a c (i + 1))) = (fun i => some (ad c (i + 1))) := funext (fun i => by rw [am_ad.o hc])
  unfold am_e
  rw [e2, List.map_congr_left (fun f _ => e1 f)]
  rfl
/-- a cell has come to be: on from there -/
theorem am_grow {X : am_X} {d : Nat} {mt : am_M} {pc pc1 : Nat} {L : List (Option am_V)} {st st1 : List am_V} {h : am_H} {r : am_R} {k n w : Nat} (hk : k ≠ 103) (hN : h.1.length < 1000) (hrf : ∀ c f, h.2.2 c f ≠ some h.1.length) (hXs : ∀ ad A s a, X ad A s → X (am_ad ad h.1.length a) A s) (hLo : ∀ v, some v ∈ L → am_old h.1.length v) (hso : ∀ v, v ∈ st1 → am_old h.1.length v) (b1 : am_nc h + 1 ≤ am_rc r) (b2 : am_ns h + n ≤ am_rs r) (kk : am_At X d mt pc1 L (.inr (h.1.length, 0) :: st1) (am_hN h (k, n, w)) r)
    (step : ∀ (p : Program) (l : Launch) (e : Env) (R : Room) (s : State) (m : MethodId) (args : Array Value) (below : List Frame) (meth : Method) (c : Code) (H : Heap) (locs : List Loc) (cells slots mc ms : Nat) (ls : Array Slot) (D : va_G) (cy : Nat → ClassId) (A : Nat → Prop) (ad : Nat → Nat → Nat) (Q : State → Prop), am_Cx d mt p l R s m args meth c D cy ad A mc ms → cells + 1 ≤ R.cells → slots + n ≤ R.slots →
      (∀ H1 : Heap, H1.size = H.size + 1 → (∀ q, q < H.size → H1[q]? = H[q]?) → va_at D vwCl (H.size, am_e cy (am_ad ad h.1.length H.size) (am_hN h (k, n, w)) h.1.length 0 k n w) H1 → W p l e R s m args below meth c H1 locs (cells + 1) (slots + n) Q (F0 m pc1 ls (.ref H.size :: st1.map (am_cv ad)))) → W p l e R s m args below meth c H locs cells slots Q (F0 m pc ls (st.map (am_cv ad)))) : am_At X d mt pc L st h r := by
  intro p l e R s m args below meth c0 H locs cells slots mc ms ls D cy A ad Q hC hX hP hD hS hL h1 h2 z1 z2 hQ
  obtain ⟨hx, htr, hb, hml, hown, hr, hlk, hnm, hex, hts, hG, hA, hRc, hRs, hRf, hRl⟩ := id hC
  refine step p l e R s m args below meth c0 H locs cells slots mc ms ls D cy A ad Q hC (by omega) (by omega) fun H1 hz ho hat => ?_
  have hst : .ref H.size :: st1.map (am_cv ad) = ((.inr (h.1.length, 0) :: st1 : List am_V)).map (am_cv (am_ad ad h.1.length H.size)) := by
    rw [List.map_cons]
    congr 1
    · show Value.ref H.size = Value.ref (am_ad ad h.1.length H.size h.1.length 0)
      rw [am_ad.e]
    · exact (List.map_congr_left (fun v hv => (hso v hv).cv)).symm
  rw [hst]
  have hn1 := am_hN.nc (h := h) (n := n) (w := w) hk
  have hn2 := am_hN.ns (h := h) (n := n) (w := w) hk
  refine kk p l e R s m args below meth c0 H1 locs (cells + 1) (slots + n) mc ms ls D cy A (am_ad ad h.1.length H.size) Q ⟨hx, htr, hb, hml, hown, hr, hlk, hnm, hex, hts, hG.ad hN, hA, hRc, hRs, hRf, hRl⟩ (hXs _ _ _ _ hX) ?_ ?_ ?_ ?_ (by omega) (by omega) (by omega) (by omega) (fun t ht => hQ t (am_MQ (am_hN.ag hN) ht))
  · intro c r' k' n' w' ok'
    rcases am_hN.ok ok' with ⟨hc, oo⟩ | ⟨rfl, eq, hr0⟩
    · rw [am_ad.o hc, am_hN.e hc hrf]
      exact (hP c r' k' n' w' oo).kept (ho _ (hP c r' k' n' w' oo).lt)
    · cases eq
      have : r' = 0 := by
        rcases hr0 with z | z
        · exact z
        · exact absurd z.1 hk
      subst this
      rw [am_ad.e]
      exact hat
  · refine ⟨fun c r1 k1 n1 w1 c' r1' k1' n1' w1' o1 o2 e => ?_, fun c r1 k1 n1 w1 o1 => ?_⟩
    · rcases am_hN.ok o1 with ⟨hc, oo⟩ | ⟨rfl, eq, hr0⟩
      · rcases am_hN.ok o2 with ⟨hc', oo'⟩ | ⟨rfl, eq', hr0'⟩
        · rw [am_ad.o hc, am_ad.o hc'] at e
          exact hD.1 _ _ _ _ _ _ _ _ _ _ oo oo' e
        · cases eq'
          have : r1' = 0 := by
            rcases hr0' with z | z
            · exact z
            · exact absurd z.1 hk
          subst this
          rw [am_ad.o hc, am_ad.e] at e
          exact absurd e (Nat.ne_of_lt (hP _ _ _ _ _ oo).lt)
      · cases eq
        have : r1 = 0 := by
          rcases hr0 with z | z
          · exact z
          · exact absurd z.1 hk
        subst this
        rcases am_hN.ok o2 with ⟨hc', oo'⟩ | ⟨rfl, eq', hr0'⟩
        · rw [am_ad.o hc', am_ad.e] at e
          exact absurd e.symm (Nat.ne_of_lt (hP _ _ _ _ _ oo').lt)
        · cases eq'
          have : r1' = 0 := by
            rcases hr0' with z | z
            · exact z
            · exact absurd z.1 hk
          exact ⟨rfl, this.symm⟩
    · rcases am_hN.ok o1 with ⟨hc, oo⟩ | ⟨rfl, eq, hr0⟩
      · rw [am_ad.o hc]
        exact hD.2 _ _ _ _ _ oo
      · cases eq
        have : r1 = 0 := by
          rcases hr0 with z | z
          · exact z
          · exact absurd z.1 hk
        subst this
        rw [am_ad.e]
        exact hA _ hS.1
  · exact ⟨Nat.le_trans hS.1 (by omega), fun q q1 q2 => (ho q (Nat.lt_of_lt_of_le q1 hS.1)).trans (hS.2.1 q q1 q2), hS.2.2⟩
  · refine ⟨hL.1, hL.2.1, hL.2.2.1, fun i v hv => ?_⟩
    have hm : some v ∈ L := List.mem_of_getElem? hv
    rw [(hLo v hm).cv]
    exact hL.2.2.2 i v hv
/-- a thing of class k -/
def am_nd (own : String) (idx k n : Nat) : Prop := ∃ (q : vw_C) (ty : Nat → FieldType), am_cl k q ty ∧ q.2.2 = n ∧ Cond.classLink own idx q.1 ∈ am_ws ∧ Cond.instantiable q.1 n ∈ am_ws ∧ Cond.initialized q.1 ∈ am_ws ∧ ∀ f, f < n → defaultValue (ty f) = if am_rf k f = true then .null else .int 0
theorem am_new {X : am_X} {d : Nat} {mt : am_M} {pc : Nat} {L : List (Option am_V)} {st : List am_V} {h : am_H} {r : am_R} {idx : Nat} (k n : Nat) (hd : decode mt.2.1 pc = .ok (.new idx, 3)) (g : am_nd mt.1.cls idx k n) (hz : ∀ f, h.2.1 h.1.length 0 f = 0) (hzr : ∀ f, h.2.2 h.1.length f = none) (hN : h.1.length < 1000) (hrf : ∀ c f, h.2.2 c f ≠ some h.1.length) (hXs : ∀ ad A s a, X ad A s → X (am_ad ad h.1.length a) A s) (hLo : ∀ v, some v ∈ L → am_old h.1.length v) (hso : ∀ v, v ∈ st → am_old h.1.length v) (b1 : am_nc h + 1 ≤ am_rc r) (b2 : am_ns h + n ≤ am_rs r) (kk : am_At X d mt (pc + 3) L (.inr (h.1.length, 0) :: st) (am_hN h (k, n, 0)) r) : am_At X d mt pc L st h r := by
  obtain ⟨q, ty, hcl, hqn, hlk, hins, hini, hty⟩ := g
  have hk13 := am_k13 hcl
  refine am_grow (w := 0) (by omega) hN hrf hXs hLo hso b1 b2 kk ?_
  intro p l e R s m args below meth c0 H locs cells slots mc ms ls D cy A ad Q hC hc hs K
  obtain ⟨hx, htr, hb, hml, hown, hr, hlk', hnm, hex, hts, hG, hA, hRc, hRs, hRf, hRl⟩ := id hC
  have hKn := hG.1.1 k _ hcl.1
  refine W.newcK hx hb hown (hts _ hlk) (hts _ hins) (hts _ hini) rfl hd hc hs hKn.2.1 rfl fun H1 kC hkC e1 z1 o1 => K H1 z1 o1 ?_
  rw [am_eo hk13]
  refine ⟨q, hcl.1, (u_born ty hts hcl.2.1 hKn hkC e1 hcl.2.2.1).to (fun j hj => ?_)⟩
  rw [hqn] at hj
  rw [hty j hj]
  show _ = ((List.range n).map (am_fv (am_ad ad h.1.length H.size) (am_hN h (k, n, 0)) h.1.length k)).getD j .null
  rw [List.getD_eq_getElem?_getD, List.getElem?_map, List.getElem?_range hj]
  show _ = am_fv (am_ad ad h.1.length H.size) (am_hN h (k, n, 0)) h.1.length k j
  unfold am_fv am_hN
  by_cases hq : am_rf k j = true
  · rw [if_pos hq, if_pos hq]
    show _ = va_rf ((h.2.2 h.1.length j).map _)
    rw [hzr]; rfl
  · rw [if_neg hq, if_neg hq]
    show _ = Value.int (h.2.1 h.1.length 0 j)
    rw [hz]
/-- a row of ints -/
theorem am_newi {X : am_X} {d : Nat} {mt : am_M} {pc : Nat} {L : List (Option am_V)} {st : List am_V} {h : am_H} {r : am_R} {x : Int32} (n : Nat) (hd : decode mt.2.1 pc = .ok (.newarray .int, 2)) (hx0 : ¬ x < 0) (hxn : x.toNatClampNeg = n) (hb4 : n * componentBytes .int ≤ 536870912) (harr : Cond.arrayClass .int ∈ am_ws) (hz : ∀ f, h.2.1 h.1.length 0 f = 0) (hN : h.1.length < 1000) (hrf : ∀ c f, h.2.2 c f ≠ some h.1.length) (hXs : ∀ ad A s a, X ad A s → X (am_ad ad h.1.length a) A s) (hLo : ∀ v, some v ∈ L → am_old h.1.length v) (hso : ∀ v, v ∈ st → am_old h.1.length v) (b1 : am_nc h + 1 ≤ am_rc r) (b2 : am_ns h + n ≤ am_rs r) (kk : am_At X d mt (pc + 2) L (.inr (h.1.length, 0) :: st) (am_hN h (100, n, 0)) r) : am_At X d mt pc L (am_I x :: st) h r := by
  refine am_grow (w := 0) (by decide) hN hrf hXs hLo hso b1 b2 kk ?_
  intro p l e R s m args below meth c0 H locs cells slots mc ms ls D cy A ad Q hC hc hs K
  obtain ⟨hx, htr, hb, hml, hown, hr, hlk', hnm, hex, hts, hG, hA, hRc, hRs, hRf, hRl⟩ := id hC
  refine va_newaK hx hb (atype := .int) (hts _ harr) rfl hd rfl hx0 hxn hb4 hc hs rfl fun H1 cA e1 z1 o1 hAr hNm => K H1 z1 o1 ?_
  have hcy : cA = cy 0 := by
    have := (hG.1.2 0 (cy 0, .int) rfl).2
    exact Option.some.inj (hNm.symm.trans this)
  subst hcy
  show H1[H.size]? = some _
  rw [e1]
  refine congrArg some ?_
  show arrV (cy 0) n _ = arrV (cy 0) n (fun j => .int ((am_hN h (100, n, 0)).2.1 h.1.length 0 j))
  refine congrArg (arrV (cy 0) n) (funext fun j => ?_)
  show _ = Value.int (h.2.1 h.1.length 0 j)
  rw [hz]; rfl
