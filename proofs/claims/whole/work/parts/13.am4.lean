
/-! what is known, seen from a callee's start -/
theorem am_AB {A : Nat → Prop} {ad : Nat → Nat → Nat} {h : am_H} {s : State} {H : Heap} {locs : List Loc} (hD : am_D A ad h) (hA : ∀ q, s.heap.size ≤ q → A q) (hS : va_S A s.heap H locs) : ∀ q, am_A ad h H.size q → A q := by
  intro q hq
  rcases hq with ⟨c, r, k, n, w, ho, rfl⟩ | hq
  · exact hD.2 c r k n w ho
  · exact hA q (Nat.le_trans hS.1 hq)
theorem am_ovt {t : FieldType} {B B' : Array Value} {u U : State} (h : u.vm = U.vm) (hb : (Cond.arrayOver t).before B u = true) : (Cond.arrayOver t).before B' U = true := by
  have e : (Cond.arrayOver t).before B (u.setVm U.vm) = (Cond.arrayOver t).before B' (U.setVm U.vm) := rfl
  have h1 : u.setVm U.vm = u := by rw [← h]; rfl
  have h2 : U.setVm U.vm = U := rfl
  rw [h1, h2] at e
  rw [← e]
  exact hb
theorem am_nwo {t : FieldType} {s U : State} (hW : s.WarmedH U.vm) (h : va_Nw (.arrayOver t) s) : va_Nw (.arrayOver t) U := am_ovt (rfl : (s.setVm U.vm).vm = U.vm) ((Cond.arrayOver_setVmC (args := #[]) hW.alike t).trans h)
theorem am_nwm {w : Cond} (hw : w ∈ am_nw) {s U : State} (hW : s.WarmedH U.vm) (h : va_Nw w s) : va_Nw w U := by
  have h2 := (List.mem_filter.mp hw).2
  cases w <;> first | exact absurd h2 (by decide) | exact va_Nw.warmF hW h | exact va_Nw.warmM hW h | exact va_Nw.warmC hW h | exact va_Nw.warmD hW h | exact am_nwo hW h | (simp [am_isn] at h2)
theorem am_nws {w : Cond} (hw : w ∈ am_nw) {s U : State} (e : s.vm = U.vm) (h : va_Nw w s) : va_Nw w U := by
  have h2 := (List.mem_filter.mp hw).2
  cases w <;> first | exact absurd h2 (by decide) | exact va_Nw.same rfl e h | exact am_ovt e h | (simp [am_isn] at h2)
theorem am_G.to {D : va_G} {cy : Nat → ClassId} {ad : Nat → Nat → Nat} {A A1 : Nat → Prop} {s U : State} {H : Heap} {locs : List Loc} (hG : am_G D cy ad A s) (hS : va_S A s.heap H locs) (hAB : ∀ q, A1 q → A q) (hU : U.heap = H) (hW : s.WarmedH U.vm) : am_G D cy ad A1 U := by
  obtain ⟨g1, g2, g3, g4, g5, g6, g7, g8⟩ := hG
  refine ⟨va_K.moved hW.alike g1, fun w hw => am_nwm hw hW (g2 w hw), ?_, ?_, ?_, fun q hq => vk_R.warm hW (g6 q hq), ?_, ?_⟩
  · rw [hU]; exact vx_Zq.narrow (vx_Zq.moved hW.alike (vx_Zq.kept g3 hS.2.1)) hAB
  · rw [hU]; exact vx_Zq.narrow (vx_Zq.moved hW.alike (vx_Zq.kept g4 hS.2.1)) hAB
  · rw [hU]; exact vk_S.narrow (vk_S.moved hW.alike (vk_S.kept g5 hS.2.1)) hAB
  · rw [hU]; exact va_Z.narrow (va_Z.moved hW.alike (va_Z.kept g7 hS.2.1)) hAB
  · rw [hU]; exact va_Zq.narrow (va_Zq.moved hW.alike (va_Zq.kept g8 hS.2.1)) hAB
/-- a callee's start doesn't mind the frames -/
theorem am_blind {av : List Value} {D : va_G} {cy : Nat → ClassId} {ad : Nat → Nat → Nat} {A : Nat → Prop} {h : am_H} {sz : Nat} : FrameBlind (va_Pc av (fun U => U.heap.size = sz ∧ am_P D cy ad h U.heap ∧ am_D (fun _ => True) ad h ∧ am_G D cy ad A U)) := by
  intro a U g mk q
  obtain ⟨q0, q1, q2, q3, q4⟩ := q
  refine ⟨q0, q1, q2, q3, ?_⟩
  obtain ⟨g1, g2, g3, g4, g5, g6, g7, g8⟩ := q4
  have hv : U.vm = (U.calling g mk a).vm := rfl
  have hal : U.vm.Alike (U.calling g mk a).vm := Vm.Alike.refl U.vm
  exact ⟨va_K.moved hal g1, fun w hw => am_nws hw hv (g2 w hw), vx_Zq.moved hal g3, vx_Zq.moved hal g4, vk_S.moved hal g5, fun q hq => vk_R.same hv.symm (g6 q hq), va_Z.moved hal g7, va_Zq.moved hal g8⟩
theorem am_pre {av : List Value} {D : va_G} {cy : Nat → ClassId} {ad : Nat → Nat → Nat} {A : Nat → Prop} {h : am_H} {s : State} {H : Heap} {locs : List Loc} (hP : am_P D cy ad h H) (hD : am_D A ad h) (hA : ∀ q, s.heap.size ≤ q → A q) (hS : va_S A s.heap H locs) (hG : am_G D cy ad A s) :
    ∀ U : State, U.heap = H → s.WarmedH U.vm → va_Pc av (fun U => U.heap.size = H.size ∧ am_P D cy ad h U.heap ∧ am_D (fun _ => True) ad h ∧ am_G D cy ad (am_A ad h H.size) U) av.toArray U :=
  fun U hU hW => ⟨rfl, by rw [hU], by rw [hU]; exact hP, ⟨hD.1, fun _ _ _ _ _ _ => trivial⟩, am_G.to hG hS (am_AB hD hA hS) hU hW⟩
/-- behind a call -/
theorem am_after {p : Program} {l : Launch} {e : Env} {R : Room} {s : State} {m : MethodId} {args : Array Value} {below : List Frame} {meth : Method} {c : Code} {H : Heap} {locs : List Loc} {cells slots mc1 ms1 : Nat} {Q : State → Prop} {pc : Nat} {ls : Array Slot} {st0 rest : List Value} {D : va_G} {cy : Nat → ClassId} {A : Nat → Prop} {ad : Nat → Nat → Nat} {h : am_H} {r1 : am_R} {a : Array Value}
    (hr : vx_Run p l e R s m args below meth c H locs cells slots mc1 ms1 (F0 m pc ls st0) rest (am_Qc r1 D cy (am_A ad h H.size) ad h a) (am_XC r1 D cy (am_A ad h H.size) ad h) (am_A ad h H.size)) (hAB : ∀ q, am_A ad h H.size q → A q) (hS : va_S A s.heap H locs)
    (kx : ∀ (E : String) (h1 : am_H) (ad1 : Nat → Nat → Nat) (H1 : Heap) (locs1 : List Loc) (q : Addr) (ce : Cell), r1 = .inr (E, h1) → am_ag h h1 ad ad1 → am_P D cy ad1 h1 H1 → am_D A ad1 h1 → va_S A s.heap H1 locs1 → H1[q]? = some ce → ce.vm = .none → s.vm.findClass E = some ce.cls → vx_W p l e R s m args below meth c H1 locs1 (cells + mc1) (slots + ms1) Q (F0 m pc ls rest) q)
    (kk : ∀ (v : Option am_V) (h1 : am_H) (ad1 : Nat → Nat → Nat) (H1 : Heap) (locs1 : List Loc), r1 = .inl (v, h1) → am_ag h h1 ad ad1 → am_P D cy ad1 h1 H1 → am_D A ad1 h1 → va_S A s.heap H1 locs1 → W p l e R s m args below meth c H1 locs1 (cells + mc1) (slots + ms1) Q (F0 m (pc + 3) ls ((v.map (am_cv ad1)).toList ++ rest))) :
    W p l e R s m args below meth c H locs cells slots Q (F0 m pc ls st0) := by
  intro T hT X
  rcases hr T hT X with ⟨v, st₀, t, T', L, h0, X', hL, e1, e2, ⟨⟨v1, h1, ad1, er, ev, hag, hP1, hD1⟩, hF⟩, st⟩ | ⟨q, st₀, t, T', L, E, ce, h0, X', hL, e1, e2, ⟨⟨h1, ad1, er, hag, hP1, hD1⟩, hF⟩, hce, hcv, hcl, st⟩
  · cases ev
    obtain ⟨k1, k2, k3⟩ := vx_keep h0 e1 hS (fun q _ z => hAB q z) hAB hL hF
    obtain ⟨t2, a1, b1⟩ := kk v1 h1 ad1 T'.heap (locs ++ L) er hag (by rw [e1]; exact hP1) ⟨hD1.1, fun c r k n w ho => hAB _ (hD1.2 c r k n w ho)⟩ k3 T' rfl X'
    exact ⟨t2, st t2 a1, b1⟩
  · obtain ⟨k1, k2, k3⟩ := vx_keep h0 e1 hS (fun q _ z => hAB q z) hAB hL hF
    obtain ⟨t2, a1, b1⟩ := kx E h1 ad1 T'.heap (locs ++ L) q ce er hag (by rw [e1]; exact hP1) ⟨hD1.1, fun c r k n w ho => hAB _ (hD1.2 c r k n w ho)⟩ k3 (by rw [e1]; exact hce) hcv hcl T' rfl X'
    exact ⟨t2, st.trans a1, b1⟩
theorem am_run {p : Program} {l : Launch} {e : Env} {R : Room} {s : State} {m : MethodId} {args : Array Value} {below : List Frame} {meth : Method} {c : Code} {H : Heap} {locs : List Loc} {cells slots mc1 ms1 : Nat} {g : JFrame} {rest : List Value} {Qa : State → Outcome → State → Prop} {XC : String → State → State → Prop} {free : Addr → Prop} (h : va_Run p l e R s m args below meth c H locs cells slots mc1 ms1 g rest Qa free) : vx_Run p l e R s m args below meth c H locs cells slots mc1 ms1 g rest Qa XC free := by
  intro T hT X
  obtain ⟨v, st₀, t, T', L, h0, X', hL, e1, e2, hq, st⟩ := h T hT X
  exact Or.inl ⟨v, st₀, t, T', L, h0, X', hL, e1, e2, hq, st⟩
/-- a method that returns -/
theorem am_Ev.met {d : Nat} {mt : am_M} {as : List am_V} {h h1 : am_H} {v : Option am_V} (E : am_Ev d mt as h (.inl (v, h1))) (l : Launch) (hl : l.stackTraces = false) (D : va_G) (cy : Nat → ClassId) (ad : Nat → Nat → Nat) (sz : Nat) :
    Met l mt.1 (Cond.code mt.1 mt.2.1 mt.2.2.1 mt.2.2.2 :: am_ws) { frames := d + 8, cells := am_rc (.inl (v, h1)) - am_nc h, slots := am_rs (.inl (v, h1)) - am_ns h, locals := 64 * d + 256 }
      (va_Pc (as.map (am_cv ad)) (fun U => U.heap.size = sz ∧ am_P D cy ad h U.heap ∧ am_D (fun _ => True) ad h ∧ am_G D cy ad (am_A ad h sz) U))
      (am_Qc (.inl (v, h1)) D cy (am_A ad h sz) ad h) (am_rc (.inl (v, h1)) - am_nc h) (am_rs (.inl (v, h1)) - am_ns h) (am_A ad h sz) := by
  refine MetFree.mono (E l hl D cy ad sz) (fun _ _ z => z) (fun _ _ _ _ _ z => z) (fun a s o t _ z => ?_)
  rcases z with z | ⟨q, -, E, ce, L, ⟨⟨_, _, z, -⟩, -⟩, -⟩
  · exact z
  · cases z
theorem am_goodc {y : MethodName} {cc : ByteArray} {n : Nat} {ret : Option FieldType} (h : Cond.code y cc n ret ∈ am_ws) : GoodIn am_ws (Cond.code y cc n ret :: am_ws) := by
  intro w hw
  have hm : w ∈ am_ws := by
    rcases List.mem_cons.mp hw with e | e
    · rw [e]; exact h
    · exact e
  exact ⟨hm, good_of_word (List.mem_filter.mp hm).2⟩
/-- what a callee's name needs: its code, its class, its descriptor -/
def am_md (y : am_M) (n : Nat) : Prop := Cond.code y.1 y.2.1 y.2.2.1 y.2.2.2 ∈ am_ws ∧ Cond.initialized y.1.cls ∈ am_ws ∧ (y.1.cls ≠ "java/lang/invoke/MethodHandle" ∧ y.1.cls ≠ "java/lang/invoke/VarHandle" ∧ (parseMethodDescriptor y.1.desc).map (fun d => d.parameters.length) = some n) ∧ y.2.2.1 ≤ 40
/-- an instance method of class k -/
def am_vm (y : am_M) (k n : Nat) : Prop := am_md y n ∧ Cond.instanceMethod y.1 ∈ am_ws ∧ Cond.selects y.1.cls y.1 y.1 ∈ am_ws ∧ ∃ q, vwCl[k]? = some q ∧ q.1 = y.1.cls
set_option maxRecDepth 100000 in
theorem am_arith {a d d1 rl : Nat} (h : a ≤ 40) (h2 : 64 * d + 256 ≤ rl) (h3 : d1 + 1 ≤ d) : 8 + (a + 11) + (64 * d1 + 256) ≤ rl := by omega
theorem am_cb {R : Room} {s : State} {args : Array Value} {own : String} {idx n d d1 mc1 ms1 : Nat} {y : am_M} (hts : ∀ w ∈ am_ws, w.before args s = true) (g : am_md y n) (hl : Cond.methodLink own idx y.1 ∈ am_ws) (hRf : d + 8 ≤ R.frames) (hRl : 64 * d + 256 ≤ R.locals) (hd : d1 + 1 ≤ d) :
    CallB R s args own idx y.1 y.2.1 y.2.2.1 y.2.2.2 (Cond.code y.1 y.2.1 y.2.2.1 y.2.2.2 :: am_ws) { frames := d1 + 8, cells := mc1, slots := ms1, locals := 64 * d1 + 256 } mc1 ms1 n := by
  obtain ⟨g1, g2, g3, g4⟩ := g
  have hf : d1 + 8 + 1 ≤ R.frames := by omega
  have hq : 8 + (y.2.2.1 + 11) + (64 * d1 + 256) ≤ R.locals := am_arith g4 hRl hd
  exact callB_of n hts (am_goodc g1) rfl rfl rfl (hts _ g2) (hts _ hl) g3 ⟨hf, hq⟩
theorem am_monoX {p : Program} {l : Launch} {e : Env} {R : Room} {s : State} {m : MethodId} {args : Array Value} {below : List Frame} {meth : Method} {c : Code} {H : Heap} {locs : List Loc} {cells slots : Nat} {Q Q' : State → Prop} {g : JFrame} {q : Addr} (k : vx_W p l e R s m args below meth c H locs cells slots Q g q) (hQ : ∀ t, Q t → Q' t) : vx_W p l e R s m args below meth c H locs cells slots Q' g q := fun T hT X => by
  obtain ⟨t, a, b⟩ := k T hT X
  exact ⟨t, a, hQ t b⟩
/-- the receiver's cell -/
theorem am_recv {D : va_G} {cy : Nat → ClassId} {ad : Nat → Nat → Nat} {h : am_H} {H : Heap} {s : State} {tys : List (ClassId × FieldType)} {c k n w : Nat} {q : vw_C} (hP : am_P D cy ad h H) (hK : va_K D vwCl tys s) (hs : h.1[c]? = some (k, n, w)) (hq : vwCl[k]? = some q) : ∃ cellB : Cell, H[ad c 0]? = some cellB ∧ cellB.vm.isStatics = false ∧ s.vm.findClass q.1 = some cellB.cls := by
  have hat := hP c 0 k n w ⟨hs, Or.inl rfl⟩
  rw [am_eo (List.getElem?_eq_some_iff.mp hq).1] at hat
  obtain ⟨r, h1, cell, q1, q2, q3, q4⟩ := hat
  have hr : r = q := Option.some.inj (h1.symm.trans hq)
  subst hr
  obtain ⟨-, hfc, -⟩ := hK.1 k _ hq
  exact ⟨cell, q1, by rw [q3]; rfl, by rw [q2]; exact hfc⟩
