/-! THE LAW'S START: what the statement gives -/
theorem lw_in {w : Cond} (k i : Nat) (h : (am_ch k)[i]? = some w) : w ∈ lw_tbl := List.mem_append_right _ (am_chm k (List.mem_of_getElem? h))
theorem lw_arr {args : Array Value} {s : State} {ty : FieldType} (h : (Cond.arrayClass ty).before args s = true) : ∃ c : ClassId, ArrOfT s c ty ∧ s.vm.findClass ("[" ++ ty.toString) = some c := by
  obtain ⟨c, k, comp, h1, h2, h3⟩ := Cond.arrayClass_spec h
  exact ⟨c, fun n z => ⟨(fun k9 q => by cases q), k, h2, comp, h3⟩, h1⟩
theorem lw_arrO {args : Array Value} {s : State} (h : (Cond.arrayOver (.array .int)).before args s = true) : ∃ c : ClassId, ArrOfT s c (.array .int) ∧ s.vm.findClass ("[" ++ (FieldType.array .int).toString) = some c := by
  obtain ⟨comp, c, k, h1, h2, h3, h4⟩ := Cond.arrayOver_specA h
  exact ⟨c, fun n z => ⟨(fun k9 q => by cases q), k, h2, comp, h3⟩, h4⟩
def sT (i : Nat) : Term := match i with
  | 0 => .string "LiddedRiver$Bed" 76
  | 1 => .string "LiddedRiver$Law" 61
  | 2 => .string "LiddedRiver$Law" 70
  | 3 => .string "LiddedRiver$Law" 79
  | 4 => .string "LiddedRiver$Law" 89
  | 5 => .string "LiddedRiver$Steps" 52
  | 6 => .string "LiddedRiver" 401
  | _ => .string "LiddedRiver" 408
def lw_pre : Cond := Jvm.Cond.and given_1 narrow_1
theorem sT_ex : ∀ i, i < 8 → Cond.exactly (sT i) "java/lang/String" ∈ flatC lw_pre := by decide +kernel
theorem sT_co : ∀ i, i < 8 → Cond.eq (.field (sT i) "java/lang/String" "coder" "B") (.int 0) ∈ flatC lw_pre := by decide +kernel
theorem sT_ar : ∀ i, i < 8 → Cond.arrayOf (.field (sT i) "java/lang/String" "value" "[B") .byte ∈ flatC lw_pre := by decide +kernel
theorem sT_le : ∀ i, i < 8 → Cond.eq (.length (.field (sT i) "java/lang/String" "value" "[B")) (.int (Int32.ofNat (am_Slen.getD i 0))) ∈ flatC lw_pre := by decide +kernel
theorem sT_e0 : ∀ j, j < 34 → (flatC lw_pre)[63 + j]? = some (Cond.eq (.elem (.field (sT 0) "java/lang/String" "value" "[B") (.int (Int32.ofNat j))) (.int ((am_Sbyt.getD 0 []).getD j 0))) := by decide +kernel
theorem sT_e1 : ∀ j, j < 2 → (flatC lw_pre)[182 + j]? = some (Cond.eq (.elem (.field (sT 1) "java/lang/String" "value" "[B") (.int (Int32.ofNat j))) (.int ((am_Sbyt.getD 1 []).getD j 0))) := by decide +kernel
theorem sT_e2 : ∀ j, j < 3 → (flatC lw_pre)[171 + j]? = some (Cond.eq (.elem (.field (sT 2) "java/lang/String" "value" "[B") (.int (Int32.ofNat j))) (.int ((am_Sbyt.getD 2 []).getD j 0))) := by decide +kernel
theorem sT_e3 : ∀ j, j < 1 → (flatC lw_pre)[102 + j]? = some (Cond.eq (.elem (.field (sT 3) "java/lang/String" "value" "[B") (.int (Int32.ofNat j))) (.int ((am_Sbyt.getD 3 []).getD j 0))) := by decide +kernel
theorem sT_e4 : ∀ j, j < 55 → (flatC lw_pre)[109 + j]? = some (Cond.eq (.elem (.field (sT 4) "java/lang/String" "value" "[B") (.int (Int32.ofNat j))) (.int ((am_Sbyt.getD 4 []).getD j 0))) := by decide +kernel
theorem sT_e5 : ∀ j, j < 26 → (flatC lw_pre)[193 + j]? = some (Cond.eq (.elem (.field (sT 5) "java/lang/String" "value" "[B") (.int (Int32.ofNat j))) (.int ((am_Sbyt.getD 5 []).getD j 0))) := by decide +kernel
theorem sT_e6 : ∀ j, j < 20 → (flatC lw_pre)[229 + j]? = some (Cond.eq (.elem (.field (sT 6) "java/lang/String" "value" "[B") (.int (Int32.ofNat j))) (.int ((am_Sbyt.getD 6 []).getD j 0))) := by decide +kernel
theorem sT_e7 : ∀ j, j < 16 → (flatC lw_pre)[43 + j]? = some (Cond.eq (.elem (.field (sT 7) "java/lang/String" "value" "[B") (.int (Int32.ofNat j))) (.int ((am_Sbyt.getD 7 []).getD j 0))) := by decide +kernel
theorem sT_el : ∀ i, i < 8 → ∀ j, j < am_Slen.getD i 0 → Cond.eq (.elem (.field (sT i) "java/lang/String" "value" "[B") (.int (Int32.ofNat j))) (.int ((am_Sbyt.getD i []).getD j 0)) ∈ flatC lw_pre := by
  intro i hi j hj
  match i, hi, hj with
  | 0, _, hj => exact List.mem_of_getElem? (sT_e0 j hj)
  | 1, _, hj => exact List.mem_of_getElem? (sT_e1 j hj)
  | 2, _, hj => exact List.mem_of_getElem? (sT_e2 j hj)
  | 3, _, hj => exact List.mem_of_getElem? (sT_e3 j hj)
  | 4, _, hj => exact List.mem_of_getElem? (sT_e4 j hj)
  | 5, _, hj => exact List.mem_of_getElem? (sT_e5 j hj)
  | 6, _, hj => exact List.mem_of_getElem? (sT_e6 j hj)
  | 7, _, hj => exact List.mem_of_getElem? (sT_e7 j hj)
  | i + 8, hi, _ => omega
theorem sT_ne : ∀ i, i < 8 → ∀ j, j < 8 → i ≠ j → Cond.not (Cond.eq (sT i) (sT j)) ∈ flatC lw_pre ∨ Cond.not (Cond.eq (sT j) (sT i)) ∈ flatC lw_pre := by decide +kernel
theorem sT_ln : ∀ i, i < 8 → am_Slen.getD i 0 < 2 ^ 31 := by decide +kernel
def lw_A (s : State) : Nat → Prop := fun q => s.heap.size ≤ q
theorem lw_str {args : Array Value} {s : State} (hs : ∀ w ∈ flatC lw_pre, w.before args s = true) : ∃ adK adV : Nat → Nat, vk_S am_SN am_Slen am_Sbyt adK adV (lw_A s) s s.heap ∧ ∀ i : Nat, i < 8 → (sT i).eval args s none [] s = some (.ref (adK i)) :=
  vk_Sof (N := 8) (tm := sT) sT_ln (fun i hi => hs _ (sT_ex i hi)) (fun i hi => hs _ (sT_co i hi)) (fun i hi => hs _ (sT_ar i hi)) (fun i hi => hs _ (sT_le i hi)) (fun i hi j hj => hs _ (sT_el i hi j hj)) (fun i j hi hj hij => by
    rcases sT_ne i hi j hj hij with h | h
    · exact Or.inl (hs _ h)
    · exact Or.inr (hs _ h)) (fun a ha => Nat.not_le.mpr ha)
theorem lw_refs {args : Array Value} {s : State} {f : Nat → Nat} (hts : ∀ w ∈ lw_tbl, w.before args s = true) (hev : ∀ i : Nat, i < 8 → (sT i).eval args s none [] s = some (.ref (f i))) : ∀ q ∈ am_Srefs, vk_R q.1 q.2.1 q.2.2.1 (f q.2.2.2) s := by
  intro q hq
  unfold am_Srefs at hq
  simp only [List.mem_cons, List.not_mem_nil, or_false] at hq
  rcases hq with rfl | rfl | rfl | rfl | rfl | rfl | rfl | rfl
  · exact vk_R.of (hts _ (lw_in 3 163 (by decide +kernel))) (hev 0 (by decide))
  · exact vk_R.of (hts _ (lw_in 4 81 (by decide +kernel))) (hev 1 (by decide))
  · exact vk_R.of (hts _ (lw_in 4 80 (by decide +kernel))) (hev 2 (by decide))
  · exact vk_R.of (hts _ (lw_in 4 67 (by decide +kernel))) (hev 3 (by decide))
  · exact vk_R.of (hts _ (lw_in 4 78 (by decide +kernel))) (hev 4 (by decide))
  · exact vk_R.of (hts _ (lw_in 4 113 (by decide +kernel))) (hev 5 (by decide))
  · exact vk_R.of (hts _ (lw_in 5 62 (by decide +kernel))) (hev 6 (by decide))
  · exact vk_R.of (hts _ (lw_in 3 115 (by decide +kernel))) (hev 7 (by decide))
theorem lw_cls {args : Array Value} {s : State} (hts : ∀ w ∈ lw_tbl, w.before args s = true) : ∃ D : va_G, ∀ (c : Nat) (q : vw_C), vwCl[c]? = some q → u_Kn s q.1 q.2.1 q.2.2 (D.1 c) (D.2 c) := by
  have hws : ∀ w ∈ am_ws, w.before args s = true := fun w hw => hts w (List.mem_filter.mp hw).1
  have h0 : ∀ c : Nat, ∃ z : ClassId × (Nat → Nat), ∀ q : vw_C, vwCl[c]? = some q → u_Kn s q.1 q.2.1 q.2.2 z.1 z.2 := by
    intro c
    match c with
    | 0 =>
      obtain ⟨cC, iS, hk⟩ := u_known (C := RX0) (T := TX0) (N := 4) (n := 4) hws cl_w0 (hts _ (lw_in 2 129 (by decide +kernel)))
      exact ⟨(cC, iS), fun q hq => by cases hq; exact hk⟩
    | 1 =>
      obtain ⟨cC, iS, hk⟩ := u_known (C := RX1) (T := TX1) (N := 14) (n := 14) hws cl_w1 (hts _ (lw_in 1 66 (by decide +kernel)))
      exact ⟨(cC, iS), fun q hq => by cases hq; exact hk⟩
    | 2 =>
      obtain ⟨cC, iS, hk⟩ := u_known (C := RX2) (T := TX2) (N := 3) (n := 3) hws cl_w2 (hts _ (lw_in 2 73 (by decide +kernel)))
      exact ⟨(cC, iS), fun q hq => by cases hq; exact hk⟩
    | 3 =>
      obtain ⟨cC, iS, hk⟩ := u_known (C := RX3) (T := TX3) (N := 7) (n := 7) hws cl_w3 (hts _ (lw_in 1 150 (by decide +kernel)))
      exact ⟨(cC, iS), fun q hq => by cases hq; exact hk⟩
    | 4 =>
      obtain ⟨cC, iS, hk⟩ := u_known (C := RX4) (T := TX4) (N := 2) (n := 2) hws cl_w4 (hts _ (lw_in 1 190 (by decide +kernel)))
      exact ⟨(cC, iS), fun q hq => by cases hq; exact hk⟩
    | 5 =>
      obtain ⟨cC, iS, hk⟩ := u_known (C := RX5) (T := TX5) (N := 8) (n := 8) hws cl_w5 (hts _ (lw_in 2 89 (by decide +kernel)))
      exact ⟨(cC, iS), fun q hq => by cases hq; exact hk⟩
    | 6 =>
      obtain ⟨cC, iS, hk⟩ := u_known (C := RX6) (T := TX6) (N := 11) (n := 11) hws cl_w6 (hts _ (lw_in 2 27 (by decide +kernel)))
      exact ⟨(cC, iS), fun q hq => by cases hq; exact hk⟩
    | 7 =>
      obtain ⟨cC, iS, hk⟩ := u_known (C := RX7) (T := TX7) (N := 4) (n := 4) hws cl_w7 (hts _ (lw_in 1 215 (by decide +kernel)))
      exact ⟨(cC, iS), fun q hq => by cases hq; exact hk⟩
    | 8 =>
      obtain ⟨cC, iS, hk⟩ := u_known (C := RX8) (T := TX8) (N := 1) (n := 1) hws cl_w8 (hts _ (lw_in 1 204 (by decide +kernel)))
      exact ⟨(cC, iS), fun q hq => by cases hq; exact hk⟩
    | 9 =>
      obtain ⟨cC, iS, hk⟩ := u_known (C := RX9) (T := TX9) (N := 7) (n := 7) hws cl_w9 (hts _ (lw_in 1 238 (by decide +kernel)))
      exact ⟨(cC, iS), fun q hq => by cases hq; exact hk⟩
    | 10 =>
      obtain ⟨cC, iS, hk⟩ := u_known (C := RX10) (T := TX10) (N := 7) (n := 7) hws cl_w10 (hts _ (lw_in 1 36 (by decide +kernel)))
      exact ⟨(cC, iS), fun q hq => by cases hq; exact hk⟩
    | 11 =>
      obtain ⟨cC, iS, hk⟩ := u_known (C := RX11) (T := TX11) (N := 15) (n := 15) hws cl_w11 (hts _ (lw_in 1 28 (by decide +kernel)))
      exact ⟨(cC, iS), fun q hq => by cases hq; exact hk⟩
    | 12 =>
      obtain ⟨cC, iS, hk⟩ := u_known (C := RX12) (T := TX12) (N := 50) (n := 50) hws cl_w12 (hts _ (lw_in 6 221 (by decide +kernel)))
      exact ⟨(cC, iS), fun q hq => by cases hq; exact hk⟩
    | c + 13 => exact ⟨(0, fun _ => 0), fun q hq => by
        have : (c + 13) < 13 := (List.getElem?_eq_some_iff.mp hq).1
        omega⟩
  obtain ⟨f, hf⟩ := Classical.axiomOfChoice h0
  exact ⟨(fun c => (f c).1, fun c => (f c).2), fun c q hq => hf c q hq⟩
theorem lw_nws {args : Array Value} {s : State} (hts : ∀ w ∈ lw_tbl, w.before args s = true) : ∀ w ∈ am_nw, va_Nw w s := by
  intro w hw
  have h1 := hts w (List.mem_filter.mp hw).1
  have h2 := (List.mem_filter.mp hw).2
  cases w <;> first | exact absurd h2 (by decide) | exact va_Nw.of rfl h1 | exact am_ovt rfl h1 | (simp [am_isn] at h2)
theorem lw_G {b : Nat} {args : Array Value} {s : State} (hts : ∀ w ∈ lw_tbl, w.before args s = true) (hgv : lw_pre.before args s = true) : ∃ (D : va_G) (cy : Nat → ClassId) (ad : Nat → Nat → Nat), am_G D cy ad (lw_A s) s ∧ ad 3000 0 = b := by
  have hs := flat_of_before _ hgv
  have hA : ∀ a : Nat, a < s.heap.size → ¬ lw_A s a := fun a ha => Nat.not_le.mpr ha
  obtain ⟨adK, adV, hS, hev⟩ := lw_str hs
  obtain ⟨D, hD⟩ := lw_cls hts
  obtain ⟨c0, a0, f0⟩ := lw_arr (ty := .int) (hts _ (lw_in 1 148 (by decide +kernel)))
  obtain ⟨c1, a1, f1⟩ := lw_arr (ty := .byte) (hts _ (lw_in 1 64 (by decide +kernel)))
  obtain ⟨c2, a2, f2⟩ := lw_arr (ty := .long) (hts _ (lw_in 9 78 (by decide +kernel)))
  obtain ⟨c3, a3, f3⟩ := lw_arrO (hts _ (lw_in 1 221 (by decide +kernel)))
  have e1 : ∀ i, i < 8 → (fun c (_ : Nat) => if c = 3000 then b else if c < 2000 then adK (c - 1000) else adV (c - 2000)) (1000 + i) 0 = adK i := by
    intro i hi
    show (if 1000 + i = 3000 then b else if 1000 + i < 2000 then adK (1000 + i - 1000) else adV (1000 + i - 2000)) = adK i
    rw [if_neg (by omega), if_pos (by omega), show 1000 + i - 1000 = i by omega]
  have e2 : ∀ i, i < 8 → (fun c (_ : Nat) => if c = 3000 then b else if c < 2000 then adK (c - 1000) else adV (c - 2000)) (2000 + i) 0 = adV i := by
    intro i hi
    show (if 2000 + i = 3000 then b else if 2000 + i < 2000 then adK (2000 + i - 1000) else adV (2000 + i - 2000)) = adV i
    rw [if_neg (by omega), if_neg (by omega), show 2000 + i - 2000 = i by omega]
  refine ⟨D, fun k => match k with | 0 => c0 | 1 => c1 | 2 => c2 | _ => c3, fun c _ => if c = 3000 then b else if c < 2000 then adK (c - 1000) else adV (c - 2000), ⟨⟨hD, ?_⟩, lw_nws hts, ?_, ?_, ?_, ?_, ?_, ?_⟩, rfl⟩
  · intro k q hq
    match k, hq with
    | 0, hq => cases hq; exact ⟨a0, f0⟩
    | 1, hq => cases hq; exact ⟨a1, f1⟩
    | 2, hq => cases hq; exact ⟨a2, f2⟩
    | 3, hq => cases hq; exact ⟨a3, f3⟩
    | k + 4, hq =>
      have : (k + 4) < 4 := (List.getElem?_eq_some_iff.mp hq).1
      omega
  · exact vx_Zqof (hts _ (lw_in 3 102 (by decide +kernel))) (hts _ (lw_in 1 16 (by decide +kernel))) (hs _ (by decide +kernel)) hA
  · exact vx_Zqof (hts _ (lw_in 3 104 (by decide +kernel))) (hts _ (lw_in 1 16 (by decide +kernel))) (hs _ (by decide +kernel)) hA
  · refine ⟨fun i hi => ?_, fun i j hi hj e => ?_⟩
    · have h1 := e1 i hi
      have h2 := e2 i hi
      simp only at h1 h2
      simp only [h1, h2]
      exact hS.1 i hi
    · have h1 := e1 i hi
      have h2 := e1 j hj
      simp only at h1 h2 e
      rw [h1, h2] at e
      exact hS.2 i j hi hj e
  · intro q hq
    have h8 : ∀ q ∈ am_Srefs, q.2.2.2 < 8 := by decide
    have h1 := e1 q.2.2.2 (h8 q hq)
    simp only at h1
    simp only [h1]
    exact lw_refs hts hev q hq
  · exact va_Zof (hts _ (lw_in 3 181 (by decide +kernel))) (hts _ (lw_in 1 20 (by decide +kernel))) (va_eqt (hs _ (by decide +kernel))) hA
  · exact va_Zqof (hts _ (lw_in 3 197 (by decide +kernel))) (hts _ (lw_in 1 22 (by decide +kernel))) (hs _ (by decide +kernel)) hA
