/-! ALL CALLS -/
def INV (qc qd qs qn : Nat) (M : Mem) : Prop := Rel qc qs M ∧ P9 M ∧ ((qc = 24 ∧ qd = 25) ∨ (qc = 25 ∧ qd = 24)) ∧ ((qs = 46 ∧ qn = 47) ∨ (qs = 47 ∧ qn = 46))
theorem okpc {α : Type} {x : Option α} {P Q : α → Prop} (h : ok x P) (q : pc Q x) : ok x (fun a => P a ∧ Q a) := by
  obtain ⟨a, rfl, hp⟩ := h
  exact ⟨a, rfl, hp, q a rfl⟩
theorem INV_54 {qc qd qs qn : Nat} {M : Mem} (h : INV qc qd qs qn M) : qc ≠ 54 ∧ qd ≠ 54 ∧ qs ≠ 54 ∧ qn ≠ 54 := by
  obtain ⟨-, -, a, b⟩ := h
  rcases a with ⟨rfl, rfl⟩ | ⟨rfl, rfl⟩ <;> rcases b with ⟨rfl, rfl⟩ | ⟨rfl, rfl⟩ <;> decide
theorem comb {α : Type} {qc qd qs qn : Nat} {M : Mem} {C : Option (α × Mem)} {D : Mem → Option (Int32 × Mem)} {A : α → Int32 → Int32 → Prop} (h : INV qc qd qs qn M) (t : ok C (fun r => ok (D r.2) (fun r' => A r.1 r'.1 (r'.2 54 0 0) ∧ Rel qc qs r'.2))) (qC : pc (fun r => P9 r.2) C) (qD : ∀ N, P9 N → pc (fun r => P9 r.2) (D N)) : ok C (fun r => ok (D r.2) (fun r' => A r.1 r'.1 (r'.2 54 0 0) ∧ INV qc qd qs qn r'.2)) := by
  refine ok_mono (okpc t qC) ?_
  rintro r ⟨a, b⟩
  refine ok_mono (okpc a (qD _ b)) ?_
  rintro r' ⟨⟨c, d⟩, e⟩
  exact ⟨c, d, e, h.2.2⟩
theorem INV_c {qc qd qs qn : Nat} {M M' : Mem} {b : Bool} (h : INV qc qd qs qn M) (r : Rel (if b = true then qd else qc) qs M') (p : P9 M') : INV (if b = true then qd else qc) (if b = true then qc else qd) qs qn M' := by
  refine ⟨r, p, ?_, h.2.2.2⟩
  cases b with
  | false => exact h.2.2.1
  | true => exact h.2.2.1.elim (fun z => Or.inr ⟨z.2, z.1⟩) (fun z => Or.inl ⟨z.2, z.1⟩)
theorem INV_s {qc qd qs qn : Nat} {M M' : Mem} {b : Bool} (h : INV qc qd qs qn M) (r : Rel qc (if b = true then qn else qs) M') (p : P9 M') : INV qc qd (if b = true then qn else qs) (if b = true then qs else qn) M' := by
  refine ⟨r, p, h.2.2.1, ?_⟩
  cases b with
  | false => exact h.2.2.2
  | true => exact h.2.2.2.elim (fun z => Or.inr ⟨z.2, z.1⟩) (fun z => Or.inl ⟨z.2, z.1⟩)
theorem u_fault {qc qd qs qn : Nat} {M : Mem} (h : INV qc qd qs qn M) : f_X11_fault M = (f_X12_fault M).1 ∧ INV qc qd qs qn (f_X12_fault M).2 := ⟨(fault_ok h.1).1, (fault_ok h.1).2, P9_j h.2.1 (by decide), h.2.2⟩
theorem u_count {qc qd qs qn : Nat} {x : Int32} {M : Mem} (h : INV qc qd qs qn M) : f_X11_count x M = (f_X12_count x M).1 ∧ INV qc qd qs qn (f_X12_count x M).2 := by
  refine ⟨(count_ok h.1).1, (count_ok h.1).2, ?_, h.2.2⟩
  unfold f_X12_count
  split
  · exact P9_j h.2.1 (by decide)
  · split
    · exact P9_j h.2.1 (by decide)
    · split
      · exact P9_j h.2.1 (by decide)
      · exact P9_j h.2.1 (by decide)
theorem u_status {qc qd qs qn : Nat} {x : Int32} {M : Mem} (h : INV qc qd qs qn M) : ok (f_X12_status x M) (fun r => f_X11_status x M = r.1 ∧ INV qc qd qs qn r.2) := by
  refine ok_mono (okpc (status_ok h.1) (q_f_X12_status h.2.1)) ?_
  rintro r ⟨⟨a, b⟩, c⟩
  exact ⟨a, b, c, h.2.2⟩
theorem u_work {qc qd qs qn : Nat} {x : Int32} {M : Mem} (h : INV qc qd qs qn M) : ok (f_X11_work qc qd x M) (fun r => ok (f_X12_work x r.2) (fun r' => ans1 r.1 r'.1 (r'.2 54 0 0) ∧ INV qc qd qs qn r'.2)) := by
  refine ok_mono (t_work (qd := qd) h.1 h.2.1) ?_
  intro r a
  refine ok_mono a ?_
  rintro r' ⟨b, c, d⟩
  exact ⟨b, c, d, h.2.2⟩
theorem u_law {qc qd qs qn : Nat} {x : Int32} {M : Mem} (h : INV qc qd qs qn M) : ok (f_X11_law qc qd x M) (fun r => ok (f_X12_law x r.2.2) (fun r' => ans1 r.1 r'.1 (r'.2 54 0 0) ∧ INV (if r.2.1 = true then qd else qc) (if r.2.1 = true then qc else qd) qs qn r'.2)) := by
  obtain ⟨n1, n2, n3, n4⟩ := INV_54 h
  refine ok_mono (okpc (t_law h.1 h.2.2.1) (q_f_X11_law n1 n2 h.2.1)) ?_
  rintro r ⟨a, b⟩
  refine ok_mono (okpc a (q_f_X12_law b)) ?_
  rintro r' ⟨⟨c, d⟩, e⟩
  exact ⟨c, INV_c h d e⟩
theorem u_book {qc qd qs qn : Nat} {x : Int32} {M : Mem} (h : INV qc qd qs qn M) : ok (f_X11_book qs qn x M) (fun r => ok (f_X12_book x r.2.2) (fun r' => ans1 r.1 r'.1 (r'.2 54 0 0) ∧ INV qc qd (if r.2.1 = true then qn else qs) (if r.2.1 = true then qs else qn) r'.2)) := by
  obtain ⟨n1, n2, n3, n4⟩ := INV_54 h
  refine ok_mono (okpc (t_book h.1 h.2.2.2) (q_f_X11_book n3 n4 h.2.1)) ?_
  rintro r ⟨a, b⟩
  refine ok_mono (okpc a (q_f_X12_book b)) ?_
  rintro r' ⟨⟨c, d⟩, e⟩
  exact ⟨c, INV_s h d e⟩
theorem u_river {qc qd qs qn : Nat} {x : Int32} {M : Mem} (h : INV qc qd qs qn M) : ok (f_X11_river qc qd qs qn x M) (fun r => ok (f_X12_river x r.2.2) (fun r' => ans1 r.1 r'.1 (r'.2 54 0 0) ∧ INV (if r.2.1 = true then qd else qc) (if r.2.1 = true then qc else qd) qs qn r'.2)) := by
  obtain ⟨n1, n2, n3, n4⟩ := INV_54 h
  refine ok_mono (okpc (t_river h.1 h.2.2.1) (q_f_X11_river n1 n2 n3 n4 h.2.1)) ?_
  rintro r ⟨a, b⟩
  refine ok_mono (okpc a (q_f_X12_river b)) ?_
  rintro r' ⟨⟨c, d⟩, e⟩
  exact ⟨c, INV_c h d e⟩
theorem u_lawful {qc qd qs qn : Nat} {x y z : Int32} {M : Mem} (h : INV qc qd qs qn M) : ok (f_X11_lawful qc qd x y z M) (fun r => ok (f_X12_lawful x y z r.2) (fun r' => ans2 r.1 r'.1 (r'.2 54 0 0) ∧ INV qc qd qs qn r'.2 ∧ (r'.1 = 0 ∨ r'.1 = 1))) := by
  obtain ⟨n1, n2, n3, n4⟩ := INV_54 h
  refine ok_mono (okpc (t_lawful (qd := qd) h.1) (q_f_X11_lawful n1 n2 h.2.1)) ?_
  rintro r ⟨a, b⟩
  refine ok_mono (okpc a (q_f_X12_lawful b)) ?_
  rintro r' ⟨⟨c, d, e⟩, f⟩
  exact ⟨c, ⟨d, f, h.2.2⟩, e⟩
theorem u_told {qc qd qs qn : Nat} {x : Int32} {M : Mem} (h : INV qc qd qs qn M) : ok (f_X11_told qc qd x M) (fun r => ok (f_X12_told x r.2) (fun r' => ans1 r.1 r'.1 (r'.2 54 0 0) ∧ INV qc qd qs qn r'.2)) := by
  obtain ⟨n1, n2, n3, n4⟩ := INV_54 h
  exact comb (A := ans1) (D := fun N => f_X12_told x N) h (t_told (qd := qd) h.1) (q_f_X11_told n1 n2 h.2.1) (fun N hN => q_f_X12_told hN)
theorem u_barge {qc qd qs qn : Nat} {x y : Int32} {M : Mem} (h : INV qc qd qs qn M) : ok (f_X11_barge x y M) (fun r => ok (f_X12_barge x y r.2) (fun r' => ans2 r.1 r'.1 (r'.2 54 0 0) ∧ INV qc qd qs qn r'.2)) := by
  obtain ⟨n1, n2, n3, n4⟩ := INV_54 h
  exact comb (A := ans2) (D := fun N => f_X12_barge x y N) h (t_barge h.1) (q_f_X11_barge h.2.1) (fun N hN => q_f_X12_barge hN)
theorem u_street {qc qd qs qn : Nat} {x y : Int32} {M : Mem} (h : INV qc qd qs qn M) : ok (f_X11_street qc qd x y M) (fun r => ok (f_X12_street x y r.2) (fun r' => ans2 r.1 r'.1 (r'.2 54 0 0) ∧ INV qc qd qs qn r'.2)) := by
  obtain ⟨n1, n2, n3, n4⟩ := INV_54 h
  exact comb (A := ans2) (D := fun N => f_X12_street x y N) h (t_street (qd := qd) h.1) (q_f_X11_street n1 n2 h.2.1) (fun N hN => q_f_X12_street hN)
theorem u_board {qc qd qs qn : Nat} {x y : Int32} {M : Mem} (h : INV qc qd qs qn M) : ok (f_X11_board qc qd x y M) (fun r => ok (f_X12_board x y r.2) (fun r' => ans2 r.1 r'.1 (r'.2 54 0 0) ∧ INV qc qd qs qn r'.2)) := by
  obtain ⟨n1, n2, n3, n4⟩ := INV_54 h
  exact comb (A := ans2) (D := fun N => f_X12_board x y N) h (t_board (qd := qd) h.1) (q_f_X11_board n1 n2 h.2.1) (fun N hN => q_f_X12_board hN)
theorem u_holds {qc qd qs qn : Nat} {x : Int32} {M : Mem} (h : INV qc qd qs qn M) : ok (f_X11_holds x M) (fun r => ok (f_X12_holds x r.2) (fun r' => ans1 r.1 r'.1 (r'.2 54 0 0) ∧ INV qc qd qs qn r'.2)) := by
  obtain ⟨n1, n2, n3, n4⟩ := INV_54 h
  exact comb (A := ans1) (D := fun N => f_X12_holds x N) h (t_holds h.1) (q_f_X11_holds h.2.1) (fun N hN => q_f_X12_holds hN)
theorem u_smells {qc qd qs qn : Nat} {x y : Int32} {M : Mem} (h : INV qc qd qs qn M) : ok (f_X11_smells x y M) (fun r => ok (f_X12_smells x y r.2) (fun r' => ans2 r.1 r'.1 (r'.2 54 0 0) ∧ INV qc qd qs qn r'.2)) := by
  obtain ⟨n1, n2, n3, n4⟩ := INV_54 h
  exact comb (A := ans2) (D := fun N => f_X12_smells x y N) h (t_smells h.1) (q_f_X11_smells h.2.1) (fun N hN => q_f_X12_smells hN)
theorem u_narrow {qc qd qs qn : Nat} {x y : Int32} {M : Mem} (h : INV qc qd qs qn M) : ok (f_X11_narrow x y M) (fun r => ok (f_X12_narrow x y r.2) (fun r' => ans1 r.1 r'.1 (r'.2 54 0 0) ∧ INV qc qd qs qn r'.2)) := by
  obtain ⟨n1, n2, n3, n4⟩ := INV_54 h
  exact comb (A := ans1) (D := fun N => f_X12_narrow x y N) h (t_narrow h.1) (q_f_X11_narrow h.2.1) (fun N hN => q_f_X12_narrow hN)
theorem u_worst {qc qd qs qn : Nat} {x : Int32} {M : Mem} (h : INV qc qd qs qn M) : ok (f_X11_worst x M) (fun r => ok (f_X12_worst x r.2) (fun r' => ans1 r.1 r'.1 (r'.2 54 0 0) ∧ INV qc qd qs qn r'.2)) := by
  obtain ⟨n1, n2, n3, n4⟩ := INV_54 h
  exact comb (A := ans1) (D := fun N => f_X12_worst x N) h (t_worst h.1) (q_f_X11_worst h.2.1) (fun N hN => q_f_X12_worst hN)
theorem u_opens {qc qd qs qn : Nat} {x : Int32} {M : Mem} (h : INV qc qd qs qn M) : ok (f_X11_opens qc qd x M) (fun r => ok (f_X12_opens x r.2) (fun r' => ansN r.1 r'.1 (r'.2 54 0 0) ∧ INV qc qd qs qn r'.2)) := by
  obtain ⟨n1, n2, n3, n4⟩ := INV_54 h
  exact comb (A := ansN) (D := fun N => f_X12_opens x N) h (t_opens (qd := qd) h.1) (q_f_X11_opens n1 n2 h.2.1) (fun N hN => q_f_X12_opens hN)
theorem u_often {qc qd qs qn : Nat} {x y : Int32} {M : Mem} (h : INV qc qd qs qn M) : ok (f_X11_often qc qd x y M) (fun r => ok (f_X12_often x y r.2) (fun r' => ans2 r.1 r'.1 (r'.2 54 0 0) ∧ INV qc qd qs qn r'.2)) := by
  obtain ⟨n1, n2, n3, n4⟩ := INV_54 h
  exact comb (A := ans2) (D := fun N => f_X12_often x y N) h (t_often (qd := qd) h.1) (q_f_X11_often n1 n2 h.2.1) (fun N hN => q_f_X12_often hN)
theorem u_peak {qc qd qs qn : Nat} {x : Int32} {M : Mem} (h : INV qc qd qs qn M) : ok (f_X11_peak qc qd x M) (fun r => ok (f_X12_peak x r.2) (fun r' => ans1 r.1 r'.1 (r'.2 54 0 0) ∧ INV qc qd qs qn r'.2)) := by
  obtain ⟨n1, n2, n3, n4⟩ := INV_54 h
  exact comb (A := ans1) (D := fun N => f_X12_peak x N) h (t_peak (qd := qd) h.1) (q_f_X11_peak n1 n2 h.2.1) (fun N hN => q_f_X12_peak hN)
theorem u_hold {qc qd qs qn : Nat} {x y : Int32} {M : Mem} (h : INV qc qd qs qn M) : ok (f_X11_hold qc qd x y M) (fun r => ok (f_X12_hold x y r.2) (fun r' => ans1 r.1 r'.1 (r'.2 54 0 0) ∧ INV qc qd qs qn r'.2)) := by
  obtain ⟨n1, n2, n3, n4⟩ := INV_54 h
  exact comb (A := ans1) (D := fun N => f_X12_hold x y N) h (t_hold (qd := qd) h.1) (q_f_X11_hold n1 n2 h.2.1) (fun N hN => q_f_X12_hold hN)
theorem u_busiest {qc qd qs qn : Nat} {M : Mem} (h : INV qc qd qs qn M) : ok (f_X11_busiest qc qd M) (fun r => ok (f_X12_busiest r.2) (fun r' => r.1 = r'.1 ∧ INV qc qd qs qn r'.2)) := by
  obtain ⟨n1, n2, n3, n4⟩ := INV_54 h
  exact comb (A := (fun a b _ => a = b)) (D := fun N => f_X12_busiest N) h (t_busiest (qd := qd) h.1) (q_f_X11_busiest n1 n2 h.2.1) (fun N hN => q_f_X12_busiest hN)
theorem u_letter {qc qd qs qn : Nat} {x y : Int32} {M : Mem} (h : INV qc qd qs qn M) : ok (f_X11_letter qc qd x y M) (fun r => ok (f_X12_letter x y r.2) (fun r' => ans2 r.1 r'.1 (r'.2 54 0 0) ∧ INV qc qd qs qn r'.2)) := by
  obtain ⟨n1, n2, n3, n4⟩ := INV_54 h
  exact comb (A := ans2) (D := fun N => f_X12_letter x y N) h (t_letter (qd := qd) h.1) (q_f_X11_letter n1 n2 h.2.1) (fun N hN => q_f_X12_letter hN)
theorem u_trip {qc qd qs qn : Nat} {x y z : Int32} {M : Mem} (h : INV qc qd qs qn M) : ok (f_X11_trip qc qd x y z M) (fun r => ok (f_X12_trip x y z r.2) (fun r' => ans1 r.1 r'.1 (r'.2 54 0 0) ∧ INV qc qd qs qn r'.2)) := by
  obtain ⟨n1, n2, n3, n4⟩ := INV_54 h
  exact comb (A := ans1) (D := fun N => f_X12_trip x y z N) h (t_trip (qd := qd) h.1) (q_f_X11_trip n1 n2 h.2.1) (fun N hN => q_f_X12_trip hN)
theorem u_soonest {qc qd qs qn : Nat} {x y z : Int32} {M : Mem} (h : INV qc qd qs qn M) : ok (f_X11_soonest qc qd x y z M) (fun r => ok (f_X12_soonest x y z r.2) (fun r' => ans1 r.1 r'.1 (r'.2 54 0 0) ∧ INV qc qd qs qn r'.2)) := by
  obtain ⟨n1, n2, n3, n4⟩ := INV_54 h
  exact comb (A := ans1) (D := fun N => f_X12_soonest x y z N) h (t_soonest (qd := qd) h.1) (q_f_X11_soonest n1 n2 h.2.1) (fun N hN => q_f_X12_soonest hN)
theorem u_tallest {qc qd qs qn : Nat} {x : Int32} {M : Mem} (h : INV qc qd qs qn M) : ok (f_X11_tallest qc qd x M) (fun r => ok (f_X12_tallest x r.2) (fun r' => ans1 r.1 r'.1 (r'.2 54 0 0) ∧ INV qc qd qs qn r'.2)) := by
  obtain ⟨n1, n2, n3, n4⟩ := INV_54 h
  exact comb (A := ans1) (D := fun N => f_X12_tallest x N) h (t_tallest (qd := qd) h.1) (q_f_X11_tallest n1 n2 h.2.1) (fun N hN => q_f_X12_tallest hN)
theorem u_ahead {qc qd qs qn : Nat} {x y : Int32} {M : Mem} (h : INV qc qd qs qn M) : ok (f_X11_ahead qc qd x y M) (fun r => ok (f_X12_ahead x y r.2) (fun r' => ans1 r.1 r'.1 (r'.2 54 0 0) ∧ INV qc qd qs qn r'.2)) := by
  obtain ⟨n1, n2, n3, n4⟩ := INV_54 h
  exact comb (A := ans1) (D := fun N => f_X12_ahead x y N) h (t_ahead (qd := qd) h.1) (q_f_X11_ahead n1 n2 h.2.1) (fun N hN => q_f_X12_ahead hN)
theorem u_winters {qc qd qs qn : Nat} {x y z w : Int32} {M : Mem} (h : INV qc qd qs qn M) : ok (f_X11_winters qc qd x y z w M) (fun r => ok (f_X12_winters x y z w r.2) (fun r' => ans1 r.1 r'.1 (r'.2 54 0 0) ∧ INV qc qd qs qn r'.2)) := by
  obtain ⟨n1, n2, n3, n4⟩ := INV_54 h
  exact comb (A := ans1) (D := fun N => f_X12_winters x y z w N) h (t_winters (qd := qd) h.1) (q_f_X11_winters n1 n2 h.2.1) (fun N hN => q_f_X12_winters hN)
theorem u_span {qc qd qs qn : Nat} {x y z w u : Int32} {M : Mem} (h : INV qc qd qs qn M) : ok (f_X11_span qc qd x y z w u M) (fun r => ok (f_X12_span x y z w u r.2) (fun r' => ans1 r.1 r'.1 (r'.2 54 0 0) ∧ INV qc qd qs qn r'.2)) := by
  obtain ⟨n1, n2, n3, n4⟩ := INV_54 h
  exact comb (A := ans1) (D := fun N => f_X12_span x y z w u N) h (t_span (qd := qd) h.1) (q_f_X11_span n1 n2 h.2.1) (fun N hN => q_f_X12_span hN)
theorem u_undo {qc qd qs qn : Nat} {M : Mem} (h : INV qc qd qs qn M) : ok (f_X11_undo M) (fun r => ok (f_X12_undo r.2) (fun r' => r.1 = r'.1 ∧ INV qc qd qs qn r'.2)) := by
  obtain ⟨n1, n2, n3, n4⟩ := INV_54 h
  exact comb (A := (fun a b _ => a = b)) (D := fun N => f_X12_undo N) h (t_undo h.1) (q_f_X11_undo h.2.1) (fun N hN => q_f_X12_undo hN)
theorem u_image {qc qd qs qn : Nat} {M : Mem} (h : INV qc qd qs qn M) : ok (f_X11_image M) (fun r => ok (f_X12_image r.2) (fun r' => r.1 = r'.1 ∧ INV qc qd qs qn r'.2)) := by
  obtain ⟨n1, n2, n3, n4⟩ := INV_54 h
  exact comb (A := (fun a b _ => a = b)) (D := fun N => f_X12_image N) h (t_image h.1) (q_f_X11_image h.2.1) (fun N hN => q_f_X12_image hN)
theorem u_restore {qc qd qs qn : Nat} {M : Mem} (h : INV qc qd qs qn M) : ok (f_X11_restore M) (fun r => ok (f_X12_restore r.2) (fun r' => r.1 = r'.1 ∧ INV qc qd qs qn r'.2)) := by
  obtain ⟨n1, n2, n3, n4⟩ := INV_54 h
  exact comb (A := (fun a b _ => a = b)) (D := fun N => f_X12_restore N) h (t_restore h.1) (q_f_X11_restore h.2.1) (fun N hN => q_f_X12_restore hN)
theorem u_feed {qc qd qs qn : Nat} {a b c d e : Int32} {M : Mem} (h : INV qc qd qs qn M) : ok (f_X11_feed a b c d e M) (fun r => ok (f_X12_feed a b c d e r.2) (fun r' => r.1 = r'.1 ∧ INV qc qd qs qn r'.2)) := by
  obtain ⟨n1, n2, n3, n4⟩ := INV_54 h
  exact comb (A := (fun a b _ => a = b)) (D := fun N => f_X12_feed a b c d e N) h (t_feed h.1) (q_f_X11_feed h.2.1) (fun N hN => q_f_X12_feed hN)
theorem u_walk {qc qd qs qn : Nat} {x y z : Int32} {M : Mem} (h : INV qc qd qs qn M) : ok (f_X11_walk qc qd x y z M) (fun r => ok (f_X12_walk x y z r.2) (fun r' => ans2 r.1 r'.1 (r'.2 54 0 0) ∧ INV qc qd qs qn r'.2)) := by
  obtain ⟨n1, n2, n3, n4⟩ := INV_54 h
  exact comb (A := ans2) (D := fun N => f_X12_walk x y z N) h (t_walk (qd := qd) h.1) (q_f_X11_walk n1 n2 h.2.1) (fun N hN => q_f_X12_walk hN)
theorem u_reach {qc qd qs qn : Nat} {x y : Int32} {M : Mem} (h : INV qc qd qs qn M) : ok (f_X11_reach qc qd x y M) (fun r => ok (f_X12_reach x y r.2) (fun r' => ans2 r.1 r'.1 (r'.2 54 0 0) ∧ INV qc qd qs qn r'.2)) := by
  obtain ⟨n1, n2, n3, n4⟩ := INV_54 h
  exact comb (A := ans2) (D := fun N => f_X12_reach x y N) h (t_reach (qd := qd) h.1) (q_f_X11_reach n1 n2 h.2.1) (fun N hN => q_f_X12_reach hN)
theorem u_anglers {qc qd qs qn : Nat} {x y : Int32} {M : Mem} (h : INV qc qd qs qn M) : ok (f_X11_anglers x y M) (fun r => ok (f_X12_anglers x y r.2) (fun r' => ans1 r.1 r'.1 (r'.2 54 0 0) ∧ INV qc qd qs qn r'.2)) := by
  obtain ⟨n1, n2, n3, n4⟩ := INV_54 h
  exact comb (A := ans1) (D := fun N => f_X12_anglers x y N) h (t_anglers h.1) (q_f_X11_anglers h.2.1) (fun N hN => q_f_X12_anglers hN)
theorem u_stand {qc qd qs qn : Nat} {x y : Int32} {M : Mem} (h : INV qc qd qs qn M) : ok (f_X11_stand x y M) (fun r => ok (f_X12_stand x y r.2) (fun r' => ans2 r.1 r'.1 (r'.2 54 0 0) ∧ INV qc qd qs qn r'.2)) := by
  obtain ⟨n1, n2, n3, n4⟩ := INV_54 h
  exact comb (A := ans2) (D := fun N => f_X12_stand x y N) h (t_stand h.1) (q_f_X11_stand h.2.1) (fun N hN => q_f_X12_stand hN)
theorem u_flood {qc qd qs qn : Nat} {x : Int32} {M : Mem} (h : INV qc qd qs qn M) : ok (f_X11_flood x M) (fun r => ok (f_X12_flood x r.2) (fun r' => ans1 r.1 r'.1 (r'.2 54 0 0) ∧ INV qc qd qs qn r'.2)) := by
  obtain ⟨n1, n2, n3, n4⟩ := INV_54 h
  exact comb (A := ans1) (D := fun N => f_X12_flood x N) h (t_flood h.1) (q_f_X11_flood h.2.1) (fun N hN => q_f_X12_flood hN)
theorem u_openers {qc qd qs qn : Nat} {x : Int32} {M : Mem} (h : INV qc qd qs qn M) : ok (f_X11_openers qs qn x M) (fun r => ok (f_X12_openers x r.2) (fun r' => ans1 r.1 r'.1 (r'.2 54 0 0) ∧ INV qc qd qs qn r'.2)) := by
  obtain ⟨n1, n2, n3, n4⟩ := INV_54 h
  exact comb (A := ans1) (D := fun N => f_X12_openers x N) h (t_openers (qn := qn) h.1) (q_f_X11_openers n3 n4 h.2.1) (fun N hN => q_f_X12_openers hN)
theorem u_nose {qc qd qs qn : Nat} {x : Int32} {M : Mem} (h : INV qc qd qs qn M) : ok (f_X11_nose qs qn x M) (fun r => ok (f_X12_nose x r.2) (fun r' => ans1 r.1 r'.1 (r'.2 54 0 0) ∧ INV qc qd qs qn r'.2)) := by
  obtain ⟨n1, n2, n3, n4⟩ := INV_54 h
  exact comb (A := ans1) (D := fun N => f_X12_nose x N) h (t_nose (qn := qn) h.1) (q_f_X11_nose n3 n4 h.2.1) (fun N hN => q_f_X12_nose hN)
