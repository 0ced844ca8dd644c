/-! THE LAW: its value as a function of codes and facts -/
def opc (c : Int32) : Bool := decide (8 ≤ c) && decide (c < 15)
def jn (c a b : Int32) : Int32 := if c = 8 then (if b ≤ a then b else a) else if c = 9 then (if a ≤ b then b else a) else if c = 10 then a + b else if c = 11 then a - b else if c = 12 then a * b else if c = 13 then (if b = 0 then 0 else a / b) else if c = 14 then (if b = 0 then 0 else a - a / b * b) else 0
theorem join_eq (c a b : Int32) : f_X3_join c a b = some (jn c a b) := by
  unfold f_X3_join jn
  by_cases hb : b = 0
  · simp only [hb, not_true_eq_false, if_true, if_false]
    repeat' split
    all_goals rfl
  · simp only [hb, not_false_eq_true, if_true, if_false]
    repeat' split
    all_goals rfl
/-- how many values stand on the stack ahead of code k -/
def dpt (cd : Nat → Int32) : Nat → Nat
  | 0 => 0
  | k + 1 => if opc (cd k) = true then dpt cd k - 1 else dpt cd k + 1
theorem dpt_le (cd : Nat → Int32) : ∀ k, dpt cd k ≤ k
  | 0 => Nat.le_refl _
  | k + 1 => by
    have := dpt_le cd k
    unfold dpt
    split <;> omega
def upd1 (S : Nat → Int32) (t : Nat) (v : Int32) : Nat → Int32 := fun i => if i = t then v else S i
/-- the stack ahead of code k -/
def stk (cd fa : Nat → Int32) : Nat → (Nat → Int32)
  | 0 => fun _ => 0
  | k + 1 => if opc (cd k) = true then upd1 (stk cd fa k) (dpt cd k - 2) (jn (cd k) (stk cd fa k (dpt cd k - 2)) (stk cd fa k (dpt cd k - 1))) else upd1 (stk cd fa k) (dpt cd k) (if cd k < 8 then fa (cd k).toNatClampNeg else cd k - 15)
theorem dpt_op {cd : Nat → Int32} {k : Nat} (h : opc (cd k) = true) : dpt cd (k + 1) = dpt cd k - 1 := by rw [dpt, if_pos h]
theorem dpt_no {cd : Nat → Int32} {k : Nat} (h : opc (cd k) = false) : dpt cd (k + 1) = dpt cd k + 1 := by rw [dpt, if_neg (by rw [h]; decide)]
theorem stk_op {cd fa : Nat → Int32} {k : Nat} (h : opc (cd k) = true) (i : Nat) : stk cd fa (k + 1) i = if i = dpt cd k - 2 then jn (cd k) (stk cd fa k (dpt cd k - 2)) (stk cd fa k (dpt cd k - 1)) else stk cd fa k i := by rw [stk, if_pos h]; rfl
theorem stk_no {cd fa : Nat → Int32} {k : Nat} (h : opc (cd k) = false) (i : Nat) : stk cd fa (k + 1) i = if i = dpt cd k then (if cd k < 8 then fa (cd k).toNatClampNeg else cd k - 15) else stk cd fa k i := by rw [stk, if_neg (by rw [h]; decide)]; rfl
/-- codes that can be worked off -/
def cwf (cd : Nat → Int32) (len : Nat) : Prop := (∀ k, k < len → 0 ≤ cd k ∧ (opc (cd k) = true → 2 ≤ dpt cd k)) ∧ dpt cd len = 1
def lv (cd fa : Nat → Int32) (len : Nat) : Int32 := stk cd fa len 0
theorem opc_t {c : Int32} (h1 : 8 ≤ c) (h2 : c < 15) : opc c = true := by unfold opc; simp [h1, h2]
theorem opc_f1 {c : Int32} (h : c < 8) : opc c = false := by
  unfold opc
  rw [decide_eq_false (by rw [Int32.not_le]; exact h)]
  rfl
theorem opc_f2 {c : Int32} (h : ¬ c < 15) : opc c = false := by
  unfold opc
  rw [decide_eq_false h, Bool.and_false]
theorem nI_sub1 {a : Nat} (h : 1 ≤ a) : nI a - 1 = nI (a - 1) := nI_sub h
theorem code8 {c : Int32} (h0 : 0 ≤ c) (h : c < 8) : ∃ k, k < 8 ∧ c = nI k := by
  obtain ⟨k, e, hk⟩ := rng (n := 7) (by decide) h0 (by show c ≤ 7; grind)
  exact ⟨k, by omega, e⟩
theorem c_loop {qc qd : Nat} {M1 : Mem} {len : Nat} (hq : qc ≠ 26) (hlen : len ≤ 150) (hl : M1 23 0 1 = nI len) (hw : cwf (M1 qc 0) len) :
    ok (wh (L_X3_value_15 qc qd) FU ((0 : Int32), (0 : Int32), M1)) (fun M' => fr [26] M1 M' ∧ M' 26 0 0 = lv (M1 qc 0) (M1 27 0) len) := by
  refine ok_wh (fun k s => s.1 = nI (dpt (M1 qc 0) k) ∧ s.2.1 = nI k ∧ fr [26] M1 s.2.2 ∧ ∀ i, i < dpt (M1 qc 0) k → s.2.2 26 0 i = stk (M1 qc 0) (M1 27 0) k i) len ⟨rfl, rfl, fr_rfl, fun i hi => by cases hi⟩ (by omega) ?_ ?_
  · rintro k ⟨x5, x6, M⟩ hk ⟨rfl, rfl, hf, hs⟩
    simp only at hf hs
    have hd := dpt_le (M1 qc 0) k
    unfold L_X3_value_15
    simp only [hf 23 (by decide), hl, hf qc (by simpa using hq), hf 27 (by decide), nI_clamp (show k < 2 ^ 31 by omega), nI_clamp (show dpt (M1 qc 0) k < 2 ^ 31 by omega)]
    refine ok_ifn (nI_ge hk (by omega)) (ok_ifp (inb_n (by omega) (by decide)) ?_)
    have hc := hw.1 k hk
    have h0 : ¬ M1 qc 0 k < 0 := by rw [Int32.not_lt]; exact hc.1
    have h150 : ¬ (150 : Int32) ≤ nI (dpt (M1 qc 0) k) := nI_ge (a := dpt (M1 qc 0) k) (b := 150) (by omega) (by decide)
    by_cases h8' : M1 qc 0 k < 8
    · have h8 : ¬ 8 ≤ M1 qc 0 k := by rw [Int32.not_le]; exact h8'
      have ho := opc_f1 h8'
      obtain ⟨j, hj, ej⟩ := code8 hc.1 h8'
      refine ok_ifp h8' (ok_ifn h0 (ok_ifn h150 (ok_ifn h8 (ok_ifp (inb_of ej hj) (ok_ifp (inb_n (by omega) (by decide)) (ok_some ⟨?_, nI_1 k, fr_u3 hf (by decide), fun i hi => ?_⟩))))))
      · show nI _ + 1 = nI (dpt _ (k + 1))
        rw [nI_1, dpt_no ho]
      · have hi' : i < dpt (M1 qc 0) k + 1 := by
          have hi := hi
          rw [dpt_no ho] at hi
          exact hi
        show am_u3 M 26 0 (dpt (M1 qc 0) k) _ 26 0 i = stk _ _ (k + 1) i
        rw [stk_no ho, u3_x]
        by_cases hii : i = dpt (M1 qc 0) k
        · rw [if_pos ⟨rfl, rfl, hii⟩, if_pos hii, if_pos h8']
        · rw [if_neg (fun z => hii z.2.2), if_neg hii]
          exact hs i (by omega)
    · have h8 : 8 ≤ M1 qc 0 k := by rw [Int32.not_lt] at h8'; exact h8'
      refine ok_ifn h8' ?_
      by_cases h15 : 15 ≤ M1 qc 0 k
      · have ho := opc_f2 (c := M1 qc 0 k) (by rw [Int32.not_lt]; exact h15)
        refine ok_ifp h15 (ok_ifn h0 (ok_ifn h150 (ok_ifp h8 (ok_ifp (inb_n (by omega) (by decide)) (ok_some ⟨?_, nI_1 k, fr_u3 hf (by decide), fun i hi => ?_⟩)))))
        · show nI _ + 1 = nI (dpt _ (k + 1))
          rw [nI_1, dpt_no ho]
        · have hi' : i < dpt (M1 qc 0) k + 1 := by
            have hi := hi
            rw [dpt_no ho] at hi
            exact hi
          show am_u3 M 26 0 (dpt (M1 qc 0) k) _ 26 0 i = stk _ _ (k + 1) i
          rw [stk_no ho, u3_x]
          by_cases hii : i = dpt (M1 qc 0) k
          · rw [if_pos ⟨rfl, rfl, hii⟩, if_pos hii, if_neg h8']
          · rw [if_neg (fun z => hii z.2.2), if_neg hii]
            exact hs i (by omega)
      · have ho := opc_t h8 (by rw [Int32.not_le] at h15; exact h15)
        have h2 := hc.2 ho
        refine ok_ifn h15 (ok_ifn (nI_nlt (a := dpt (M1 qc 0) k) (b := 2) h2 (by omega)) ?_)
        rw [nI_sub1 (show 1 ≤ dpt (M1 qc 0) k by omega), nI_sub1 (show 1 ≤ dpt (M1 qc 0) k - 1 by omega), nI_clamp (show dpt (M1 qc 0) k - 1 < 2 ^ 31 by omega), nI_clamp (show dpt (M1 qc 0) k - 1 - 1 < 2 ^ 31 by omega)]
        refine ok_ifp (inb_n (by omega) (by decide)) (ok_ifp (inb_n (by omega) (by decide)) ?_)
        rw [join_eq, hs _ (by omega), hs _ (by omega)]
        refine ok_some ⟨by rw [dpt_op ho], nI_1 k, fr_u3 hf (by decide), fun i hi => ?_⟩
        have hi' : i < dpt (M1 qc 0) k - 1 := by rw [dpt_op ho] at hi; exact hi
        show am_u3 M 26 0 (dpt (M1 qc 0) k - 1 - 1) _ 26 0 i = stk _ _ (k + 1) i
        rw [stk_op ho, u3_x, show dpt (M1 qc 0) k - 1 - 1 = dpt (M1 qc 0) k - 2 by omega]
        by_cases hii : i = dpt (M1 qc 0) k - 2
        · rw [if_pos ⟨rfl, rfl, hii⟩, if_pos hii]
        · rw [if_neg (fun z => hii z.2.2), if_neg hii]
          exact hs i (by omega)
  · rintro ⟨x5, x6, M⟩ ⟨rfl, rfl, hf, hs⟩
    simp only at hf hs
    unfold L_X3_value_15
    simp only [hf 23 (by decide), hl]
    refine ok_ifp (nI_le (Nat.le_refl _) (by omega)) (ok_some ⟨hf, ?_⟩)
    exact hs 0 (by rw [hw.2]; decide)
