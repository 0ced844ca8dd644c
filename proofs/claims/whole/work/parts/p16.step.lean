/-! AN HOUR KEEPS THE STATES TOGETHER -/
theorem SR_bars {n v g : Nat} {a b : Nat → Int32} {lt lt' : Nat → Nat → Bool} {cm cm' : Nat → Int32} (hn : n ≤ 16) (hg : g ≤ 4) (h : SR n g a b) (hl : ∀ k j, k < g → j < n → lt' k j = lt k j) (hc : ∀ k, k < g → cm' k = cm k) : SR n g (brsC n v lt cm g a) (brsM n v g lt' cm' 5 b) := by
  have h64 := h.2.2.2.2.2.2.2
  have key : ∀ k, k ≤ g → SR n g (brsC n v lt cm k a) (brsM n v g lt' cm' k b) := by
    intro k
    induction k with
    | zero => exact fun _ => h
    | succ k ih =>
      intro hk
      rw [brsC, brsM, if_pos (by unfold isb5; rw [decide_eq_true (show k < g by omega)]; rfl), hc k (by omega)]
      exact SR_br hn hg (by omega) (ih (by omega)) (fun j hj => hl k j (by omega) hj)
  have rest : ∀ k, g ≤ k → k ≤ 5 → brsM n v g lt' cm' k b = brsM n v g lt' cm' g b := by
    intro k hk
    induction k with
    | zero => intro _; rw [show g = 0 by omega]
    | succ k ih =>
      intro h5
      by_cases hgk : g = k + 1
      · rw [hgk]
      · rw [brsM, if_neg (by unfold isb5; rw [decide_eq_false (by omega), h64]; simp), ih (by omega) (by omega)]
  rw [rest 5 (by omega) (Nat.le_refl _)]
  exact key g (Nat.le_refl _)
theorem SR_hr {n v g : Nat} {a b : Nat → Int32} {lt lt' : Nat → Nat → Bool} {cm cm' : Nat → Int32} {fb : Int32} {fn : Nat → Bool} (hn : n ≤ 16) (hg : g ≤ 4) (h : SR n g a b) (h1 : ∀ j, j < n → bt fb j = fn j) (h2 : ∀ j, n ≤ j → j < 16 → bt fb j = false) (hl : ∀ k j, k < g → j < n → lt' k j = lt k j) (hc : ∀ k, k < g → cm' k = cm k) : SR n g (hrC n v g lt cm fb a) (hrM n v g lt' cm' fn b) := by
  have h3 := SR_bars (v := v) hn hg (SR_fin hn h h1 h2) hl hc
  have e0 : brsC n v lt cm g (finC fb a) 0 = a 0 := by rw [brsC_0]; rfl
  have t1 := h.1
  obtain ⟨-, t2, t3, t4, t5, t6, t7, t8⟩ := h3
  have o : ∀ i, i ≠ 0 → hrC n v g lt cm fb a i = brsC n v lt cm g (finC fb a) i := fun i hi => by unfold hrC; rw [if_neg hi]
  have o' : ∀ i, i ≠ 63 → hrM n v g lt' cm' fn b i = brsM n v g lt' cm' 5 (finM n fn b) i := fun i hi => by unfold hrM; rw [if_neg hi]
  refine ⟨?_, ⟨fun j hj => ?_, fun j hj hj2 => ?_⟩, ⟨fun j hj => ?_, fun j hj hj2 => ?_⟩, ⟨fun j hj => ?_, fun j hj hj2 => ?_⟩, ⟨fun k hk => ?_, fun k hk hk2 => ?_⟩, fun k hk => ?_, fun k hk => ?_, ?_⟩
  · unfold hrC hrM; rw [if_pos rfl, if_pos rfl, t1]
  · rw [o 1 (by omega), o 2 (by omega), o' j (by omega)]; exact t2.1 j hj
  · rw [o 1 (by omega)]; exact t2.2 j hj hj2
  · rw [o _ (by omega), o' _ (by omega)]; exact t3.1 j hj
  · rw [o _ (by omega)]; exact t3.2 j hj hj2
  · rw [o _ (by omega), o' _ (by omega)]; exact t4.1 j hj
  · rw [o _ (by omega)]; exact t4.2 j hj hj2
  · rw [o (35 + k) (by omega), o (39 + k) (by omega), o (43 + k) (by omega), o' (53 + k) (by omega), o' (48 + k) (by omega), o' (58 + k) (by omega)]; exact t5.1 k hk
  · rw [o _ (by omega)]; exact t5.2 k hk hk2
  · rw [o _ (by omega)]; exact t6 k hk
  · rw [o' _ (by omega)]; exact t7 k hk
  · rw [o' _ (by omega)]; exact t8
/-- what is due by the row of a state -/
def dueR (qc : Nat) (M : Mem) (a : Nat → Int32) : Int32 := bitsN (fun b => lawB qc M b (a 0) (a (3 + b))) (nB M)
def hC (M : Mem) (frz due : Int32) (a : Nat → Int32) : Nat → Int32 := hrC (nB M) (vF M) (nG M) (fun k => lets M (M 8 0 k) (opn (a 1) (a 2) due frz)) (fun k => M 9 0 k) (fnd (a 1) (a 2) due frz) a
def hM (qc : Nat) (M : Mem) (frz : Int32) (b : Nat → Int32) : Nat → Int32 := hrM (nB M) (vF M) (nG M) (fun k => lets M (if k = 4 then b 65 else M 8 0 k) (bitsN (opB qc M b) (nB M) &&& (frz ^^^ (-1)))) (fun k => if k = 4 then b 64 else M 9 0 k) (fnM qc M frz b) b
theorem dueR_c {qc : Nat} {M M' : Mem} (hq : qc = 24 ∨ qc = 25) (e : ∀ c, c ∈ bCells → M' c = M c) (a : Nat → Int32) : dueR qc M' a = dueR qc M a := by
  unfold dueR
  rw [nB_fr (e 3 (by decide))]
  exact bitsN_cong (fun k _ => lawB_c hq e _ _ _)
theorem hC_c {M M' : Mem} (e : ∀ c, c ∈ bCells → M' c = M c) (frz due : Int32) (a : Nat → Int32) : hC M' frz due a = hC M frz due a := by
  unfold hC lets
  rw [nB_fr (e 3 (by decide)), vF_fr (e 3 (by decide)), nG_fr (e 3 (by decide)), e 8 (by decide), e 9 (by decide), e 4 (by decide)]
theorem hM_c {qc : Nat} {M M' : Mem} (hq : qc = 24 ∨ qc = 25) (e : ∀ c, c ∈ bCells → M' c = M c) (frz : Int32) (b : Nat → Int32) : hM qc M' frz b = hM qc M frz b := by
  have e1 : opB qc M' b = opB qc M b := funext (fun j => opB_c hq e b j)
  have e2 : fnM qc M' frz b = fnM qc M frz b := by funext j; unfold fnM; rw [lawB_c hq e]
  unfold hM lets
  rw [nB_fr (e 3 (by decide)), vF_fr (e 3 (by decide)), nG_fr (e 3 (by decide)), e 8 (by decide), e 9 (by decide), e 4 (by decide), e1, e2]
theorem bt_due {qc : Nat} {M : Mem} {a : Nat → Int32} (hn : nB M ≤ 16) {j : Nat} (hj : j < 32) : bt (dueR qc M a) j = (decide (j < nB M) && lawB qc M j (a 0) (a (3 + j))) := bt_bitsN _ (by omega) hj
theorem bt_opn (l s due frz : Int32) {j : Nat} (hj : j < 32) : bt (opn l s due frz) j = ((bt l j || (bt due j && !(bt s j))) && !(bt frz j)) := by
  unfold opn
  rw [b_and, b_or, b_and, b_not _ hj, b_not _ hj]
theorem bt_fnd (l s due frz : Int32) {j : Nat} (hj : j < 32) : bt (fnd l s due frz) j = ((bt (opn l s due frz) j ^^ bt due j) && !(bt frz j)) := by
  unfold fnd
  rw [b_and, b_xor, b_not _ hj]
theorem SR_opB {qc : Nat} {M : Mem} {a b : Nat → Int32} (h : SR (nB M) (nG M) a b) (j : Nat) (hj : j < nB M) : opB qc M b j = (bt (a 1) j || (lawB qc M j (a 0) (a (3 + j)) && !(bt (a 2) j))) := by
  obtain ⟨t1, t2, t3, -⟩ := h
  unfold opB
  rw [← t1, ← t3.1 j hj]
  rcases t2.1 j hj with ⟨h1, h2, h3⟩ | ⟨h1, h2, h3⟩ | ⟨h1, h2, h3⟩
  · rw [h1, h2, h3]; simp
  · rw [h1, h2, h3]; simp
  · rw [h1, h2, h3]; simp
theorem SR_step {qc : Nat} {M : Mem} {a b : Nat → Int32} {frz : Int32} (hb : base qc M) (h : SR (nB M) (nG M) a b) : SR (nB M) (nG M) (hC M frz (dueR qc M a) a) (hM qc M frz b) := by
  have hn := hb.2.2.2.1.1.2
  have hg := hb.2.2.2.1.2.1.2
  have hop : ∀ j, j < nB M → bt (bitsN (opB qc M b) (nB M) &&& (frz ^^^ (-1))) j = bt (opn (a 1) (a 2) (dueR qc M a) frz) j := by
    intro j hj
    rw [b_and, bt_bitsN _ (by omega) (by omega), b_not _ (by omega), bt_opn _ _ _ _ (by omega), bt_due hn (by omega), SR_opB h j hj, decide_eq_true hj]
    simp
  refine SR_hr hn hg h ?_ ?_ ?_ ?_
  · intro j hj
    rw [bt_fnd _ _ _ _ (by omega), bt_opn _ _ _ _ (by omega), bt_due hn (by omega), decide_eq_true hj]
    obtain ⟨t1, t2, t3, -⟩ := h
    unfold fnM
    rw [← t1, ← t3.1 j hj]
    rcases t2.1 j hj with ⟨h1, h2, h3⟩ | ⟨h1, h2, h3⟩ | ⟨h1, h2, h3⟩ <;> rw [h1, h2, h3] <;> cases bt frz j <;> cases lawB qc M j (a 0) (a (3 + j)) <;> simp
  · intro j hj hj2
    rw [bt_fnd _ _ _ _ (by omega), bt_opn _ _ _ _ (by omega), bt_due hn (by omega), decide_eq_false (by omega), h.2.1.2 j hj (by omega)]
    simp
  · intro k j hk hj
    unfold lets
    rw [hop j hj, if_neg (by omega)]
  · intro k hk
    rw [if_neg (by omega)]
