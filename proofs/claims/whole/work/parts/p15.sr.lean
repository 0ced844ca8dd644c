/-! THE STATES OF BOTH SIDES -/
def sMode (n : Nat) (a b : Nat → Int32) : Prop := (∀ j, j < n → (bt (a 1) j = true ∧ bt (a 2) j = false ∧ b j = 1) ∨ (bt (a 1) j = false ∧ bt (a 2) j = true ∧ b j = 2) ∨ (bt (a 1) j = false ∧ bt (a 2) j = false ∧ b j = 0)) ∧ (∀ j, n ≤ j → j < 32 → bt (a 1) j = false)
def sFin (n : Nat) (a b : Nat → Int32) : Prop := (∀ j, j < n → a (3 + j) = b (16 + j)) ∧ (∀ j, n ≤ j → j < 16 → a (3 + j) = 0)
def sKno (n : Nat) (a b : Nat → Int32) : Prop := (∀ j, j < n → a (19 + j) = b (32 + j)) ∧ (∀ j, n ≤ j → j < 16 → a (19 + j) = 0)
def sBar (g : Nat) (a b : Nat → Int32) : Prop := (∀ k, k < g → a (35 + k) = b (53 + k) ∧ (a (35 + k) = 0 ∨ a (35 + k) = 1 ∨ a (35 + k) = 2) ∧ a (39 + k) = b (48 + k) ∧ (a (35 + k) = 2 → a (43 + k) = b (58 + k)) ∧ (a (35 + k) ≠ 2 → b (58 + k) = -1)) ∧ (∀ k, g ≤ k → k < 4 → a (35 + k) = 0)
def SR (n g : Nat) (a b : Nat → Int32) : Prop := a 0 = b 63 ∧ sMode n a b ∧ sFin n a b ∧ sKno n a b ∧ sBar g a b ∧ psd n a ∧ psdM n b ∧ b 64 = -1
theorem finC_x (fb : Int32) (a : Nat → Int32) (i : Nat) : finC fb a i = if 3 ≤ i ∧ i < 19 then a i + (if bt fb (i - 3) = true then 1 else 0) else a i := rfl
theorem SR_fin {n g : Nat} {a b : Nat → Int32} {fb : Int32} {fn : Nat → Bool} (hn : n ≤ 16) (h : SR n g a b) (h1 : ∀ j, j < n → bt fb j = fn j) (h2 : ∀ j, n ≤ j → j < 16 → bt fb j = false) : SR n g (finC fb a) (finM n fn b) := by
  obtain ⟨t1, t2, t3, t4, t5, t6, t7, t8⟩ := h
  have o : ∀ i, i < 3 ∨ 19 ≤ i → finC fb a i = a i := fun i hi => by rw [finC_x, if_neg (by omega)]
  have o' : ∀ i, i < 16 ∨ 16 + n ≤ i → finM n fn b i = b i := fun i hi => by rw [finM_x, if_neg (by omega)]
  refine ⟨by rw [o 0 (by omega), o' 63 (by omega)]; exact t1, ?_, ⟨fun j hj => ?_, fun j hj hj2 => ?_⟩, ?_, ?_, finC_psd t6, finM_psd hn t7, by rw [o' 64 (by omega)]; exact t8⟩
  · refine ⟨fun j hj => ?_, fun j hj hj2 => by rw [o 1 (by omega)]; exact t2.2 j hj hj2⟩
    rw [o 1 (by omega), o 2 (by omega), o' j (by omega)]
    exact t2.1 j hj
  · rw [finC_x, finM_x, if_pos (show 3 ≤ 3 + j ∧ 3 + j < 19 by omega), if_pos (show 16 ≤ 16 + j ∧ 16 + j < 16 + n by omega), show 3 + j - 3 = j by omega, show 16 + j - 16 = j by omega, h1 j hj, t3.1 j hj]
  · rw [finC_x, if_pos (show 3 ≤ 3 + j ∧ 3 + j < 19 by omega), show 3 + j - 3 = j by omega, h2 j hj hj2, t3.2 j hj hj2]
    rfl
  · exact ⟨fun j hj => by rw [o _ (by omega), o' _ (by omega)]; exact t4.1 j hj, fun j hj hj2 => by rw [o _ (by omega)]; exact t4.2 j hj hj2⟩
  · refine ⟨fun k hk => ?_, fun k hk hk2 => by rw [o _ (by omega)]; exact t5.2 k hk hk2⟩
    rw [o (35 + k) (by omega), o (39 + k) (by omega), o (43 + k) (by omega), o' (53 + k) (by omega), o' (48 + k) (by omega), o' (58 + k) (by omega)]
    exact t5.1 k hk
theorem SR_br {n v g k : Nat} {a b : Nat → Int32} {lt lt' : Nat → Bool} {cm : Int32} (hn : n ≤ 16) (hg : g ≤ 4) (hk : k < g) (h : SR n g a b) (hl : ∀ j, j < n → lt' j = lt j) : SR n g (brC n v lt cm k a) (brM n v lt' cm k b) := by
  have hpa := brC_psd (v := v) (lt := lt) (cm := cm) (k := k) hn (by omega) h.2.2.2.2.2.1
  have hpb := (brM_k (v := v) (lt := lt') (cm := cm) (x := k) hn (by omega) h.2.2.2.2.2.2.1)
  obtain ⟨t1, t2, t3, t4, t5, t6, t7, t8⟩ := h
  refine ⟨?_, ?_, ?_, ?_, ?_, hpa, hpb.2, (hpb.1 64 (by omega)).trans t8⟩
  · rw [brC_0, hpb.1 63 (by omega)]; exact t1
  all_goals
    obtain ⟨q1, q2, q3, q4, q5⟩ := t5.1 k hk
    obtain ⟨p, p1, p2⟩ := t6 k (by omega)
    have b2 := (pon_b n lt v p p1)
    have cl : (a (39 + k)).toNatClampNeg = p := cl_of p2 (by omega)
    have cl' : (b (48 + k)).toNatClampNeg = p := by rw [← q3]; exact cl
    unfold brC brM
    rw [q1, t1]
    split
    · unfold goR
      rw [cl, cl', pon_cong hl]
      obtain ⟨b1, b2, b3, -, -⟩ := b2
      generalize pon n lt v p = P at b1 b2 b3 ⊢
      first
        | (unfold sMode at *; refine ⟨fun j hj => ?_, fun j hj hj2 => ?_⟩; have := t2.1 j hj; grind; have := t2.2 j hj hj2; grind)
        | (unfold sFin at *; refine ⟨fun j hj => ?_, fun j hj hj2 => ?_⟩; have := t3.1 j hj; grind; have := t3.2 j hj hj2; grind)
        | (unfold sKno at *; refine ⟨fun j hj => ?_, fun j hj hj2 => ?_⟩; have := t4.1 j hj; grind; have := t4.2 j hj hj2; grind)
        | (unfold sBar at *
           have t51 := t5.1
           have t52 := t5.2
           clear hpa hpb t2 t3 t4 t5 t6 t7 hl t8
           refine ⟨fun j hj => ?_, fun j hj hj2 => ?_⟩
           · have s1 := t51 j hj
             clear t51 t52
             by_cases hjk : j = k
             · subst hjk
               refine ⟨?_, ?_, ?_, ?_, ?_⟩ <;> grind
             · refine ⟨?_, ?_, ?_, ?_, ?_⟩ <;> grind
           · have s1 := t52 j hj hj2
             clear t51 t52
             grind)
    · first | exact t2 | exact t3 | exact t4 | exact t5
