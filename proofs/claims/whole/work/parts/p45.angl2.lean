/-! ANGLERS: all ways to stand -/
def updN (S : Nat → Nat) (b v : Nat) : Nat → Nat := fun j => if j = b then v else S j
/-- d BOARDS are left, l ANGLERS; a: how many rests, the first -/
def plc (fi : Nat → Nat) (n : Nat) : Nat → Nat → (Nat → Nat) → Nat × (Nat → Nat) → Nat × (Nat → Nat)
  | 0, l, S, a => if l = 0 ∧ rst fi n S = true then (a.1 + 1, if a.1 = 0 then S else a.2) else a
  | d + 1, l, S, a => itr (fun h a => plc fi n d (l - h) (updN S (n - (d + 1)) h) a) a (l + 1)
def plF (fi : Nat → Nat) (n d l : Nat) (S : Nat → Nat) (h : Nat) (a : Nat × (Nat → Nat)) : Nat × (Nat → Nat) := plc fi n d (l - h) (updN S (n - (d + 1)) h) a
theorem plc_0 (fi : Nat → Nat) (n l : Nat) (S : Nat → Nat) (a : Nat × (Nat → Nat)) : plc fi n 0 l S a = if l = 0 ∧ rst fi n S = true then (a.1 + 1, if a.1 = 0 then S else a.2) else a := rfl
theorem plc_s (fi : Nat → Nat) (n d l : Nat) (S : Nat → Nat) (a : Nat × (Nat → Nat)) : plc fi n (d + 1) l S a = itr (plF fi n d l S) a (l + 1) := rfl
def cnt : Nat → Nat → Nat
  | 0, _ => 1
  | d + 1, l => itr (fun h a => a + cnt d (l - h)) 0 (l + 1)
def csm (d l k : Nat) : Nat := itr (fun h a => a + cnt d (l - h)) 0 k
theorem cnt_s (d l : Nat) : cnt (d + 1) l = csm d l (l + 1) := rfl
theorem csm_s (d l k : Nat) : csm d l (k + 1) = csm d l k + cnt d (l - k) := rfl
theorem csm_le (d l : Nat) : ∀ {i j : Nat}, i ≤ j → csm d l i ≤ csm d l j := by
  intro i j h
  induction j with
  | zero => rw [show i = 0 by omega]; exact Nat.le_refl _
  | succ j ih =>
    by_cases e : i = j + 1
    · rw [e]; exact Nat.le_refl _
    · rw [csm_s]
      have := ih (by omega)
      omega
theorem cnt_b : ∀ d, d < 17 → ∀ l, l < 5 → cnt d l ≤ 5000 := by decide +kernel
theorem plc_le (fi : Nat → Nat) (n : Nat) : ∀ (d l : Nat) (S : Nat → Nat) (a : Nat × (Nat → Nat)), (plc fi n d l S a).1 ≤ a.1 + cnt d l
  | 0, l, S, a => by
    rw [plc_0]
    split
    · exact Nat.le_refl _
    · exact Nat.le_succ _
  | d + 1, l, S, a => by
    rw [plc_s, cnt_s]
    have : ∀ k, (itr (plF fi n d l S) a k).1 ≤ a.1 + csm d l k := by
      intro k
      induction k with
      | zero => exact Nat.le_refl _
      | succ k ih =>
        rw [itr_s, csm_s]
        have := plc_le fi n d (l - k) (updN S (n - (d + 1)) k) (itr (plF fi n d l S) a k)
        show (plc fi n d (l - k) (updN S (n - (d + 1)) k) (itr (plF fi n d l S) a k)).1 ≤ _
        omega
    exact this _
theorem plF_le (fi : Nat → Nat) (n d l : Nat) (S : Nat → Nat) (a : Nat × (Nat → Nat)) : ∀ k, (itr (plF fi n d l S) a k).1 ≤ a.1 + csm d l k := by
  intro k
  induction k with
  | zero => exact Nat.le_refl _
  | succ k ih =>
    rw [itr_s, csm_s]
    have := plc_le fi n d (l - k) (updN S (n - (d + 1)) k) (itr (plF fi n d l S) a k)
    show (plc fi n d (l - k) (updN S (n - (d + 1)) k) (itr (plF fi n d l S) a k)).1 ≤ _
    omega
/-- none rests: nothing is kept -/
theorem plc_z (fi : Nat → Nat) (n : Nat) : ∀ (d l : Nat) (S : Nat → Nat) (a : Nat × (Nat → Nat)), (plc fi n d l S a).1 = 0 → plc fi n d l S a = a
  | 0, l, S, a => by
    rw [plc_0]
    split
    · intro h; cases h
    · intro _; rfl
  | d + 1, l, S, a => by
    rw [plc_s]
    have : ∀ k, (itr (plF fi n d l S) a k).1 = 0 → itr (plF fi n d l S) a k = a := by
      intro k
      induction k with
      | zero => intro _; rfl
      | succ k ih =>
        rw [itr_s]
        intro h
        have e := plc_z fi n d (l - k) (updN S (n - (d + 1)) k) (itr (plF fi n d l S) a k) h
        have e2 : plF fi n d l S k (itr (plF fi n d l S) a k) = itr (plF fi n d l S) a k := e
        rw [e2] at h ⊢
        exact ih h
    exact this _
def PA (n : Nat) (a : Nat × (Nat → Nat)) (M : Mem) : Prop := M 51 0 3 = nI a.1 ∧ (a.1 ≠ 0 → ∀ j, j < n → M 53 0 j = nI (a.2 j) ∧ a.2 j ≤ 4)
theorem c_place {fi : Nat → Nat} {n : Nat} (hfi : ∀ j, j < n → fi j ≤ 40) (hn : n ≤ 16) : ∀ (d f l : Nat) (S : Nat → Nat) (a : Nat × (Nat → Nat)) (M : Mem), d < f → d ≤ n → l ≤ 4 → a.1 + cnt d l ≤ 5000 → M 3 0 0 = nI n → (∀ j, j < n → M 7 0 j = nI (fi j)) → (∀ j, j < n - d → M 52 0 j = nI (S j) ∧ S j ≤ 4) → PA n a M → ok (rec_place f (nI (n - d)) (nI l) M) (fun M' => fr [51, 52, 53] M M' ∧ (∀ j, j < n - d → M' 52 0 j = M 52 0 j) ∧ PA n (plc fi n d l S a) M')
  | _, 0, _, _, _, _, h, _, _, _, _, _, _, _ => by omega
  | 0, f + 1, l, S, a, M, _, _, hl, hc, e, e7, hS, hA => by
    have hc1 : cnt 0 l = 1 := rfl
    unfold rec_place f_RX0_place
    rw [Nat.sub_zero] at *
    rw [plc_0]
    refine ok_ifp e.symm ?_
    by_cases h0 : l = 0
    · refine ok_ifp (by rw [h0]; rfl) (ok_bindE (c_isRest (fi := fi) (S := S) e hn hS (fun j hj => ⟨e7 j hj, hfi j hj⟩)) ?_)
      cases hr : rst fi n S
      · refine ok_ifp rfl (ok_some ⟨fr_rfl, fun _ _ => rfl, ?_⟩)
        rw [if_neg (fun z => by cases z.2)]
        exact hA
      · refine ok_ifn (by decide) (ok_some ?_)
        rw [if_pos ⟨h0, rfl⟩]
        by_cases ha : a.1 = 0
        · have ek : f_X0_keepFirst M = am_cp M 52 0 0 53 0 0 16 := by
            unfold f_X0_keepFirst
            rw [if_pos (by rw [hA.1, ha]; rfl)]
          rw [ek]
          have g : ∀ c r j, am_cp M 52 0 0 53 0 0 16 c r j = if c = 53 ∧ r = 0 ∧ 0 ≤ j ∧ j < 0 + 16 then M 52 0 (0 + (j - 0)) else M c r j := fun _ _ _ => rfl
          have gc : ∀ c, c ≠ 53 → am_cp M 52 0 0 53 0 0 16 c = M c := by
            intro c hc
            funext r j
            rw [g, if_neg (fun z => hc z.1)]
          refine ⟨fr_u3 (fun c hc => gc c (fun z => hc (by rw [z]; decide))) (by decide), fun j hj => ?_, ?_, ?_⟩
          · rw [u3_c (by decide), gc 52 (by decide)]
          · rw [u3_e, gc 51 (by decide), hA.1, nI_1]
          · intro _ j hj
            rw [u3_c (by decide), g, if_pos ⟨rfl, rfl, by omega, by omega⟩, show 0 + (j - 0) = j by omega]
            show M 52 0 j = nI ((if a.1 = 0 then S else a.2) j) ∧ (if a.1 = 0 then S else a.2) j ≤ 4
            rw [if_pos ha]
            exact hS j hj
        · have ek : f_X0_keepFirst M = M := by
            unfold f_X0_keepFirst
            rw [if_neg (by rw [hA.1]; exact nI_ne0 (by omega) (by omega))]
          rw [ek]
          refine ⟨fr_u3 fr_rfl (by decide), fun j hj => ?_, ?_, ?_⟩
          · rw [u3_c (by decide)]
          · rw [u3_e, hA.1, nI_1]
          · intro _ j hj
            rw [u3_c (by decide)]
            show M 53 0 j = nI ((if a.1 = 0 then S else a.2) j) ∧ (if a.1 = 0 then S else a.2) j ≤ 4
            rw [if_neg ha]
            exact hA.2 ha j hj
    · refine ok_ifn (nI_ne0 (by omega) (by omega)) (ok_some ⟨fr_rfl, fun _ _ => rfl, ?_⟩)
      rw [if_neg (fun z => h0 z.1)]
      exact hA
  | d + 1, f + 1, l, S, a, M, hf, hd, hl, hc, e, e7, hS, hA => by
    rw [cnt_s] at hc
    unfold rec_place f_RX0_place
    rw [plc_s]
    refine ok_ifn (fun z => by rw [e] at z; have := (nI_eq (by omega) (by omega)).mp z; omega) (ok_bind (P := fun M' => fr [51, 52, 53] M M' ∧ (∀ j, j < n - (d + 1) → M' 52 0 j = M 52 0 j) ∧ PA n (itr (plF fi n d l S) a (l + 1)) M') ?_ (fun _ h => ok_some h))
    refine ok_wh (fun k s => s.1 = nI k ∧ fr [51, 52, 53] M s.2 ∧ (∀ j, j < n - (d + 1) → s.2 52 0 j = M 52 0 j) ∧ PA n (itr (plF fi n d l S) a k) s.2) (l + 1) (by exact ⟨rfl, fr_rfl, fun _ _ => rfl, hA⟩) (by omega) ?_ ?_
    · rintro k ⟨y, M1⟩ hk ⟨e1, f1, o1, p1⟩
      simp only at e1 f1 o1 p1
      subst e1
      have c1 := plF_le fi n d l S a k
      have c2 := csm_le d l (show k + 1 ≤ l + 1 by omega)
      rw [csm_s] at c2
      unfold L_RX0_place_39
      simp only [nI_clamp (show n - (d + 1) < 2 ^ 31 by omega)]
      refine ok_ifn (nI_nlt (by omega) (by omega)) (ok_ifp (inb_n (by omega) (by decide)) ?_)
      rw [nI_1, nI_sub (show k ≤ l by omega), show n - (d + 1) + 1 = n - d by omega]
      refine ok_bind (c_place hfi hn d f (l - k) (updN S (n - (d + 1)) k) (itr (plF fi n d l S) a k) (am_u3 M1 52 0 (n - (d + 1)) (nI k)) (by omega) (by omega) (by omega) (by omega) (by rw [u3_c (by decide), f1 3 (by decide)]; exact e) (fun j hj => by rw [u3_c (by decide), f1 7 (by decide)]; exact e7 j hj) (fun j hj => ?_) ?_) ?_
      · unfold updN
        by_cases hjd : j = n - (d + 1)
        · rw [hjd, u3_e, if_pos rfl]; exact ⟨rfl, by omega⟩
        · rw [u3_j (by omega), if_neg hjd, o1 j (by omega)]; exact hS j (by omega)
      · refine ⟨by rw [u3_c (by decide)]; exact p1.1, fun z j hj => by rw [u3_c (by decide)]; exact p1.2 z j hj⟩
      · rintro M2 ⟨f2, o2, p2⟩
        refine ok_some ⟨nI_1 k, fr_tr (fr_u3 f1 (by decide)) f2, fun j hj => ?_, ?_⟩
        · show M2 52 0 j = _
          rw [o2 j (by omega), u3_j (by omega)]; exact o1 j hj
        · exact p2
    · rintro ⟨y, M1⟩ ⟨e1, f1, o1, p1⟩
      simp only at e1 f1 o1 p1
      subst e1
      unfold L_RX0_place_39
      exact ok_ifp (nI_lt (by omega) (by omega)) (ok_some ⟨f1, o1, p1⟩)
def PM (n : Nat) (a : Nat × (Nat → Nat)) (M : Mem) : Prop := M 54 0 46 = nI a.1 ∧ (∀ j, j < n → M 80 0 j = nI (a.2 j) ∧ a.2 j ≤ 4)
theorem m_place {fi : Nat → Nat} {n : Nat} (hfi : ∀ j, j < n → fi j ≤ 40) (hn : n ≤ 16) : ∀ (d f l : Nat) (S : Nat → Nat) (a : Nat × (Nat → Nat)) (M : Mem), d < f → d ≤ n → l ≤ 4 → a.1 + cnt d l ≤ 5000 → M 58 0 0 = nI n → (∀ j, j < n → M 60 (j + 1) 3 = nI (fi j)) → (∀ j, j < n - d → M 79 0 j = nI (S j) ∧ S j ≤ 4) → PM n a M → ok (rec_angles f (nI (n - d)) (nI l) M) (fun M' => fr [54, 79, 80] M M' ∧ (∀ j, j ≠ 46 → M' 54 0 j = M 54 0 j) ∧ (∀ j, j < n - d → M' 79 0 j = M 79 0 j) ∧ PM n (plc fi n d l S a) M')
  | _, 0, _, _, _, _, h, _, _, _, _, _, _, _ => by omega
  | 0, f + 1, l, S, a, M, _, _, hl, hc, e, e7, hS, hA => by
    have hc1 : cnt 0 l = 1 := rfl
    unfold rec_angles f_RX12_angles
    rw [Nat.sub_zero] at *
    rw [plc_0]
    refine ok_ifp e.symm ?_
    by_cases h0 : l = 0
    · refine ok_ifn (by rw [h0]; decide) (ok_bind (m_isRest (fi := fi) (S := S) e hn hS (fun j hj => ⟨e7 j hj, hfi j hj⟩)) ?_)
      rintro v rfl
      cases hr : rst fi n S
      · refine ok_ifp rfl (ok_some ⟨fr_rfl, fun _ _ => rfl, fun _ _ => rfl, ?_⟩)
        rw [if_neg (fun z => by cases z.2)]
        exact hA
      · refine ok_ifn (by decide) ?_
        rw [if_pos ⟨h0, rfl⟩]
        refine ok_bind (P := fun M' => fr [80] M M' ∧ ∀ j, j < n → M' 80 0 j = nI ((if a.1 = 0 then S else a.2) j) ∧ (if a.1 = 0 then S else a.2) j ≤ 4) ?_ ?_
        · by_cases ha : a.1 = 0
          · rw [if_pos ha]
            refine ok_wh (fun k s => s.1 = nI k ∧ fr [80] M s.2 ∧ ∀ j, j < k → s.2 80 0 j = M 79 0 j) 16 ⟨rfl, fr_rfl, fun j hj => by cases hj⟩ (by decide) ?_ ?_
            · rintro k ⟨y, M1⟩ hk ⟨e1, f1, o1⟩
              simp only at e1 f1 o1
              subst e1
              unfold L_RX12_angles_24
              simp only [nI_clamp (show k < 2 ^ 31 by omega)]
              refine ok_ifn (nI_ge (b := 16) hk (by decide)) (ok_ifp (by rw [f1 54 (by decide), hA.1, ha]; rfl) (ok_ifp (inb_n hk (by decide)) (ok_some ⟨nI_1 k, fr_u3 f1 (by decide), fun j hj => ?_⟩)))
              show am_u3 M1 80 0 k (M1 79 0 k) 80 0 j = _
              by_cases hjk : j = k
              · rw [hjk, u3_e, f1 79 (by decide)]
              · rw [u3_j (by omega)]; exact o1 j (by omega)
            · rintro ⟨y, M1⟩ ⟨e1, f1, o1⟩
              simp only at e1 f1 o1
              subst e1
              unfold L_RX12_angles_24
              exact ok_ifp (by decide) (ok_some ⟨f1, fun j hj => by rw [o1 j (by omega)]; exact hS j hj⟩)
          · rw [if_neg ha]
            refine ok_wh (fun k s => s.1 = nI k ∧ s.2 = M) 0 ⟨rfl, rfl⟩ (by decide) (fun k s hk => by omega) ?_
            rintro ⟨y, M1⟩ ⟨e1, e2⟩
            simp only at e1 e2
            subst e1 e2
            unfold L_RX12_angles_24
            exact ok_ifn (by decide) (ok_ifn (by rw [hA.1]; exact nI_ne0 (by omega) (by omega)) (ok_some ⟨fr_rfl, hA.2⟩))
        · rintro M1 ⟨f1, o1⟩
          refine ok_some ⟨fr_u3 (fr_mono f1 (by decide)) (by decide), fun j hj => ?_, fun j hj => ?_, ?_, fun j hj => ?_⟩
          · rw [u3_j (by omega), f1 54 (by decide)]
          · rw [u3_c (by decide), f1 79 (by decide)]
          · rw [u3_e, f1 54 (by decide), hA.1, nI_1]
          · rw [u3_c (by decide)]; exact o1 j hj
    · refine ok_ifp (nI_lt (a := 0) (by omega) (by omega)) (ok_some ⟨fr_rfl, fun _ _ => rfl, fun _ _ => rfl, ?_⟩)
      rw [if_neg (fun z => h0 z.1)]
      exact hA
  | d + 1, f + 1, l, S, a, M, hf, hd, hl, hc, e, e7, hS, hA => by
    rw [cnt_s] at hc
    unfold rec_angles f_RX12_angles
    rw [plc_s]
    refine ok_ifn (fun z => by rw [e] at z; have := (nI_eq (by omega) (by omega)).mp z; omega) (ok_bind (P := fun M' => fr [54, 79, 80] M M' ∧ (∀ j, j ≠ 46 → M' 54 0 j = M 54 0 j) ∧ (∀ j, j < n - (d + 1) → M' 79 0 j = M 79 0 j) ∧ PM n (itr (plF fi n d l S) a (l + 1)) M') ?_ ?_)
    · refine ok_wh (fun k s => s.1 = nI k ∧ fr [54, 79, 80] M s.2 ∧ (∀ j, j ≠ 46 → s.2 54 0 j = M 54 0 j) ∧ (∀ j, j < n - (d + 1) → s.2 79 0 j = M 79 0 j) ∧ PM n (itr (plF fi n d l S) a k) s.2) (l + 1) (by exact ⟨rfl, fr_rfl, fun _ _ => rfl, fun _ _ => rfl, hA⟩) (by omega) ?_ ?_
      · rintro k ⟨y, M1⟩ hk ⟨e1, f1, g1, o1, p1⟩
        simp only at e1 f1 g1 o1 p1
        subst e1
        have c1 := plF_le fi n d l S a k
        have c2 := csm_le d l (show k + 1 ≤ l + 1 by omega)
        rw [csm_s] at c2
        unfold L_RX12_angles_68
        simp only [nI_clamp (show n - (d + 1) < 2 ^ 31 by omega)]
        refine ok_ifn (nI_nlt (by omega) (by omega)) (ok_ifp (inb_n (by omega) (by decide)) ?_)
        rw [nI_1, nI_sub (show k ≤ l by omega), show n - (d + 1) + 1 = n - d by omega]
        refine ok_bind (m_place hfi hn d f (l - k) (updN S (n - (d + 1)) k) (itr (plF fi n d l S) a k) (am_u3 M1 79 0 (n - (d + 1)) (nI k)) (by omega) (by omega) (by omega) (by omega) (by rw [u3_c (by decide), f1 58 (by decide)]; exact e) (fun j hj => by rw [u3_c (by decide), f1 60 (by decide)]; exact e7 j hj) (fun j hj => ?_) ?_) ?_
        · unfold updN
          by_cases hjd : j = n - (d + 1)
          · rw [hjd, u3_e, if_pos rfl]; exact ⟨rfl, by omega⟩
          · rw [u3_j (by omega), if_neg hjd, o1 j (by omega)]; exact hS j (by omega)
        · refine ⟨by rw [u3_c (by decide)]; exact p1.1, fun j hj => by rw [u3_c (by decide)]; exact p1.2 j hj⟩
        · rintro M2 ⟨f2, g2, o2, p2⟩
          refine ok_some ⟨nI_1 k, fr_tr (fr_u3 f1 (by decide)) f2, fun j hj => ?_, fun j hj => ?_, ?_⟩
          · show M2 54 0 j = _
            rw [g2 j hj, u3_c (by decide)]; exact g1 j hj
          · show M2 79 0 j = _
            rw [o2 j (by omega), u3_j (by omega)]; exact o1 j hj
          · exact p2
      · rintro ⟨y, M1⟩ ⟨e1, f1, g1, o1, p1⟩
        simp only at e1 f1 g1 o1 p1
        subst e1
        unfold L_RX12_angles_68
        exact ok_ifp (nI_lt (by omega) (by omega)) (ok_some ⟨f1, g1, o1, p1⟩)
    · rintro M1 ⟨f1, g1, o1, p1⟩
      rw [nI_clamp (show n - (d + 1) < 2 ^ 31 by omega)]
      refine ok_ifp (inb_n (by omega) (by decide)) (ok_some ⟨fr_u3 f1 (by decide), fun j hj => ?_, fun j hj => ?_, ?_, fun j hj => ?_⟩)
      · rw [u3_c (by decide)]; exact g1 j hj
      · rw [u3_j (by omega)]; exact o1 j hj
      · rw [u3_c (by decide)]; exact p1.1
      · rw [u3_c (by decide)]; exact p1.2 j hj
