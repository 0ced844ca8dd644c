/-! OPENERS: the class weighs -/
def rgM (qs : Nat) (M : Mem) (b w : Nat) : Bool := decide (M qs 0 b = -1) || decide (M qs 0 b = scN (bt (nI w)))
theorem c_right {qs qn : Nat} {M : Mem} {b w : Nat} (hb : b < 16) : f_X5_isRight qs qn (nI b) (nI w) M = some (if rgM qs M b w = true then 1 else 0) := by
  unfold f_X5_isRight rgM
  rw [if_pos (inb_n hb (by decide)), nI_clamp (by omega)]
  by_cases h1 : M qs 0 b = -1
  · rw [if_pos h1, decide_eq_true h1]; rfl
  · rw [if_neg h1, decide_eq_false h1, scent_eq, Bool.false_or]
    show (if M qs 0 b = scN (bt (nI w)) then some 1 else some 0) = _
    by_cases h2 : M qs 0 b = scN (bt (nI w))
    · rw [if_pos h2, decide_eq_true h2]; rfl
    · rw [if_neg h2, decide_eq_false h2]; rfl
theorem W2 : ∀ K, K < 5 → (2 : Int32) <<< (nI K &&& 31) = nI (2 ^ (K + 1)) := by decide +kernel
theorem bhI0 : ∀ K, K < 5 → ∀ v, v < 32 → v < 2 ^ (K + 1) → ∀ o, o < 2 → (nI v >>> ((1 : Int32) &&& 31)) ||| (nI o <<< (nI K &&& 31)) = nI (v / 2 + o * 2 ^ K) := by decide +kernel
theorem W32 {K : Nat} (h : K ≤ 4) : 2 ^ (K + 1) ≤ 32 := Nat.pow_le_pow_right (n := 2) (by decide) (show K + 1 ≤ 5 by omega)
theorem bhI {K v o : Nat} (hK : K ≤ 4) (hv : v < 2 ^ (K + 1)) (ho : o < 2) : (nI v >>> ((1 : Int32) &&& 31)) ||| (nI o <<< (nI K &&& 31)) = nI (bh K v o) := bhI0 K (by omega) v (by have := W32 hK; omega) hv o ho
theorem bh_lt {K v o : Nat} (hv : v < 2 ^ (K + 1)) (ho : o < 2) : bh K v o < 2 ^ (K + 1) := by
  unfold bh
  rw [Nat.pow_succ] at *
  have : o * 2 ^ K ≤ 1 * 2 ^ K := Nat.mul_le_mul_right _ (by omega)
  omega
theorem ixI (b w : Nat) : nI b * 32 + nI w = nI (32 * b + w) := by
  rw [show (32 : Int32) = nI 32 from rfl, nI_mul, nI_add, Nat.mul_comm]
theorem fill_c {M : Mem} {c n : Nat} {v : Int32} : fr [c] M (fillM M c n v) := by
  intro c' hc
  funext r j
  unfold fillM
  rw [if_neg (fun z => hc (by rw [z.1]; exact List.mem_singleton.mpr rfl))]
theorem fill_e {M : Mem} {c n : Nat} {v : Int32} {j : Nat} (h : j < n) : fillM M c n v c 0 j = v := by
  unfold fillM
  rw [if_pos ⟨rfl, rfl, h⟩]
/-- what one window gives -/
def wA (b o K v u : Nat) (rg : Nat → Nat → Bool) (x : Int32) : Int32 := if u = 32 * b + bh K v o ∧ rg b (bh K v o) = true then x else 0
theorem c_wTo1 {qs qn : Nat} {M : Mem} {K b v : Nat} {x : Int32} (hq : qs = 46 ∨ qs = 47) (eK : M 3 0 13 = nI K) (hK : K ≤ 4) (hb : b < 16) (hv : v < 2 ^ (K + 1)) : ok (wh (L_X5_weighTo_31 qs qn (nI b) (nI v) x) FU ((0 : Int32), M)) (fun M' => fr [48] M M' ∧ ∀ j, M' 48 0 j = M 48 0 j + wA b 0 K v j (rgM qs M) x + wA b 1 K v j (rgM qs M) x) := by
  have hW := W32 hK
  have one : ∀ o, o < 2 → ∀ M1, fr [48] M M1 → ok (L_X5_weighTo_31 qs qn (nI b) (nI v) x (nI o, M1)) (fun e => ∃ M2, e = Sum.inl (nI (o + 1), M2) ∧ fr [48] M M2 ∧ ∀ j, M2 48 0 j = M1 48 0 j + wA b o K v j (rgM qs M) x) := by
    intro o ho M1 f1
    have eq : M1 qs = M qs := by rcases hq with rfl | rfl <;> exact f1 _ (by decide)
    have er : rgM qs M1 = rgM qs M := by funext b w; unfold rgM; rw [eq]
    have hu := bh_lt hv ho
    unfold L_X5_weighTo_31
    simp only [f1 3 (by decide), eK]
    rw [bhI hK hv ho, ixI, nI_clamp (show 32 * b + bh K v o < 2 ^ 31 by omega)]
    refine ok_ifn (nI_nlt (b := o) (a := 1) (by omega) (by decide)) (ok_bindE (c_right hb) ?_)
    rw [er]
    unfold wA
    cases hr : rgM qs M b (bh K v o)
    · refine ok_ifp rfl (ok_some ⟨M1, by rw [nI_1], f1, fun j => ?_⟩)
      rw [if_neg (fun z => by cases z.2), add00]
    · refine ok_ifn (by decide) (ok_ifp (inb_n (by omega) (by decide)) (ok_some ⟨_, by rw [nI_1], fr_u3 f1 (by decide), fun j => ?_⟩))
      by_cases e : j = 32 * b + bh K v o
      · rw [e, u3_e, if_pos ⟨rfl, rfl⟩]
      · rw [u3_j (by omega), if_neg (fun z => e z.1), add00]
  refine ok_wh (fun k s => s.1 = nI k ∧ fr [48] M s.2 ∧ ∀ j, s.2 48 0 j = M 48 0 j + (if 1 ≤ k then wA b 0 K v j (rgM qs M) x else 0) + (if 2 ≤ k then wA b 1 K v j (rgM qs M) x else 0)) 2 ⟨rfl, fr_rfl, fun j => by rw [if_neg (by decide), if_neg (by decide), add00, add00]⟩ (by decide) ?_ ?_
  · rintro k ⟨y, M1⟩ hk ⟨e1, f1, o1⟩
    simp only at e1 f1 o1
    subst e1
    refine ok_mono (one k hk M1 f1) ?_
    rintro e ⟨M2, rfl, f2, o2⟩
    refine ⟨rfl, f2, fun j => ?_⟩
    show M2 48 0 j = _
    rw [o2 j, o1 j]
    have : k = 0 ∨ k = 1 := by omega
    rcases this with rfl | rfl
    · rw [if_neg (by decide), if_neg (by decide), if_pos (by decide), if_neg (by decide), add00, add00, add00]
    · rw [if_pos (by decide), if_neg (by decide), if_pos (by decide), if_pos (by decide), add00]
  · rintro ⟨y, M1⟩ ⟨e1, f1, o1⟩
    simp only at e1 f1 o1
    subst e1
    unfold L_X5_weighTo_31
    refine ok_ifp (by decide) (ok_some ⟨f1, fun j => ?_⟩)
    rw [o1 j, if_pos (by decide), if_pos (by decide)]
theorem c_weighTo {qs qn : Nat} {M : Mem} {K b v : Nat} {rg : Nat → Nat → Bool} (hq : qs = 46 ∨ qs = 47) (eK : M 3 0 13 = nI K) (hK : K ≤ 4) (hb : b < 16) (hv : v < 2 ^ (K + 1)) (hr : rgM qs M = rg) (hw : 0 < b → M 48 0 (32 * (b - 1) + v) = nI (tO K rg b v)) : ok (f_X5_weighTo qs qn (nI b) (nI v) M) (fun M' => fr [48] M M' ∧ ∀ j, M' 48 0 j = M 48 0 j + wA b 0 K v j rg (nI (tO K rg b v)) + wA b 1 K v j rg (nI (tO K rg b v))) := by
  subst hr
  have hW := W32 hK
  have go : ∀ x, x = nI (tO K (rgM qs M) b v) → ok (Option.bind (wh (L_X5_weighTo_31 qs qn (nI b) (nI v) x) FU ((0 : Int32), M)) (fun (M' : Mem) => some M')) (fun M' => fr [48] M M' ∧ ∀ j, M' 48 0 j = M 48 0 j + wA b 0 K v j (rgM qs M) (nI (tO K (rgM qs M) b v)) + wA b 1 K v j (rgM qs M) (nI (tO K (rgM qs M) b v))) := by
    intro x hx
    rw [← hx]
    exact ok_bind (c_wTo1 hq eK hK hb hv) (fun _ h => ok_some h)
  unfold f_X5_weighTo
  by_cases hb0 : b = 0
  · subst hb0
    by_cases hv0 : v = 0
    · subst hv0
      exact ok_ifp rfl (ok_ifp (by decide) (go 1 (by rw [tO_0, if_pos rfl]; rfl)))
    · exact ok_ifn (nI_ne0 (by omega) (by omega)) (ok_ifp (by decide) (go 0 (by rw [tO_0, if_neg hv0]; rfl)))
  · have e1 : (nI b - 1) * 32 + nI v = nI (32 * (b - 1) + v) := by rw [show nI b - 1 = nI (b - 1) from nI_sub (b := 1) (by omega), ixI]
    rw [e1, nI_clamp (show 32 * (b - 1) + v < 2 ^ 31 by omega)]
    by_cases hv0 : v = 0
    · exact ok_ifp (by rw [hv0]; rfl) (ok_ifn (nI_nle (by omega) (by omega)) (ok_ifp (inb_n (by omega) (by decide)) (go _ (hw (by omega)))))
    · exact ok_ifn (nI_ne0 (by omega) (by omega)) (ok_ifn (nI_nle (by omega) (by omega)) (ok_ifp (inb_n (by omega) (by decide)) (go _ (hw (by omega)))))
theorem nsm_tF {K : Nat} {rg : Nat → Nat → Bool} {b u k : Nat} : nI (nsm (tF K rg b u) k) + wA b 0 K k (32 * b + u) rg (nI (tO K rg b k)) + wA b 1 K k (32 * b + u) rg (nI (tO K rg b k)) = nI (nsm (tF K rg b u) (k + 1)) := by
  have one : ∀ o, wA b o K k (32 * b + u) rg (nI (tO K rg b k)) = nI (if bh K k o = u ∧ rg b u = true then tO K rg b k else 0) := by
    intro o
    unfold wA
    by_cases h : bh K k o = u
    · subst h
      by_cases h2 : rg b (bh K k o) = true
      · rw [if_pos ⟨rfl, h2⟩, if_pos ⟨rfl, h2⟩]
      · rw [if_neg (fun z => h2 z.2), if_neg (fun z => h2 z.2)]; rfl
    · rw [if_neg (fun z => h (by omega)), if_neg (fun z => h z.1)]; rfl
  rw [one, one, nI_add, nI_add, nsm_s, Nat.add_assoc]
  rfl
theorem c_row {qs qn : Nat} {M : Mem} {K b : Nat} {rg : Nat → Nat → Bool} (hq : qs = 46 ∨ qs = 47) (eK : M 3 0 13 = nI K) (hK : K ≤ 4) (hb : b < 16) (hr : rgM qs M = rg) (hw : 0 < b → ∀ v, v < 2 ^ (K + 1) → M 48 0 (32 * (b - 1) + v) = nI (tO K rg b v)) (h0 : ∀ u, u < 2 ^ (K + 1) → M 48 0 (32 * b + u) = 0) : ok (wh (L_X5_weigh_31 qs qn (nI b)) FU ((0 : Int32), M)) (fun M' => fr [48] M M' ∧ (∀ u, u < 2 ^ (K + 1) → M' 48 0 (32 * b + u) = nI (tO K rg (b + 1) u)) ∧ ∀ j, (j < 32 * b ∨ 32 * (b + 1) ≤ j) → M' 48 0 j = M 48 0 j) := by
  have hW := W32 hK
  refine ok_wh (fun k s => s.1 = nI k ∧ fr [48] M s.2 ∧ (∀ u, u < 2 ^ (K + 1) → s.2 48 0 (32 * b + u) = nI (nsm (tF K rg b u) k)) ∧ ∀ j, (j < 32 * b ∨ 32 * (b + 1) ≤ j) → s.2 48 0 j = M 48 0 j) (2 ^ (K + 1)) ⟨rfl, fr_rfl, h0, fun _ _ => rfl⟩ (by omega) ?_ ?_
  · rintro k ⟨y, M1⟩ hk ⟨e1, f1, v1, o1⟩
    simp only at e1 f1 v1 o1
    subst e1
    have eq : M1 qs = M qs := by rcases hq with rfl | rfl <;> exact f1 _ (by decide)
    have er : rgM qs M1 = rg := by rw [← hr]; funext b w; unfold rgM; rw [eq]
    have eK1 : M1 3 0 13 = nI K := by rw [f1 3 (by decide)]; exact eK
    unfold L_X5_weigh_31
    simp only [eK1, W2 K (by omega)]
    refine ok_ifn (nI_ge hk (by omega)) (ok_bind (c_weighTo hq eK1 hK hb hk er (fun z => by rw [o1 _ (by omega)]; exact hw z k hk)) ?_)
    rintro M2 ⟨f2, o2⟩
    refine ok_some ⟨nI_1 k, fr_tr f1 f2, fun u hu => ?_, fun j hj => ?_⟩
    · show M2 48 0 (32 * b + u) = _
      rw [o2, v1 u hu, nsm_tF]
    · show M2 48 0 j = _
      have hn : ∀ o, o < 2 → ∀ x, wA b o K k j rg x = 0 := by
        intro o ho x
        unfold wA
        have := bh_lt hk ho
        rw [if_neg (fun z => by omega)]
      rw [o2, hn 0 (by decide), hn 1 (by decide), add00, add00]
      exact o1 j hj
  · rintro ⟨y, M1⟩ ⟨e1, f1, v1, o1⟩
    simp only at e1 f1 v1 o1
    subst e1
    unfold L_X5_weigh_31
    simp only [f1 3 (by decide), eK, W2 K (by omega)]
    exact ok_ifp (nI_le (Nat.le_refl _) (by omega)) (ok_some ⟨f1, fun u hu => by rw [v1 u hu, tO_s], o1⟩)
theorem c_rows {qs qn : Nat} {M : Mem} {K n : Nat} {rg : Nat → Nat → Bool} (hq : qs = 46 ∨ qs = 47) (eK : M 3 0 13 = nI K) (hK : K ≤ 4) (eN : M 3 0 0 = nI n) (hn : n ≤ 16) (hr : rgM qs M = rg) (h0 : ∀ j, j < 512 → M 48 0 j = 0) : ok (wh (L_X5_weigh_18 qs qn) FU ((0 : Int32), M)) (fun M' => fr [48] M M' ∧ ∀ b, b < n → ∀ u, u < 2 ^ (K + 1) → M' 48 0 (32 * b + u) = nI (tO K rg (b + 1) u)) := by
  have hW := W32 hK
  refine ok_wh (fun k s => s.1 = nI k ∧ fr [48] M s.2 ∧ (∀ b, b < k → ∀ u, u < 2 ^ (K + 1) → s.2 48 0 (32 * b + u) = nI (tO K rg (b + 1) u)) ∧ ∀ j, 32 * k ≤ j → j < 512 → s.2 48 0 j = 0) n ⟨rfl, fr_rfl, fun b hb => (by cases hb), fun j _ hj => h0 j hj⟩ (by omega) ?_ ?_
  · rintro k ⟨y, M1⟩ hk ⟨e1, f1, v1, o1⟩
    simp only at e1 f1 v1 o1
    subst e1
    have eq : M1 qs = M qs := by rcases hq with rfl | rfl <;> exact f1 _ (by decide)
    have er : rgM qs M1 = rg := by rw [← hr]; funext b w; unfold rgM; rw [eq]
    unfold L_X5_weigh_18
    simp only [f1 3 (by decide), eN]
    refine ok_ifn (nI_ge hk (by omega)) (ok_bind (c_row (K := K) (rg := rg) hq (by rw [f1 3 (by decide)]; exact eK) hK (by omega) er (fun z v hv => ?_) (fun u hu => o1 _ (by omega) (by omega))) ?_)
    · have := v1 (k - 1) (by omega) v hv
      rw [show k - 1 + 1 = k by omega] at this
      exact this
    · rintro M2 ⟨f2, v2, o2⟩
      refine ok_some ⟨nI_1 k, fr_tr f1 f2, fun b hb u hu => ?_, fun j h1 h2 => ?_⟩
      · show M2 48 0 (32 * b + u) = _
        by_cases e : b = k
        · subst e; exact v2 u hu
        · rw [o2 _ (by omega)]; exact v1 b (by omega) u hu
      · show M2 48 0 j = 0
        rw [o2 _ (by omega)]; exact o1 j (by omega) h2
  · rintro ⟨y, M1⟩ ⟨e1, f1, v1, o1⟩
    simp only at e1 f1 v1 o1
    subst e1
    unfold L_X5_weigh_18
    simp only [f1 3 (by decide), eN]
    exact ok_ifp (nI_le (Nat.le_refl _) (by omega)) (ok_some ⟨f1, v1⟩)
theorem c_weighOn {qs qn : Nat} {M : Mem} {K n b w : Nat} {rg : Nat → Nat → Bool} (hq : qs = 46 ∨ qs = 47) (eK : M 3 0 13 = nI K) (hK : K ≤ 4) (eN : M 3 0 0 = nI n) (hn : n ≤ 16) (hb : b < n) (hw : w < 2 ^ (K + 1)) (hr : rgM qs M = rg) (h1 : b + 1 < n → ∀ u, u < 2 ^ (K + 1) → M 49 0 (32 * (b + 1) + u) = nI (eX K rg (n - 1 - (b + 1)) (b + 2) u)) : f_X5_weighOn qs qn (nI b) (nI w) M = some (am_u3 M 49 0 (32 * b + w) (nI (eX K rg (n - 1 - b) (b + 1) w))) := by
  subst hr
  have hW := W32 hK
  unfold f_X5_weighOn
  rw [eN, ixI, nI_clamp (show 32 * b + w < 2 ^ 31 by omega), show nI n - 1 = nI (n - 1) from nI_sub (b := 1) (by omega)]
  by_cases hl : b = n - 1
  · rw [if_pos (by rw [hl]), if_pos (inb_n (by omega) (by decide)), show n - 1 - b = 0 by omega]
    rfl
  · rw [if_neg (fun z => hl ((nI_eq (by omega) (by omega)).mp z))]
    have st : ∀ o, o < 2 → ∀ x : Int32, L_X5_weighOn_23 qs qn (nI b) (nI w) M (x, nI o) = some (Sum.inl (x + nI (if rgM qs M (b + 1) (bh K w o) = true then eX K (rgM qs M) (n - 1 - (b + 1)) (b + 2) (bh K w o) else 0), nI (o + 1))) := by
      intro o ho x
      have hu := bh_lt hw ho
      unfold L_X5_weighOn_23
      simp only [eK]
      rw [bhI hK hw ho, nI_1, nI_1, ixI, nI_clamp (show 32 * (b + 1) + bh K w o < 2 ^ 31 by omega), if_neg (show ¬ (1 : Int32) < nI o from nI_nlt (b := o) (a := 1) (by omega) (by decide)), c_right (by omega)]
      simp only [Option.bind]
      cases hr : rgM qs M (b + 1) (bh K w o)
      · rw [ifb0]; rfl
      · rw [ifb1, if_pos (inb_n (by omega) (by decide)), h1 (by omega) _ hu]; rfl
    have key : wh (L_X5_weighOn_23 qs qn (nI b) (nI w) M) FU ((0 : Int32), (0 : Int32)) = some (nI (eX K (rgM qs M) (n - 1 - b) (b + 1) w)) := by
      refine wh_for (fun k => (if k = 0 then (0 : Int32) else if k = 1 then 0 + nI (if rgM qs M (b + 1) (bh K w 0) = true then eX K (rgM qs M) (n - 1 - (b + 1)) (b + 2) (bh K w 0) else 0) else 0 + nI (if rgM qs M (b + 1) (bh K w 0) = true then eX K (rgM qs M) (n - 1 - (b + 1)) (b + 2) (bh K w 0) else 0) + nI (if rgM qs M (b + 1) (bh K w 1) = true then eX K (rgM qs M) (n - 1 - (b + 1)) (b + 2) (bh K w 1) else 0), nI k)) 2 _ (by decide) ?_ ?_
      · intro k hk
        have : k = 0 ∨ k = 1 := by omega
        rcases this with rfl | rfl
        · exact st 0 (by decide) _
        · exact st 1 (by decide) _
      · unfold L_X5_weighOn_23
        simp only []
        rw [if_pos (by decide), show n - 1 - b = (n - 1 - (b + 1)) + 1 by omega, eX_s, ← nI_add, Int32.zero_add]
        rfl
    rw [key]
    show (if inb (nI (32 * b + w)) 512 = true then _ else _) = _
    rw [if_pos (inb_n (by omega) (by decide))]
theorem c_rowOn {qs qn : Nat} {M : Mem} {K n b : Nat} {rg : Nat → Nat → Bool} (hq : qs = 46 ∨ qs = 47) (eK : M 3 0 13 = nI K) (hK : K ≤ 4) (eN : M 3 0 0 = nI n) (hn : n ≤ 16) (hb : b < n) (hr : rgM qs M = rg) (h1 : b + 1 < n → ∀ u, u < 2 ^ (K + 1) → M 49 0 (32 * (b + 1) + u) = nI (eX K rg (n - 1 - (b + 1)) (b + 2) u)) : ok (wh (L_X5_weigh_73 qs qn (nI b)) FU ((0 : Int32), M)) (fun M' => fr [49] M M' ∧ (∀ w, w < 2 ^ (K + 1) → M' 49 0 (32 * b + w) = nI (eX K rg (n - 1 - b) (b + 1) w)) ∧ ∀ j, (j < 32 * b ∨ 32 * (b + 1) ≤ j) → M' 49 0 j = M 49 0 j) := by
  have hW := W32 hK
  refine ok_wh (fun k s => s.1 = nI k ∧ fr [49] M s.2 ∧ (∀ w, w < k → s.2 49 0 (32 * b + w) = nI (eX K rg (n - 1 - b) (b + 1) w)) ∧ ∀ j, (j < 32 * b ∨ 32 * (b + 1) ≤ j) → s.2 49 0 j = M 49 0 j) (2 ^ (K + 1)) ⟨rfl, fr_rfl, fun w hw => (by cases hw), fun _ _ => rfl⟩ (by omega) ?_ ?_
  · rintro k ⟨y, M1⟩ hk ⟨e1, f1, v1, o1⟩
    simp only at e1 f1 v1 o1
    subst e1
    have eq : M1 qs = M qs := by rcases hq with rfl | rfl <;> exact f1 _ (by decide)
    have er : rgM qs M1 = rg := by rw [← hr]; funext b w; unfold rgM; rw [eq]
    have eK1 : M1 3 0 13 = nI K := by rw [f1 3 (by decide)]; exact eK
    unfold L_X5_weigh_73
    simp only [eK1, W2 K (by omega)]
    refine ok_ifn (nI_ge hk (by omega)) (ok_bindE (c_weighOn (n := n) (rg := rg) hq eK1 hK (by rw [f1 3 (by decide)]; exact eN) hn hb hk er (fun z u hu => by rw [o1 _ (by omega)]; exact h1 z u hu)) (ok_some ⟨nI_1 k, fr_u3 f1 (by decide), fun w hw => ?_, fun j hj => ?_⟩))
    · show am_u3 M1 49 0 (32 * b + k) _ 49 0 (32 * b + w) = _
      by_cases e : w = k
      · rw [e, u3_e]
      · rw [u3_j (by omega)]; exact v1 w (by omega)
    · show am_u3 M1 49 0 (32 * b + k) _ 49 0 j = _
      rw [u3_j (by omega)]; exact o1 j hj
  · rintro ⟨y, M1⟩ ⟨e1, f1, v1, o1⟩
    simp only at e1 f1 v1 o1
    subst e1
    unfold L_X5_weigh_73
    simp only [f1 3 (by decide), eK, W2 K (by omega)]
    exact ok_ifp (nI_le (Nat.le_refl _) (by omega)) (ok_some ⟨f1, v1, o1⟩)
theorem c_rowsOn {qs qn : Nat} {M : Mem} {K n : Nat} {rg : Nat → Nat → Bool} (hq : qs = 46 ∨ qs = 47) (eK : M 3 0 13 = nI K) (hK : K ≤ 4) (eN : M 3 0 0 = nI n) (hn : n ≤ 16) (hr : rgM qs M = rg) : ok (wh (L_X5_weigh_67 qs qn) FU (nI n - 1, M)) (fun M' => fr [49] M M' ∧ ∀ b, b < n → ∀ w, w < 2 ^ (K + 1) → M' 49 0 (32 * b + w) = nI (eX K rg (n - 1 - b) (b + 1) w)) := by
  have hW := W32 hK
  refine ok_wh (fun k s => s.1 = nI (n - k) - 1 ∧ fr [49] M s.2 ∧ ∀ b, n - k ≤ b → b < n → ∀ w, w < 2 ^ (K + 1) → s.2 49 0 (32 * b + w) = nI (eX K rg (n - 1 - b) (b + 1) w)) n ⟨rfl, fr_rfl, fun b h1 h2 => by omega⟩ (by omega) ?_ ?_
  · rintro k ⟨y, M1⟩ hk ⟨e1, f1, v1⟩
    simp only at e1 f1 v1
    rw [show nI (n - k) - 1 = nI (n - k - 1) from nI_sub (b := 1) (by omega)] at e1
    subst e1
    have eq : M1 qs = M qs := by rcases hq with rfl | rfl <;> exact f1 _ (by decide)
    have er : rgM qs M1 = rg := by rw [← hr]; funext b w; unfold rgM; rw [eq]
    unfold L_X5_weigh_67
    simp only []
    refine ok_ifn (nI_pos (by omega)) (ok_bind (c_rowOn (K := K) (n := n) (b := n - k - 1) (rg := rg) hq (by rw [f1 3 (by decide)]; exact eK) hK (by rw [f1 3 (by decide)]; exact eN) hn (by omega) er (fun z u hu => v1 (n - k - 1 + 1) (by omega) (by omega) u hu)) ?_)
    rintro M2 ⟨f2, v2, o2⟩
    refine ok_some ⟨rfl, fr_tr f1 f2, fun b h1 h2 w hw => ?_⟩
    show M2 49 0 (32 * b + w) = _
    by_cases e : b = n - k - 1
    · subst e; exact v2 w hw
    · rw [o2 _ (by omega)]; exact v1 b (by omega) h2 w hw
  · rintro ⟨y, M1⟩ ⟨e1, f1, v1⟩
    simp only at e1 f1 v1
    rw [Nat.sub_self] at e1 v1
    subst e1
    unfold L_X5_weigh_67
    exact ok_ifp (by decide) (ok_some ⟨f1, fun b hb => v1 b (Nat.zero_le _) hb⟩)
theorem nsm_tO (K : Nat) (rg : Nat → Nat → Bool) (n : Nat) : nsm (tO K rg n) (2 ^ (K + 1)) = cn (opP K rg n) (2 ^ n) := by
  have := cn_part (A := opP K rg n) (G := fun _ => true) (g := wd K n) (W := 2 ^ (K + 1)) (N := 2 ^ n) (fun m hm => wd_lt hm)
  simp only [Bool.and_true, if_true] at this
  exact this.symm
/-- the class has weighed -/
def NW (K n : Nat) (rg : Nat → Nat → Bool) (M M' : Mem) : Prop := fr [45, 48, 49] M M' ∧ (∀ j, j ≠ 7 → M' 45 0 j = M 45 0 j) ∧ M' 45 0 7 = nI (cn (opP K rg n) (2 ^ n)) ∧ (∀ b, b < n → ∀ u, u < 2 ^ (K + 1) → M' 48 0 (32 * b + u) = nI (tO K rg (b + 1) u)) ∧ (∀ b, b < n → ∀ w, w < 2 ^ (K + 1) → M' 49 0 (32 * b + w) = nI (eX K rg (n - 1 - b) (b + 1) w))
theorem c_weigh {qs qn : Nat} {M : Mem} {K n : Nat} {rg : Nat → Nat → Bool} (hq : qs = 46 ∨ qs = 47) (eK : M 3 0 13 = nI K) (hK : K ≤ 4) (eN : M 3 0 0 = nI n) (hn : n ≤ 16) (hr : rgM qs M = rg) : ok (f_X5_weigh qs qn M) (NW K n rg M) := by
  have hW := W32 hK
  have hpW : 1 ≤ 2 ^ (K + 1) := Nat.one_le_two_pow
  have er : ∀ M1, fr [48, 49] M M1 → rgM qs M1 = rg := by
    intro M1 f1
    have eq : M1 qs = M qs := by rcases hq with rfl | rfl <;> exact f1 _ (by decide)
    rw [← hr]; funext b w; unfold rgM; rw [eq]
  have f0 : fr [48, 49] M (fillM (fillM M 48 512 0) 49 512 0) := fr_tr (fr_mono fill_c (by decide)) (fr_mono fill_c (by decide))
  unfold f_X5_weigh
  refine ok_bind (c_rows (K := K) (n := n) (rg := rg) hq (by rw [f0 3 (by decide)]; exact eK) hK (by rw [f0 3 (by decide)]; exact eN) hn (er _ f0) (fun j hj => ?_)) ?_
  · rw [fill_c (M := fillM M 48 512 0) (c := 49) 48 (by decide)]
    exact fill_e hj
  · rintro M5 ⟨f5, v5⟩
    have F5 : fr [48, 49] M M5 := fr_tr f0 (fr_mono f5 (by decide))
    have eN5 : M5 3 0 0 = nI n := by rw [F5 3 (by decide)]; exact eN
    rw [eN5]
    refine ok_bind (c_rowsOn (K := K) (rg := rg) hq (by rw [F5 3 (by decide)]; exact eK) hK eN5 hn (er _ F5)) ?_
    rintro M10 ⟨f10, v10⟩
    have F10 : fr [48, 49] M M10 := fr_tr F5 (fr_mono f10 (by decide))
    have eN10 : M10 3 0 0 = nI n := by rw [F10 3 (by decide)]; exact eN
    have eK10 : M10 3 0 13 = nI K := by rw [F10 3 (by decide)]; exact eK
    have v48 : ∀ b, b < n → ∀ u, u < 2 ^ (K + 1) → M10 48 0 (32 * b + u) = nI (tO K rg (b + 1) u) := fun b hb u hu => by rw [f10 48 (by decide)]; exact v5 b hb u hu
    rw [eN10]
    by_cases hn0 : n = 0
    · subst hn0
      refine ok_ifp rfl (ok_bind (P := fun M' => M' = am_u3 M10 45 0 7 1) ?_ ?_)
      · refine ok_wh (fun k s => s.2 = am_u3 M10 45 0 7 1) 0 rfl (by decide) (fun k s hk => by omega) ?_
        rintro ⟨y, M1⟩ e1
        simp only at e1
        subst e1
        unfold L_X5_weigh_120
        simp only []
        rw [u3_c (by decide), eN10]
        exact ok_ifp (by decide) (ok_some rfl)
      · rintro M1 rfl
        refine ok_some ⟨fr_u3 (fr_mono F10 (by decide)) (by decide), fun j hj => ?_, ?_, fun b hb => (by cases hb), fun b hb => by cases hb⟩
        · rw [u3_j (by omega), F10 45 (by decide)]
        · rw [u3_e]; rfl
    · refine ok_ifn (nI_ne0 (by omega) (by omega)) (ok_bind (P := fun M' => fr [45] M10 M' ∧ (∀ j, j ≠ 7 → M' 45 0 j = M10 45 0 j) ∧ M' 45 0 7 = nI (nsm (tO K rg n) (2 ^ (K + 1)))) ?_ ?_)
      · refine ok_wh (fun k s => s.1 = nI k ∧ fr [45] M10 s.2 ∧ (∀ j, j ≠ 7 → s.2 45 0 j = M10 45 0 j) ∧ s.2 45 0 7 = nI (nsm (tO K rg n) k)) (2 ^ (K + 1)) ⟨rfl, fr_u3 fr_rfl (by decide), fun j hj => u3_j (by omega), by show am_u3 M10 45 0 7 0 45 0 7 = _; rw [u3_e]; rfl⟩ (by omega) ?_ ?_
        · rintro k ⟨y, M1⟩ hk ⟨e1, f1, o1, s1⟩
          simp only at e1 f1 o1 s1
          subst e1
          unfold L_X5_weigh_120
          simp only [f1 3 (by decide), eN10, eK10, W2 K (by omega)]
          refine ok_ifn (nI_nle (by omega) (by omega)) (ok_ifn (nI_ge hk (by omega)) ?_)
          have ew : f_X5_waysBy (nI n - 1) (nI k) M1 = some (nI (tO K rg n k)) := by
            unfold f_X5_waysBy
            rw [show nI n - 1 = nI (n - 1) from nI_sub (b := 1) (by omega), ixI, if_pos (inb_n (by omega) (by decide)), nI_clamp (by omega), f1 48 (by decide), f1 49 (by decide), v48 (n - 1) (by omega) k hk, v10 (n - 1) (by omega) k hk, Nat.sub_self, show n - 1 + 1 = n by omega]
            show some (nI (tO K rg n k) * nI 1) = _
            rw [nI_mul, Nat.mul_one]
          refine ok_bindE ew (ok_some ⟨nI_1 k, fr_u3 f1 (by decide), fun j hj => ?_, ?_⟩)
          · show am_u3 M1 45 0 7 _ 45 0 j = _
            rw [u3_j (by omega)]; exact o1 j hj
          · show am_u3 M1 45 0 7 _ 45 0 7 = _
            rw [u3_e, s1, nI_add]; rfl
        · rintro ⟨y, M1⟩ ⟨e1, f1, o1, s1⟩
          simp only at e1 f1 o1 s1
          subst e1
          unfold L_X5_weigh_120
          simp only [f1 3 (by decide), eN10, eK10, W2 K (by omega)]
          exact ok_ifn (nI_nle (by omega) (by omega)) (ok_ifp (nI_le (Nat.le_refl _) (by omega)) (ok_some ⟨f1, o1, s1⟩))
      · rintro M1 ⟨f1, o1, s1⟩
        refine ok_some ⟨fr_tr (fr_mono F10 (by decide)) (fr_mono f1 (by decide)), fun j hj => by rw [o1 j hj, F10 45 (by decide)], by rw [s1, nsm_tO], fun b hb u hu => by rw [f1 48 (by decide)]; exact v48 b hb u hu, fun b hb w hw => by rw [f1 49 (by decide)]; exact v10 b hb w hw⟩
