/-! THE BEGINNING: both new, nothing told -/
def M00 : Mem := fun _ _ _ => 0
def M01 : Mem := am_u3 (am_u3 (am_u3 (am_u3 (am_u3 M00 1 0 6 (-1 : Int32)) 3 0 12 (2 : Int32)) 3 0 13 (2 : Int32)) 13 0 12 (2 : Int32)) 13 0 13 (2 : Int32)
theorem M01_z {c r f : Nat} (h1 : c ≠ 1) (h3 : c ≠ 3) (h13 : c ≠ 13) : M01 c r f = 0 := by
  unfold M01 am_u3 M00
  rw [if_neg (by omega), if_neg (by omega), if_neg (by omega), if_neg (by omega), if_neg (by omega)]
theorem INV_0 : ∃ MU MT MA : Mem, f_X3_beUntold 24 25 M01 = some MU ∧ (∀ c r f, 28 ≤ c → MU c r f = 0) ∧ f_X12_tellsNothing (am_u3 (f_X5_clearBook 46 47 MU) 54 0 3 (-1 : Int32)) = some MT ∧ f_X12_beginsAnew MT = some MA ∧ INV 25 24 46 47 MA ∧ ∀ c r f, 82 ≤ c → MA c r f = 0 := by
  obtain ⟨MU, hU, fU, l1, l4, lc⟩ := c_untold (qc := 24) (qd := 25) (M := M01) (Or.inr rfl)
  have zU : ∀ c r f, 28 ≤ c → MU c r f = 0 := by
    intro c r f hc
    rw [fU c (by simp; omega)]
    exact M01_z (by omega) (by omega) (by omega)
  obtain ⟨MC, hMC⟩ : ∃ MC, MC = am_u3 (f_X5_clearBook 46 47 MU) 54 0 3 (-1 : Int32) := ⟨_, rfl⟩
  have eC : ∀ c, c ≠ 45 → c ≠ 46 → c ≠ 54 → MC c = MU c := by
    intro c h1 h2 h3
    funext r f
    rw [hMC]
    unfold f_X5_clearBook am_u3 fillM
    rw [if_neg (by omega), if_neg (by omega), if_neg (by omega)]
  have e54 : ∀ f, f ≠ 3 → MC 54 0 f = 0 := by
    intro f hf
    rw [hMC]
    unfold f_X5_clearBook am_u3 fillM
    rw [if_neg (by omega), if_neg (by omega), if_neg (by omega)]
    exact zU 54 0 f (by omega)
  have e543 : MC 54 0 3 = -1 := by
    rw [hMC]
    unfold am_u3
    rw [if_pos ⟨rfl, rfl, rfl⟩]
  have e45 : MC 45 0 3 = 0 := by
    rw [hMC]
    unfold f_X5_clearBook am_u3
    rw [if_neg (by omega), if_pos ⟨rfl, rfl, rfl⟩]
  have e46 : ∀ j, j < 16 → MC 46 0 j = -1 := by
    intro j hj
    rw [hMC]
    unfold f_X5_clearBook am_u3 fillM
    rw [if_neg (by omega), if_neg (by omega), if_pos ⟨rfl, rfl, hj⟩]
  obtain ⟨MT, hT, fT, mb⟩ := m_nothing (M := MC)
  obtain ⟨MA, hA, fA, nb, q72, q54, q54'⟩ := m_anew mb WB_0
  have eA : ∀ c, c ∉ aC → c ≠ 57 → MA c = MC c := by
    intro c h1 h2
    rw [fA c h1, fT c (by simp; omega)]
  have eU : ∀ c, c ∉ aC → c ≠ 57 → c ≠ 45 → c ≠ 46 → c ≠ 54 → MA c = MU c := fun c h1 h2 h3 h4 h5 => (eA c h1 h2).trans (eC c h3 h4 h5)
  have e0 : ∀ c, c ∉ aC → c ≠ 57 → c ≠ 45 → c ≠ 46 → c ≠ 54 → c ≠ 23 → c ≠ 25 → MA c = M01 c := fun c h1 h2 h3 h4 h5 h6 h7 => (eU c h1 h2 h3 h4 h5).trans (fU c (by simp; omega))
  have m54 : ∀ j, j ∉ a54 → MA 54 0 j = MC 54 0 j := by
    intro j hj
    rw [q54' j hj, fT 54 (by decide)]
  have z3 : MA 3 = M01 3 := e0 3 (by decide) (by decide) (by decide) (by decide) (by decide) (by decide) (by decide)
  have z0 : MA 0 = M01 0 := e0 0 (by decide) (by decide) (by decide) (by decide) (by decide) (by decide) (by decide)
  have z1 : MA 1 = M01 1 := e0 1 (by decide) (by decide) (by decide) (by decide) (by decide) (by decide) (by decide)
  refine ⟨MU, MT, MA, hU, zU, by rw [← hMC]; exact hT, hA, ⟨?_, ?_, Or.inr ⟨rfl, rfl⟩, Or.inl ⟨rfl, rfl⟩⟩, ?_⟩
  · refine Rel_new (B := B0) (Or.inr rfl) (Or.inl rfl) WB_0 ?_ nb ?_ ?_ ?_ q54 (rT_0 ?_ ?_ ?_) ⟨?_, ?_, ?_⟩ ?_ q72 ⟨?_, ?_⟩ ?_ ?_ ?_
    · refine ⟨?_, fun j hj => absurd hj (by show ¬ j < 0; omega), fun j hj => absurd hj (by show ¬ j < 0; omega), fun j hj => absurd hj (by show ¬ j < 0; omega)⟩
      rw [z3]
      exact ⟨rfl, rfl, rfl, rfl, rfl⟩
    · rw [eU 23 (by decide) (by decide) (by decide) (by decide) (by decide)]; exact l1
    · rw [eU 23 (by decide) (by decide) (by decide) (by decide) (by decide)]; exact l4
    · intro i hi
      rw [eU 25 (by decide) (by decide) (by decide) (by decide) (by decide)]; exact lc i hi
    · rw [z1]; rfl
    · rw [m54 1 (by decide)]; exact e54 1 (by decide)
    · rw [z1, m54 3 (by decide), e543]; rfl
    · rw [z0, q54 36 (by decide)]; rfl
    · rw [z0, e0 56 (by decide) (by decide) (by decide) (by decide) (by decide) (by decide) (by decide)]; rfl
    · rw [z0, e0 56 (by decide) (by decide) (by decide) (by decide) (by decide) (by decide) (by decide)]; rfl
    · intro j hj
      rw [e0 30 (by decide) (by decide) (by decide) (by decide) (by decide) (by decide) (by decide)]
      exact M01_z (by decide) (by decide) (by decide)
    · rw [e0 31 (by decide) (by decide) (by decide) (by decide) (by decide) (by decide) (by decide)]; rfl
    · rw [e0 31 (by decide) (by decide) (by decide) (by decide) (by decide) (by decide) (by decide)]; rfl
    · rw [eA 45 (by decide) (by decide)]; exact e45
    · intro j hj
      rw [eA 46 (by decide) (by decide)]; exact e46 j hj
    · rw [e0 38 (by decide) (by decide) (by decide) (by decide) (by decide) (by decide) (by decide)]; rfl
  · show MA 54 0 39 = 0
    rw [m54 39 (by decide)]
    exact e54 39 (by decide)
  · intro c r f hc
    rw [eU c (by unfold aC; simp; omega) (by omega) (by omega) (by omega) (by omega)]
    exact zU c r f (by omega)
