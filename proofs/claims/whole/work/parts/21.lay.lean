def am_SH : List (Nat × Nat × Nat) := [(11, 15, 0), (10, 7, 0), (101, 600, 0), (1, 14, 0), (100, 16, 0), (100, 16, 0), (100, 16, 0), (100, 16, 0), (100, 4, 0), (100, 4, 0), (100, 8, 0), (100, 8, 0), (100, 8, 0), (1, 14, 0), (100, 16, 0), (100, 16, 0), (100, 16, 0), (100, 16, 0), (100, 4, 0), (100, 4, 0), (100, 8, 0), (100, 8, 0), (100, 8, 0), (3, 7, 0), (100, 150, 0), (100, 150, 0), (100, 150, 0), (100, 8, 0), (4, 2, 0), (8, 1, 0), (100, 47, 0), (7, 4, 0), (100, 752, 0), (103, 3, 800), (9, 7, 0), (100, 150, 0), (100, 150, 0), (100, 150, 0), (6, 11, 0), (8, 1, 0), (100, 47, 0), (100, 241, 0), (100, 16, 0), (2, 3, 0), (100, 8, 0), (5, 8, 0), (100, 16, 0), (100, 16, 0), (100, 512, 0), (100, 512, 0), (100, 16, 0), (0, 4, 0), (100, 16, 0), (100, 16, 0), (12, 50, 0), (100, 600, 0), (100, 2, 0), (100, 5, 0), (100, 5, 0), (103, 16, 4), (103, 16, 4), (103, 4, 2), (103, 4, 2), (103, 8, 3), (103, 8, 3), (103, 160, 2), (103, 160, 2), (103, 12, 2), (103, 12, 2), (100, 160, 0), (100, 8, 0), (103, 80, 3), (100, 66, 0), (100, 66, 0), (100, 16, 0), (103, 16, 66), (103, 3, 1123), (100, 16, 0), (103, 16, 16), (100, 16, 0), (100, 16, 0), (100, 16, 0), (102, 1, 0)]
def am_RF : List (Nat × Nat × Nat) := [(0, 0, 1), (0, 1, 3), (0, 2, 13), (0, 3, 23), (0, 4, 28), (0, 5, 29), (0, 6, 31), (0, 7, 34), (0, 8, 38), (0, 9, 43), (0, 10, 45), (0, 11, 51), (1, 0, 2), (3, 1, 4), (3, 2, 5), (3, 3, 6), (3, 4, 7), (3, 6, 8), (3, 7, 9), (3, 9, 10), (3, 10, 11), (3, 11, 12), (13, 1, 14), (13, 2, 15), (13, 3, 16), (13, 4, 17), (13, 6, 18), (13, 7, 19), (13, 9, 20), (13, 10, 21), (13, 11, 22), (23, 5, 26), (23, 6, 27), (28, 0, 3), (28, 1, 23), (29, 0, 30), (31, 0, 32), (31, 2, 33), (34, 0, 35), (34, 1, 36), (34, 2, 37), (38, 0, 3), (38, 1, 28), (38, 2, 29), (38, 3, 39), (38, 4, 41), (38, 6, 42), (39, 0, 40), (43, 0, 3), (43, 1, 44), (45, 0, 3), (45, 4, 48), (45, 5, 49), (45, 6, 50), (51, 0, 3), (51, 1, 52), (51, 2, 53), (54, 9, 55), (54, 10, 56), (54, 11, 57), (54, 12, 58), (54, 13, 59), (54, 14, 60), (54, 15, 61), (54, 16, 62), (54, 17, 63), (54, 18, 64), (54, 21, 65), (54, 22, 66), (54, 23, 67), (54, 24, 68), (54, 25, 69), (54, 26, 70), (54, 27, 71), (54, 29, 72), (54, 30, 73), (54, 31, 74), (54, 32, 75), (54, 33, 76), (54, 42, 77), (54, 43, 78), (54, 44, 79), (54, 45, 80), (54, 47, 81)]
/-- the system's heap: its shapes, and the references that stay -/
def lay (h : am_H) : Prop := h.1 = am_SH ∧ ∀ q ∈ am_RF, h.2.2 q.1 q.2.1 = some q.2.2
def am_hM (h : am_H) (M : Nat → Nat → Nat → Int32) : am_H := (h.1, M, h.2.2)
theorem lay.hM {h : am_H} (g : lay h) (M : Nat → Nat → Nat → Int32) : lay (am_hM h M) := g
def am_cat (as : List am_V) : Bool := as.all (fun v => match v with
  | .inl (.int _) => true
  | .inr _ => true
  | _ => false)
theorem am_catc {as : List am_V} (h : am_cat as = true) : ∀ v ∈ as, ∀ ad, (am_cv ad v).category = 1 := by
  intro v hv ad
  have h1 := List.all_eq_true.mp h v hv
  match v with
  | .inl (.int _) => rfl
  | .inr _ => rfl
  | .inl (.long _) => cases h1
  | .inl (.float _) => cases h1
  | .inl (.double _) => cases h1
  | .inl (.ref _) => cases h1
  | .inl .null => cases h1
theorem am_Ev.mk {d : Nat} {mt : am_M} {as : List am_V} {h : am_H} {r : am_R} (hy : plainName mt.1.cls = true) (hc : am_cat as = true) (hn : Nat.ble as.length mt.2.2.1 = true) (e1 : am_nc h ≤ am_rc r) (e2 : am_ns h ≤ am_rs r) (k : am_At am_X0 d mt 0 (as.map some ++ List.replicate (mt.2.2.1 - as.length) none) [] h r) : am_Ev d mt as h r :=
  am_Ev.of hy (am_catc hc) (Nat.le_of_ble_eq_true hn) e1 e2 k
theorem am_lit {i : Int32} {n : Nat} (h : (decide (0 ≤ i) && Nat.blt i.toNatClampNeg n) = true) : vp_in i n := by
  simp only [Bool.and_eq_true, decide_eq_true_eq] at h
  unfold vp_in
  have h2 : i.toNatClampNeg < n := by have := h.2; simpa [Nat.blt_eq] using this
  intro z
  rcases z with z | z
  · exact absurd z (by simpa using h.1)
  · omega
theorem am_vlt {i : Int32} {n : Nat} (h : vp_in i n) : i.toNatClampNeg + 1 ≤ n := by
  unfold vp_in at h
  omega
theorem am_lb {a b : Nat} (h : Nat.ble (a + 1) b = true) : a < b := Nat.le_of_ble_eq_true h
theorem am_i1 (k : Nat) : nI k + Int32.ofInt 1 = nI (k + 1) := nI_1 k
theorem am_ix (x : Int32) : x + Int32.ofInt 1 = x + 1 := rfl
theorem am_loop {Pr : Nat → Prop} (N : Nat) (he : Pr N) (hs : ∀ k, k < N → Pr (k + 1) → Pr k) : ∀ k, k ≤ N → Pr k := by
  intro k hk
  obtain ⟨m, rfl⟩ : ∃ m, N = k + m := ⟨N - k, by omega⟩
  clear hk
  induction m generalizing k with
  | zero => exact he
  | succ m ih => exact hs k (by omega) (ih (k + 1) (by rw [show k + 1 + m = k + (m + 1) by omega]; exact he) (fun j hj hp => hs j (by omega) hp))
/-- the same heap, told otherwise -/
theorem am_At.to {X : am_X} {d : Nat} {mt : am_M} {pc : Nat} {L : List (Option am_V)} {st : List am_V} {h h2 : am_H} {r : am_R} (e : h2 = h) (k : am_At X d mt pc L st h r) : am_At X d mt pc L st h2 r := e ▸ k
theorem am_At.end {X : am_X} {d : Nat} {mt : am_M} {pc : Nat} {L : List (Option am_V)} {st : List am_V} {h : am_H} {r r2 : am_R} (e : r = r2) (k : am_At X d mt pc L st h r) : am_At X d mt pc L st h r2 := e ▸ k
theorem am_Ev.end {d : Nat} {mt : am_M} {as : List am_V} {h : am_H} {r r2 : am_R} (e : r = r2) (k : am_Ev d mt as h r) : am_Ev d mt as h r2 := e ▸ k
theorem sh_0 {h : am_H} (g : lay h) : h.1[0]? = some (11, 15, 0) := by rw [g.1]; rfl
theorem sh_1 {h : am_H} (g : lay h) : h.1[1]? = some (10, 7, 0) := by rw [g.1]; rfl
theorem sh_2 {h : am_H} (g : lay h) : h.1[2]? = some (101, 600, 0) := by rw [g.1]; rfl
theorem sh_3 {h : am_H} (g : lay h) : h.1[3]? = some (1, 14, 0) := by rw [g.1]; rfl
theorem sh_4 {h : am_H} (g : lay h) : h.1[4]? = some (100, 16, 0) := by rw [g.1]; rfl
theorem sh_5 {h : am_H} (g : lay h) : h.1[5]? = some (100, 16, 0) := by rw [g.1]; rfl
theorem sh_6 {h : am_H} (g : lay h) : h.1[6]? = some (100, 16, 0) := by rw [g.1]; rfl
theorem sh_7 {h : am_H} (g : lay h) : h.1[7]? = some (100, 16, 0) := by rw [g.1]; rfl
theorem sh_8 {h : am_H} (g : lay h) : h.1[8]? = some (100, 4, 0) := by rw [g.1]; rfl
theorem sh_9 {h : am_H} (g : lay h) : h.1[9]? = some (100, 4, 0) := by rw [g.1]; rfl
theorem sh_10 {h : am_H} (g : lay h) : h.1[10]? = some (100, 8, 0) := by rw [g.1]; rfl
theorem sh_11 {h : am_H} (g : lay h) : h.1[11]? = some (100, 8, 0) := by rw [g.1]; rfl
theorem sh_12 {h : am_H} (g : lay h) : h.1[12]? = some (100, 8, 0) := by rw [g.1]; rfl
theorem sh_13 {h : am_H} (g : lay h) : h.1[13]? = some (1, 14, 0) := by rw [g.1]; rfl
theorem sh_14 {h : am_H} (g : lay h) : h.1[14]? = some (100, 16, 0) := by rw [g.1]; rfl
theorem sh_15 {h : am_H} (g : lay h) : h.1[15]? = some (100, 16, 0) := by rw [g.1]; rfl
theorem sh_16 {h : am_H} (g : lay h) : h.1[16]? = some (100, 16, 0) := by rw [g.1]; rfl
theorem sh_17 {h : am_H} (g : lay h) : h.1[17]? = some (100, 16, 0) := by rw [g.1]; rfl
theorem sh_18 {h : am_H} (g : lay h) : h.1[18]? = some (100, 4, 0) := by rw [g.1]; rfl
theorem sh_19 {h : am_H} (g : lay h) : h.1[19]? = some (100, 4, 0) := by rw [g.1]; rfl
theorem sh_20 {h : am_H} (g : lay h) : h.1[20]? = some (100, 8, 0) := by rw [g.1]; rfl
theorem sh_21 {h : am_H} (g : lay h) : h.1[21]? = some (100, 8, 0) := by rw [g.1]; rfl
theorem sh_22 {h : am_H} (g : lay h) : h.1[22]? = some (100, 8, 0) := by rw [g.1]; rfl
theorem sh_23 {h : am_H} (g : lay h) : h.1[23]? = some (3, 7, 0) := by rw [g.1]; rfl
theorem sh_24 {h : am_H} (g : lay h) : h.1[24]? = some (100, 150, 0) := by rw [g.1]; rfl
theorem sh_25 {h : am_H} (g : lay h) : h.1[25]? = some (100, 150, 0) := by rw [g.1]; rfl
theorem sh_26 {h : am_H} (g : lay h) : h.1[26]? = some (100, 150, 0) := by rw [g.1]; rfl
theorem sh_27 {h : am_H} (g : lay h) : h.1[27]? = some (100, 8, 0) := by rw [g.1]; rfl
theorem sh_28 {h : am_H} (g : lay h) : h.1[28]? = some (4, 2, 0) := by rw [g.1]; rfl
theorem sh_29 {h : am_H} (g : lay h) : h.1[29]? = some (8, 1, 0) := by rw [g.1]; rfl
theorem sh_30 {h : am_H} (g : lay h) : h.1[30]? = some (100, 47, 0) := by rw [g.1]; rfl
theorem sh_31 {h : am_H} (g : lay h) : h.1[31]? = some (7, 4, 0) := by rw [g.1]; rfl
theorem sh_32 {h : am_H} (g : lay h) : h.1[32]? = some (100, 752, 0) := by rw [g.1]; rfl
theorem sh_33 {h : am_H} (g : lay h) : h.1[33]? = some (103, 3, 800) := by rw [g.1]; rfl
theorem sh_34 {h : am_H} (g : lay h) : h.1[34]? = some (9, 7, 0) := by rw [g.1]; rfl
theorem sh_35 {h : am_H} (g : lay h) : h.1[35]? = some (100, 150, 0) := by rw [g.1]; rfl
theorem sh_36 {h : am_H} (g : lay h) : h.1[36]? = some (100, 150, 0) := by rw [g.1]; rfl
theorem sh_37 {h : am_H} (g : lay h) : h.1[37]? = some (100, 150, 0) := by rw [g.1]; rfl
theorem sh_38 {h : am_H} (g : lay h) : h.1[38]? = some (6, 11, 0) := by rw [g.1]; rfl
theorem sh_39 {h : am_H} (g : lay h) : h.1[39]? = some (8, 1, 0) := by rw [g.1]; rfl
theorem sh_40 {h : am_H} (g : lay h) : h.1[40]? = some (100, 47, 0) := by rw [g.1]; rfl
theorem sh_41 {h : am_H} (g : lay h) : h.1[41]? = some (100, 241, 0) := by rw [g.1]; rfl
theorem sh_42 {h : am_H} (g : lay h) : h.1[42]? = some (100, 16, 0) := by rw [g.1]; rfl
theorem sh_43 {h : am_H} (g : lay h) : h.1[43]? = some (2, 3, 0) := by rw [g.1]; rfl
theorem sh_44 {h : am_H} (g : lay h) : h.1[44]? = some (100, 8, 0) := by rw [g.1]; rfl
theorem sh_45 {h : am_H} (g : lay h) : h.1[45]? = some (5, 8, 0) := by rw [g.1]; rfl
theorem sh_46 {h : am_H} (g : lay h) : h.1[46]? = some (100, 16, 0) := by rw [g.1]; rfl
theorem sh_47 {h : am_H} (g : lay h) : h.1[47]? = some (100, 16, 0) := by rw [g.1]; rfl
theorem sh_48 {h : am_H} (g : lay h) : h.1[48]? = some (100, 512, 0) := by rw [g.1]; rfl
theorem sh_49 {h : am_H} (g : lay h) : h.1[49]? = some (100, 512, 0) := by rw [g.1]; rfl
theorem sh_50 {h : am_H} (g : lay h) : h.1[50]? = some (100, 16, 0) := by rw [g.1]; rfl
theorem sh_51 {h : am_H} (g : lay h) : h.1[51]? = some (0, 4, 0) := by rw [g.1]; rfl
theorem sh_52 {h : am_H} (g : lay h) : h.1[52]? = some (100, 16, 0) := by rw [g.1]; rfl
theorem sh_53 {h : am_H} (g : lay h) : h.1[53]? = some (100, 16, 0) := by rw [g.1]; rfl
theorem sh_54 {h : am_H} (g : lay h) : h.1[54]? = some (12, 50, 0) := by rw [g.1]; rfl
theorem sh_55 {h : am_H} (g : lay h) : h.1[55]? = some (100, 600, 0) := by rw [g.1]; rfl
theorem sh_56 {h : am_H} (g : lay h) : h.1[56]? = some (100, 2, 0) := by rw [g.1]; rfl
theorem sh_57 {h : am_H} (g : lay h) : h.1[57]? = some (100, 5, 0) := by rw [g.1]; rfl
theorem sh_58 {h : am_H} (g : lay h) : h.1[58]? = some (100, 5, 0) := by rw [g.1]; rfl
theorem sh_59 {h : am_H} (g : lay h) : h.1[59]? = some (103, 16, 4) := by rw [g.1]; rfl
theorem sh_60 {h : am_H} (g : lay h) : h.1[60]? = some (103, 16, 4) := by rw [g.1]; rfl
theorem sh_61 {h : am_H} (g : lay h) : h.1[61]? = some (103, 4, 2) := by rw [g.1]; rfl
theorem sh_62 {h : am_H} (g : lay h) : h.1[62]? = some (103, 4, 2) := by rw [g.1]; rfl
theorem sh_63 {h : am_H} (g : lay h) : h.1[63]? = some (103, 8, 3) := by rw [g.1]; rfl
theorem sh_64 {h : am_H} (g : lay h) : h.1[64]? = some (103, 8, 3) := by rw [g.1]; rfl
theorem sh_65 {h : am_H} (g : lay h) : h.1[65]? = some (103, 160, 2) := by rw [g.1]; rfl
theorem sh_66 {h : am_H} (g : lay h) : h.1[66]? = some (103, 160, 2) := by rw [g.1]; rfl
theorem sh_67 {h : am_H} (g : lay h) : h.1[67]? = some (103, 12, 2) := by rw [g.1]; rfl
theorem sh_68 {h : am_H} (g : lay h) : h.1[68]? = some (103, 12, 2) := by rw [g.1]; rfl
theorem sh_69 {h : am_H} (g : lay h) : h.1[69]? = some (100, 160, 0) := by rw [g.1]; rfl
theorem sh_70 {h : am_H} (g : lay h) : h.1[70]? = some (100, 8, 0) := by rw [g.1]; rfl
theorem sh_71 {h : am_H} (g : lay h) : h.1[71]? = some (103, 80, 3) := by rw [g.1]; rfl
theorem sh_72 {h : am_H} (g : lay h) : h.1[72]? = some (100, 66, 0) := by rw [g.1]; rfl
theorem sh_73 {h : am_H} (g : lay h) : h.1[73]? = some (100, 66, 0) := by rw [g.1]; rfl
theorem sh_74 {h : am_H} (g : lay h) : h.1[74]? = some (100, 16, 0) := by rw [g.1]; rfl
theorem sh_75 {h : am_H} (g : lay h) : h.1[75]? = some (103, 16, 66) := by rw [g.1]; rfl
theorem sh_76 {h : am_H} (g : lay h) : h.1[76]? = some (103, 3, 1123) := by rw [g.1]; rfl
theorem sh_77 {h : am_H} (g : lay h) : h.1[77]? = some (100, 16, 0) := by rw [g.1]; rfl
theorem sh_78 {h : am_H} (g : lay h) : h.1[78]? = some (103, 16, 16) := by rw [g.1]; rfl
theorem sh_79 {h : am_H} (g : lay h) : h.1[79]? = some (100, 16, 0) := by rw [g.1]; rfl
theorem sh_80 {h : am_H} (g : lay h) : h.1[80]? = some (100, 16, 0) := by rw [g.1]; rfl
theorem sh_81 {h : am_H} (g : lay h) : h.1[81]? = some (100, 16, 0) := by rw [g.1]; rfl
theorem sh_82 {h : am_H} (g : lay h) : h.1[82]? = some (102, 1, 0) := by rw [g.1]; rfl
theorem rf_0_0 {h : am_H} (g : lay h) : h.2.2 0 0 = some 1 := g.2 (0, 0, 1) (by decide)
theorem rf_0_1 {h : am_H} (g : lay h) : h.2.2 0 1 = some 3 := g.2 (0, 1, 3) (by decide)
theorem rf_0_2 {h : am_H} (g : lay h) : h.2.2 0 2 = some 13 := g.2 (0, 2, 13) (by decide)
theorem rf_0_3 {h : am_H} (g : lay h) : h.2.2 0 3 = some 23 := g.2 (0, 3, 23) (by decide)
theorem rf_0_4 {h : am_H} (g : lay h) : h.2.2 0 4 = some 28 := g.2 (0, 4, 28) (by decide)
theorem rf_0_5 {h : am_H} (g : lay h) : h.2.2 0 5 = some 29 := g.2 (0, 5, 29) (by decide)
theorem rf_0_6 {h : am_H} (g : lay h) : h.2.2 0 6 = some 31 := g.2 (0, 6, 31) (by decide)
theorem rf_0_7 {h : am_H} (g : lay h) : h.2.2 0 7 = some 34 := g.2 (0, 7, 34) (by decide)
theorem rf_0_8 {h : am_H} (g : lay h) : h.2.2 0 8 = some 38 := g.2 (0, 8, 38) (by decide)
theorem rf_0_9 {h : am_H} (g : lay h) : h.2.2 0 9 = some 43 := g.2 (0, 9, 43) (by decide)
theorem rf_0_10 {h : am_H} (g : lay h) : h.2.2 0 10 = some 45 := g.2 (0, 10, 45) (by decide)
theorem rf_0_11 {h : am_H} (g : lay h) : h.2.2 0 11 = some 51 := g.2 (0, 11, 51) (by decide)
theorem rf_1_0 {h : am_H} (g : lay h) : h.2.2 1 0 = some 2 := g.2 (1, 0, 2) (by decide)
theorem rf_3_1 {h : am_H} (g : lay h) : h.2.2 3 1 = some 4 := g.2 (3, 1, 4) (by decide)
theorem rf_3_2 {h : am_H} (g : lay h) : h.2.2 3 2 = some 5 := g.2 (3, 2, 5) (by decide)
theorem rf_3_3 {h : am_H} (g : lay h) : h.2.2 3 3 = some 6 := g.2 (3, 3, 6) (by decide)
theorem rf_3_4 {h : am_H} (g : lay h) : h.2.2 3 4 = some 7 := g.2 (3, 4, 7) (by decide)
theorem rf_3_6 {h : am_H} (g : lay h) : h.2.2 3 6 = some 8 := g.2 (3, 6, 8) (by decide)
theorem rf_3_7 {h : am_H} (g : lay h) : h.2.2 3 7 = some 9 := g.2 (3, 7, 9) (by decide)
theorem rf_3_9 {h : am_H} (g : lay h) : h.2.2 3 9 = some 10 := g.2 (3, 9, 10) (by decide)
theorem rf_3_10 {h : am_H} (g : lay h) : h.2.2 3 10 = some 11 := g.2 (3, 10, 11) (by decide)
theorem rf_3_11 {h : am_H} (g : lay h) : h.2.2 3 11 = some 12 := g.2 (3, 11, 12) (by decide)
theorem rf_13_1 {h : am_H} (g : lay h) : h.2.2 13 1 = some 14 := g.2 (13, 1, 14) (by decide)
theorem rf_13_2 {h : am_H} (g : lay h) : h.2.2 13 2 = some 15 := g.2 (13, 2, 15) (by decide)
theorem rf_13_3 {h : am_H} (g : lay h) : h.2.2 13 3 = some 16 := g.2 (13, 3, 16) (by decide)
theorem rf_13_4 {h : am_H} (g : lay h) : h.2.2 13 4 = some 17 := g.2 (13, 4, 17) (by decide)
theorem rf_13_6 {h : am_H} (g : lay h) : h.2.2 13 6 = some 18 := g.2 (13, 6, 18) (by decide)
theorem rf_13_7 {h : am_H} (g : lay h) : h.2.2 13 7 = some 19 := g.2 (13, 7, 19) (by decide)
theorem rf_13_9 {h : am_H} (g : lay h) : h.2.2 13 9 = some 20 := g.2 (13, 9, 20) (by decide)
theorem rf_13_10 {h : am_H} (g : lay h) : h.2.2 13 10 = some 21 := g.2 (13, 10, 21) (by decide)
theorem rf_13_11 {h : am_H} (g : lay h) : h.2.2 13 11 = some 22 := g.2 (13, 11, 22) (by decide)
theorem rf_23_5 {h : am_H} (g : lay h) : h.2.2 23 5 = some 26 := g.2 (23, 5, 26) (by decide)
theorem rf_23_6 {h : am_H} (g : lay h) : h.2.2 23 6 = some 27 := g.2 (23, 6, 27) (by decide)
theorem rf_28_0 {h : am_H} (g : lay h) : h.2.2 28 0 = some 3 := g.2 (28, 0, 3) (by decide)
theorem rf_28_1 {h : am_H} (g : lay h) : h.2.2 28 1 = some 23 := g.2 (28, 1, 23) (by decide)
theorem rf_29_0 {h : am_H} (g : lay h) : h.2.2 29 0 = some 30 := g.2 (29, 0, 30) (by decide)
theorem rf_31_0 {h : am_H} (g : lay h) : h.2.2 31 0 = some 32 := g.2 (31, 0, 32) (by decide)
theorem rf_31_2 {h : am_H} (g : lay h) : h.2.2 31 2 = some 33 := g.2 (31, 2, 33) (by decide)
theorem rf_34_0 {h : am_H} (g : lay h) : h.2.2 34 0 = some 35 := g.2 (34, 0, 35) (by decide)
theorem rf_34_1 {h : am_H} (g : lay h) : h.2.2 34 1 = some 36 := g.2 (34, 1, 36) (by decide)
theorem rf_34_2 {h : am_H} (g : lay h) : h.2.2 34 2 = some 37 := g.2 (34, 2, 37) (by decide)
theorem rf_38_0 {h : am_H} (g : lay h) : h.2.2 38 0 = some 3 := g.2 (38, 0, 3) (by decide)
theorem rf_38_1 {h : am_H} (g : lay h) : h.2.2 38 1 = some 28 := g.2 (38, 1, 28) (by decide)
theorem rf_38_2 {h : am_H} (g : lay h) : h.2.2 38 2 = some 29 := g.2 (38, 2, 29) (by decide)
theorem rf_38_3 {h : am_H} (g : lay h) : h.2.2 38 3 = some 39 := g.2 (38, 3, 39) (by decide)
theorem rf_38_4 {h : am_H} (g : lay h) : h.2.2 38 4 = some 41 := g.2 (38, 4, 41) (by decide)
theorem rf_38_6 {h : am_H} (g : lay h) : h.2.2 38 6 = some 42 := g.2 (38, 6, 42) (by decide)
theorem rf_39_0 {h : am_H} (g : lay h) : h.2.2 39 0 = some 40 := g.2 (39, 0, 40) (by decide)
theorem rf_43_0 {h : am_H} (g : lay h) : h.2.2 43 0 = some 3 := g.2 (43, 0, 3) (by decide)
theorem rf_43_1 {h : am_H} (g : lay h) : h.2.2 43 1 = some 44 := g.2 (43, 1, 44) (by decide)
theorem rf_45_0 {h : am_H} (g : lay h) : h.2.2 45 0 = some 3 := g.2 (45, 0, 3) (by decide)
theorem rf_45_4 {h : am_H} (g : lay h) : h.2.2 45 4 = some 48 := g.2 (45, 4, 48) (by decide)
theorem rf_45_5 {h : am_H} (g : lay h) : h.2.2 45 5 = some 49 := g.2 (45, 5, 49) (by decide)
theorem rf_45_6 {h : am_H} (g : lay h) : h.2.2 45 6 = some 50 := g.2 (45, 6, 50) (by decide)
theorem rf_51_0 {h : am_H} (g : lay h) : h.2.2 51 0 = some 3 := g.2 (51, 0, 3) (by decide)
theorem rf_51_1 {h : am_H} (g : lay h) : h.2.2 51 1 = some 52 := g.2 (51, 1, 52) (by decide)
theorem rf_51_2 {h : am_H} (g : lay h) : h.2.2 51 2 = some 53 := g.2 (51, 2, 53) (by decide)
theorem rf_54_9 {h : am_H} (g : lay h) : h.2.2 54 9 = some 55 := g.2 (54, 9, 55) (by decide)
theorem rf_54_10 {h : am_H} (g : lay h) : h.2.2 54 10 = some 56 := g.2 (54, 10, 56) (by decide)
theorem rf_54_11 {h : am_H} (g : lay h) : h.2.2 54 11 = some 57 := g.2 (54, 11, 57) (by decide)
theorem rf_54_12 {h : am_H} (g : lay h) : h.2.2 54 12 = some 58 := g.2 (54, 12, 58) (by decide)
theorem rf_54_13 {h : am_H} (g : lay h) : h.2.2 54 13 = some 59 := g.2 (54, 13, 59) (by decide)
theorem rf_54_14 {h : am_H} (g : lay h) : h.2.2 54 14 = some 60 := g.2 (54, 14, 60) (by decide)
theorem rf_54_15 {h : am_H} (g : lay h) : h.2.2 54 15 = some 61 := g.2 (54, 15, 61) (by decide)
theorem rf_54_16 {h : am_H} (g : lay h) : h.2.2 54 16 = some 62 := g.2 (54, 16, 62) (by decide)
theorem rf_54_17 {h : am_H} (g : lay h) : h.2.2 54 17 = some 63 := g.2 (54, 17, 63) (by decide)
theorem rf_54_18 {h : am_H} (g : lay h) : h.2.2 54 18 = some 64 := g.2 (54, 18, 64) (by decide)
theorem rf_54_21 {h : am_H} (g : lay h) : h.2.2 54 21 = some 65 := g.2 (54, 21, 65) (by decide)
theorem rf_54_22 {h : am_H} (g : lay h) : h.2.2 54 22 = some 66 := g.2 (54, 22, 66) (by decide)
theorem rf_54_23 {h : am_H} (g : lay h) : h.2.2 54 23 = some 67 := g.2 (54, 23, 67) (by decide)
theorem rf_54_24 {h : am_H} (g : lay h) : h.2.2 54 24 = some 68 := g.2 (54, 24, 68) (by decide)
theorem rf_54_25 {h : am_H} (g : lay h) : h.2.2 54 25 = some 69 := g.2 (54, 25, 69) (by decide)
theorem rf_54_26 {h : am_H} (g : lay h) : h.2.2 54 26 = some 70 := g.2 (54, 26, 70) (by decide)
theorem rf_54_27 {h : am_H} (g : lay h) : h.2.2 54 27 = some 71 := g.2 (54, 27, 71) (by decide)
theorem rf_54_29 {h : am_H} (g : lay h) : h.2.2 54 29 = some 72 := g.2 (54, 29, 72) (by decide)
theorem rf_54_30 {h : am_H} (g : lay h) : h.2.2 54 30 = some 73 := g.2 (54, 30, 73) (by decide)
theorem rf_54_31 {h : am_H} (g : lay h) : h.2.2 54 31 = some 74 := g.2 (54, 31, 74) (by decide)
theorem rf_54_32 {h : am_H} (g : lay h) : h.2.2 54 32 = some 75 := g.2 (54, 32, 75) (by decide)
theorem rf_54_33 {h : am_H} (g : lay h) : h.2.2 54 33 = some 76 := g.2 (54, 33, 76) (by decide)
theorem rf_54_42 {h : am_H} (g : lay h) : h.2.2 54 42 = some 77 := g.2 (54, 42, 77) (by decide)
theorem rf_54_43 {h : am_H} (g : lay h) : h.2.2 54 43 = some 78 := g.2 (54, 43, 78) (by decide)
theorem rf_54_44 {h : am_H} (g : lay h) : h.2.2 54 44 = some 79 := g.2 (54, 44, 79) (by decide)
theorem rf_54_45 {h : am_H} (g : lay h) : h.2.2 54 45 = some 80 := g.2 (54, 45, 80) (by decide)
theorem rf_54_47 {h : am_H} (g : lay h) : h.2.2 54 47 = some 81 := g.2 (54, 47, 81) (by decide)
theorem am_icmp_eqT {X : am_X} {d : Nat} {mt : am_M} {pc : Nat} {L : List (Option am_V)} {st : List am_V} {h : am_H} {r : am_R} {x y : Int32} (off : Int) (tgt : Nat) (hd : decode mt.2.1 pc = .ok (.if_icmp .eq off, 3)) (ht : (pc : Int) + off = (tgt : Int)) (hc : (x = y)) (k : am_At X d mt tgt L st h r) : am_At X d mt pc L (am_I y :: am_I x :: st) h r := am_icmp_eq off tgt hd ht (fun _ => k) (fun z => absurd hc z)
theorem am_icmp_eqF {X : am_X} {d : Nat} {mt : am_M} {pc : Nat} {L : List (Option am_V)} {st : List am_V} {h : am_H} {r : am_R} {x y : Int32} (off : Int) (tgt : Nat) (hd : decode mt.2.1 pc = .ok (.if_icmp .eq off, 3)) (ht : (pc : Int) + off = (tgt : Int)) (hc : ¬ (x = y)) (k : am_At X d mt (pc + 3) L st h r) : am_At X d mt pc L (am_I y :: am_I x :: st) h r := am_icmp_eq off tgt hd ht (fun z => absurd z hc) (fun _ => k)
theorem am_if_eqT {X : am_X} {d : Nat} {mt : am_M} {pc : Nat} {L : List (Option am_V)} {st : List am_V} {h : am_H} {r : am_R} {x : Int32} (off : Int) (tgt : Nat) (hd : decode mt.2.1 pc = .ok (.ifCond .eq off, 3)) (ht : (pc : Int) + off = (tgt : Int)) (hc : (x = 0)) (k : am_At X d mt tgt L st h r) : am_At X d mt pc L (am_I x :: st) h r := am_if_eq off tgt hd ht (fun _ => k) (fun z => absurd hc z)
theorem am_if_eqF {X : am_X} {d : Nat} {mt : am_M} {pc : Nat} {L : List (Option am_V)} {st : List am_V} {h : am_H} {r : am_R} {x : Int32} (off : Int) (tgt : Nat) (hd : decode mt.2.1 pc = .ok (.ifCond .eq off, 3)) (ht : (pc : Int) + off = (tgt : Int)) (hc : ¬ (x = 0)) (k : am_At X d mt (pc + 3) L st h r) : am_At X d mt pc L (am_I x :: st) h r := am_if_eq off tgt hd ht (fun z => absurd z hc) (fun _ => k)
theorem am_icmp_neT {X : am_X} {d : Nat} {mt : am_M} {pc : Nat} {L : List (Option am_V)} {st : List am_V} {h : am_H} {r : am_R} {x y : Int32} (off : Int) (tgt : Nat) (hd : decode mt.2.1 pc = .ok (.if_icmp .ne off, 3)) (ht : (pc : Int) + off = (tgt : Int)) (hc : (¬ x = y)) (k : am_At X d mt tgt L st h r) : am_At X d mt pc L (am_I y :: am_I x :: st) h r := am_icmp_ne off tgt hd ht (fun _ => k) (fun z => absurd z hc)
theorem am_icmp_neF {X : am_X} {d : Nat} {mt : am_M} {pc : Nat} {L : List (Option am_V)} {st : List am_V} {h : am_H} {r : am_R} {x y : Int32} (off : Int) (tgt : Nat) (hd : decode mt.2.1 pc = .ok (.if_icmp .ne off, 3)) (ht : (pc : Int) + off = (tgt : Int)) (hc : (x = y)) (k : am_At X d mt (pc + 3) L st h r) : am_At X d mt pc L (am_I y :: am_I x :: st) h r := am_icmp_ne off tgt hd ht (fun z => absurd hc z) (fun _ => k)
theorem am_if_neT {X : am_X} {d : Nat} {mt : am_M} {pc : Nat} {L : List (Option am_V)} {st : List am_V} {h : am_H} {r : am_R} {x : Int32} (off : Int) (tgt : Nat) (hd : decode mt.2.1 pc = .ok (.ifCond .ne off, 3)) (ht : (pc : Int) + off = (tgt : Int)) (hc : (¬ x = 0)) (k : am_At X d mt tgt L st h r) : am_At X d mt pc L (am_I x :: st) h r := am_if_ne off tgt hd ht (fun _ => k) (fun z => absurd z hc)
theorem am_if_neF {X : am_X} {d : Nat} {mt : am_M} {pc : Nat} {L : List (Option am_V)} {st : List am_V} {h : am_H} {r : am_R} {x : Int32} (off : Int) (tgt : Nat) (hd : decode mt.2.1 pc = .ok (.ifCond .ne off, 3)) (ht : (pc : Int) + off = (tgt : Int)) (hc : (x = 0)) (k : am_At X d mt (pc + 3) L st h r) : am_At X d mt pc L (am_I x :: st) h r := am_if_ne off tgt hd ht (fun z => absurd hc z) (fun _ => k)
theorem am_icmp_ltT {X : am_X} {d : Nat} {mt : am_M} {pc : Nat} {L : List (Option am_V)} {st : List am_V} {h : am_H} {r : am_R} {x y : Int32} (off : Int) (tgt : Nat) (hd : decode mt.2.1 pc = .ok (.if_icmp .lt off, 3)) (ht : (pc : Int) + off = (tgt : Int)) (hc : (x < y)) (k : am_At X d mt tgt L st h r) : am_At X d mt pc L (am_I y :: am_I x :: st) h r := am_icmp_lt off tgt hd ht (fun _ => k) (fun z => absurd hc z)
theorem am_icmp_ltF {X : am_X} {d : Nat} {mt : am_M} {pc : Nat} {L : List (Option am_V)} {st : List am_V} {h : am_H} {r : am_R} {x y : Int32} (off : Int) (tgt : Nat) (hd : decode mt.2.1 pc = .ok (.if_icmp .lt off, 3)) (ht : (pc : Int) + off = (tgt : Int)) (hc : ¬ (x < y)) (k : am_At X d mt (pc + 3) L st h r) : am_At X d mt pc L (am_I y :: am_I x :: st) h r := am_icmp_lt off tgt hd ht (fun z => absurd z hc) (fun _ => k)
theorem am_if_ltT {X : am_X} {d : Nat} {mt : am_M} {pc : Nat} {L : List (Option am_V)} {st : List am_V} {h : am_H} {r : am_R} {x : Int32} (off : Int) (tgt : Nat) (hd : decode mt.2.1 pc = .ok (.ifCond .lt off, 3)) (ht : (pc : Int) + off = (tgt : Int)) (hc : (x < 0)) (k : am_At X d mt tgt L st h r) : am_At X d mt pc L (am_I x :: st) h r := am_if_lt off tgt hd ht (fun _ => k) (fun z => absurd hc z)
theorem am_if_ltF {X : am_X} {d : Nat} {mt : am_M} {pc : Nat} {L : List (Option am_V)} {st : List am_V} {h : am_H} {r : am_R} {x : Int32} (off : Int) (tgt : Nat) (hd : decode mt.2.1 pc = .ok (.ifCond .lt off, 3)) (ht : (pc : Int) + off = (tgt : Int)) (hc : ¬ (x < 0)) (k : am_At X d mt (pc + 3) L st h r) : am_At X d mt pc L (am_I x :: st) h r := am_if_lt off tgt hd ht (fun z => absurd z hc) (fun _ => k)
theorem am_icmp_geT {X : am_X} {d : Nat} {mt : am_M} {pc : Nat} {L : List (Option am_V)} {st : List am_V} {h : am_H} {r : am_R} {x y : Int32} (off : Int) (tgt : Nat) (hd : decode mt.2.1 pc = .ok (.if_icmp .ge off, 3)) (ht : (pc : Int) + off = (tgt : Int)) (hc : (y ≤ x)) (k : am_At X d mt tgt L st h r) : am_At X d mt pc L (am_I y :: am_I x :: st) h r := am_icmp_ge off tgt hd ht (fun _ => k) (fun z => absurd hc z)
theorem am_icmp_geF {X : am_X} {d : Nat} {mt : am_M} {pc : Nat} {L : List (Option am_V)} {st : List am_V} {h : am_H} {r : am_R} {x y : Int32} (off : Int) (tgt : Nat) (hd : decode mt.2.1 pc = .ok (.if_icmp .ge off, 3)) (ht : (pc : Int) + off = (tgt : Int)) (hc : ¬ (y ≤ x)) (k : am_At X d mt (pc + 3) L st h r) : am_At X d mt pc L (am_I y :: am_I x :: st) h r := am_icmp_ge off tgt hd ht (fun z => absurd z hc) (fun _ => k)
theorem am_if_geT {X : am_X} {d : Nat} {mt : am_M} {pc : Nat} {L : List (Option am_V)} {st : List am_V} {h : am_H} {r : am_R} {x : Int32} (off : Int) (tgt : Nat) (hd : decode mt.2.1 pc = .ok (.ifCond .ge off, 3)) (ht : (pc : Int) + off = (tgt : Int)) (hc : (0 ≤ x)) (k : am_At X d mt tgt L st h r) : am_At X d mt pc L (am_I x :: st) h r := am_if_ge off tgt hd ht (fun _ => k) (fun z => absurd hc z)
theorem am_if_geF {X : am_X} {d : Nat} {mt : am_M} {pc : Nat} {L : List (Option am_V)} {st : List am_V} {h : am_H} {r : am_R} {x : Int32} (off : Int) (tgt : Nat) (hd : decode mt.2.1 pc = .ok (.ifCond .ge off, 3)) (ht : (pc : Int) + off = (tgt : Int)) (hc : ¬ (0 ≤ x)) (k : am_At X d mt (pc + 3) L st h r) : am_At X d mt pc L (am_I x :: st) h r := am_if_ge off tgt hd ht (fun z => absurd z hc) (fun _ => k)
theorem am_icmp_gtT {X : am_X} {d : Nat} {mt : am_M} {pc : Nat} {L : List (Option am_V)} {st : List am_V} {h : am_H} {r : am_R} {x y : Int32} (off : Int) (tgt : Nat) (hd : decode mt.2.1 pc = .ok (.if_icmp .gt off, 3)) (ht : (pc : Int) + off = (tgt : Int)) (hc : (y < x)) (k : am_At X d mt tgt L st h r) : am_At X d mt pc L (am_I y :: am_I x :: st) h r := am_icmp_gt off tgt hd ht (fun _ => k) (fun z => absurd hc z)
theorem am_icmp_gtF {X : am_X} {d : Nat} {mt : am_M} {pc : Nat} {L : List (Option am_V)} {st : List am_V} {h : am_H} {r : am_R} {x y : Int32} (off : Int) (tgt : Nat) (hd : decode mt.2.1 pc = .ok (.if_icmp .gt off, 3)) (ht : (pc : Int) + off = (tgt : Int)) (hc : ¬ (y < x)) (k : am_At X d mt (pc + 3) L st h r) : am_At X d mt pc L (am_I y :: am_I x :: st) h r := am_icmp_gt off tgt hd ht (fun z => absurd z hc) (fun _ => k)
theorem am_if_gtT {X : am_X} {d : Nat} {mt : am_M} {pc : Nat} {L : List (Option am_V)} {st : List am_V} {h : am_H} {r : am_R} {x : Int32} (off : Int) (tgt : Nat) (hd : decode mt.2.1 pc = .ok (.ifCond .gt off, 3)) (ht : (pc : Int) + off = (tgt : Int)) (hc : (0 < x)) (k : am_At X d mt tgt L st h r) : am_At X d mt pc L (am_I x :: st) h r := am_if_gt off tgt hd ht (fun _ => k) (fun z => absurd hc z)
theorem am_if_gtF {X : am_X} {d : Nat} {mt : am_M} {pc : Nat} {L : List (Option am_V)} {st : List am_V} {h : am_H} {r : am_R} {x : Int32} (off : Int) (tgt : Nat) (hd : decode mt.2.1 pc = .ok (.ifCond .gt off, 3)) (ht : (pc : Int) + off = (tgt : Int)) (hc : ¬ (0 < x)) (k : am_At X d mt (pc + 3) L st h r) : am_At X d mt pc L (am_I x :: st) h r := am_if_gt off tgt hd ht (fun z => absurd z hc) (fun _ => k)
theorem am_icmp_leT {X : am_X} {d : Nat} {mt : am_M} {pc : Nat} {L : List (Option am_V)} {st : List am_V} {h : am_H} {r : am_R} {x y : Int32} (off : Int) (tgt : Nat) (hd : decode mt.2.1 pc = .ok (.if_icmp .le off, 3)) (ht : (pc : Int) + off = (tgt : Int)) (hc : (x ≤ y)) (k : am_At X d mt tgt L st h r) : am_At X d mt pc L (am_I y :: am_I x :: st) h r := am_icmp_le off tgt hd ht (fun _ => k) (fun z => absurd hc z)
theorem am_icmp_leF {X : am_X} {d : Nat} {mt : am_M} {pc : Nat} {L : List (Option am_V)} {st : List am_V} {h : am_H} {r : am_R} {x y : Int32} (off : Int) (tgt : Nat) (hd : decode mt.2.1 pc = .ok (.if_icmp .le off, 3)) (ht : (pc : Int) + off = (tgt : Int)) (hc : ¬ (x ≤ y)) (k : am_At X d mt (pc + 3) L st h r) : am_At X d mt pc L (am_I y :: am_I x :: st) h r := am_icmp_le off tgt hd ht (fun z => absurd z hc) (fun _ => k)
theorem am_if_leT {X : am_X} {d : Nat} {mt : am_M} {pc : Nat} {L : List (Option am_V)} {st : List am_V} {h : am_H} {r : am_R} {x : Int32} (off : Int) (tgt : Nat) (hd : decode mt.2.1 pc = .ok (.ifCond .le off, 3)) (ht : (pc : Int) + off = (tgt : Int)) (hc : (x ≤ 0)) (k : am_At X d mt tgt L st h r) : am_At X d mt pc L (am_I x :: st) h r := am_if_le off tgt hd ht (fun _ => k) (fun z => absurd hc z)
theorem am_if_leF {X : am_X} {d : Nat} {mt : am_M} {pc : Nat} {L : List (Option am_V)} {st : List am_V} {h : am_H} {r : am_R} {x : Int32} (off : Int) (tgt : Nat) (hd : decode mt.2.1 pc = .ok (.ifCond .le off, 3)) (ht : (pc : Int) + off = (tgt : Int)) (hc : ¬ (x ≤ 0)) (k : am_At X d mt (pc + 3) L st h r) : am_At X d mt pc L (am_I x :: st) h r := am_if_le off tgt hd ht (fun z => absurd z hc) (fun _ => k)
