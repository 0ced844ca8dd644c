/-! STRING CONSTANTS: their length and their signs; what the JDK's own methods say of them -/
def am_tm (y : am_M) (n : Nat) : Prop := am_md y n ∧ Cond.instanceMethod y.1 ∈ am_ws ∧ Cond.selects y.1.cls y.1 y.1 ∈ am_ws ∧ y.1.cls = "java/lang/String"
theorem tm_J0_length_8abf5 : am_tm mJ0_length_8abf5 0 := ⟨⟨am_in 3 171 (by decide +kernel) rfl, am_in 1 20 (by decide +kernel) rfl, ⟨by decide +kernel, by decide +kernel, by decide +kernel⟩, by decide⟩, am_in 3 169 (by decide +kernel) rfl, am_in 3 170 (by decide +kernel) rfl, rfl⟩
theorem tm_J0_charAt_5068e : am_tm mJ0_charAt_5068e 1 := ⟨⟨am_in 3 181 (by decide +kernel) rfl, am_in 1 20 (by decide +kernel) rfl, ⟨by decide +kernel, by decide +kernel, by decide +kernel⟩, by decide⟩, am_in 3 179 (by decide +kernel) rfl, am_in 3 180 (by decide +kernel) rfl, rfl⟩
theorem tm_J0_coder_7d493 : am_tm mJ0_coder_7d493 0 := ⟨⟨am_in 3 175 (by decide +kernel) rfl, am_in 1 20 (by decide +kernel) rfl, ⟨by decide +kernel, by decide +kernel, by decide +kernel⟩, by decide⟩, am_in 3 173 (by decide +kernel) rfl, am_in 3 174 (by decide +kernel) rfl, rfl⟩
theorem tm_J0_isLatin1_aae02 : am_tm mJ0_isLatin1_aae02 0 := ⟨⟨am_in 3 185 (by decide +kernel) rfl, am_in 1 20 (by decide +kernel) rfl, ⟨by decide +kernel, by decide +kernel, by decide +kernel⟩, by decide⟩, am_in 3 183 (by decide +kernel) rfl, am_in 3 184 (by decide +kernel) rfl, rfl⟩
theorem fl_value : Cond.fieldLink RJ0 9 "java/lang/String" "value" "[B" ∈ am_ws := am_in 9 93 (by decide +kernel) rfl
theorem fl_coder : Cond.fieldLink RJ0 15 "java/lang/String" "coder" "B" ∈ am_ws := am_in 9 94 (by decide +kernel) rfl
theorem fl_COMPACT_STRINGS : Cond.fieldLink RJ0 38 "java/lang/String" "COMPACT_STRINGS" "Z" ∈ am_ws := am_in 3 176 (by decide +kernel) rfl
theorem fl_SIOOBE_FORMATTER : Cond.fieldLink RJ0 1053 "jdk/internal/util/Preconditions" "SIOOBE_FORMATTER" "Ljava/util/function/BiFunction;" ∈ am_ws := am_in 3 192 (by decide +kernel) rfl

theorem am_getTv {X : am_X} {d : Nat} {mt : am_M} {pc : Nat} {L : List (Option am_V)} {st : List am_V} {h : am_H} {r : am_R} {idx k : Nat} (hk : k < 8) (hd : decode mt.2.1 pc = .ok (.getfield idx, 3)) (hl : Cond.fieldLink mt.1.cls idx "java/lang/String" "value" "[B" ∈ am_ws) (kk : am_At X d mt (pc + 3) L (.inr (2000 + k, 0) :: st) h r) : am_At X d mt pc L (.inr (1000 + k, 0) :: st) h r := by
  intro p l e R s m args below meth c0 H locs cells slots mc ms ls D cy A ad Q hC hX hP hD hS hL h1 h2 z1 z2 hQ
  obtain ⟨hx, htr, hb, hml, hown, hr, hlk, hnm, hex, hts, hG, hA, hRc, hRs, hRf, hRl⟩ := id hC
  exact vk_getf hx hb (hG.2.2.2.2.1.1 k hk).2.2.1 hS hown (hts _ hl) (fun _ z => z) hd (kk p l e R s m args below meth c0 H locs cells slots mc ms ls D cy A ad Q hC hX hP hD hS hL h1 h2 z1 z2 hQ)
theorem am_getTc {X : am_X} {d : Nat} {mt : am_M} {pc : Nat} {L : List (Option am_V)} {st : List am_V} {h : am_H} {r : am_R} {idx k : Nat} (hk : k < 8) (hd : decode mt.2.1 pc = .ok (.getfield idx, 3)) (hl : Cond.fieldLink mt.1.cls idx "java/lang/String" "coder" "B" ∈ am_ws) (kk : am_At X d mt (pc + 3) L (am_I 0 :: st) h r) : am_At X d mt pc L (.inr (1000 + k, 0) :: st) h r := by
  intro p l e R s m args below meth c0 H locs cells slots mc ms ls D cy A ad Q hC hX hP hD hS hL h1 h2 z1 z2 hQ
  obtain ⟨hx, htr, hb, hml, hown, hr, hlk, hnm, hex, hts, hG, hA, hRc, hRs, hRf, hRl⟩ := id hC
  exact vk_getf hx hb (hG.2.2.2.2.1.1 k hk).2.1 hS hown (hts _ hl) (fun _ z => z) hd (kk p l e R s m args below meth c0 H locs cells slots mc ms ls D cy A ad Q hC hX hP hD hS hL h1 h2 z1 z2 hQ)
theorem am_getCS {X : am_X} {d : Nat} {mt : am_M} {pc : Nat} {L : List (Option am_V)} {st : List am_V} {h : am_H} {r : am_R} {idx : Nat} (hd : decode mt.2.1 pc = .ok (.getstatic idx, 3)) (hl : Cond.fieldLink mt.1.cls idx "java/lang/String" "COMPACT_STRINGS" "Z" ∈ am_ws) (kk : am_At X d mt (pc + 3) L (am_I 1 :: st) h r) : am_At X d mt pc L st h r := by
  intro p l e R s m args below meth c0 H locs cells slots mc ms ls D cy A ad Q hC hX hP hD hS hL h1 h2 z1 z2 hQ
  obtain ⟨hx, htr, hb, hml, hown, hr, hlk, hnm, hex, hts, hG, hA, hRc, hRs, hRf, hRl⟩ := id hC
  exact va_gets hx hb hG.2.2.2.2.2.2.1 hS hown (hts _ hl) (fun _ z => z) hd (kk p l e R s m args below meth c0 H locs cells slots mc ms ls D cy A ad Q hC hX hP hD hS hL h1 h2 z1 z2 hQ)
theorem am_getSF {X : am_X} {d : Nat} {mt : am_M} {pc : Nat} {L : List (Option am_V)} {st : List am_V} {h : am_H} {r : am_R} {idx : Nat} (hd : decode mt.2.1 pc = .ok (.getstatic idx, 3)) (hl : Cond.fieldLink mt.1.cls idx "jdk/internal/util/Preconditions" "SIOOBE_FORMATTER" "Ljava/util/function/BiFunction;" ∈ am_ws) (kk : ∀ v : Value, v.category = 1 → am_At X d mt (pc + 3) L (.inl v :: st) h r) : am_At X d mt pc L st h r := by
  intro p l e R s m args below meth c0 H locs cells slots mc ms ls D cy A ad Q hC hX hP hD hS hL h1 h2 z1 z2 hQ
  obtain ⟨hx, htr, hb, hml, hown, hr, hlk, hnm, hex, hts, hG, hA, hRc, hRs, hRf, hRl⟩ := id hC
  rcases hG.2.2.2.2.2.2.2 with z | ⟨t, z⟩
  · exact va_gets hx hb z hS hown (hts _ hl) (fun _ z => z) hd (kk .null rfl p l e R s m args below meth c0 H locs cells slots mc ms ls D cy A ad Q hC hX hP hD hS hL h1 h2 z1 z2 hQ)
  · exact va_gets hx hb z hS hown (hts _ hl) (fun _ z => z) hd (kk (.ref t) rfl p l e R s m args below meth c0 H locs cells slots mc ms ls D cy A ad Q hC hX hP hD hS hL h1 h2 z1 z2 hQ)
theorem am_Tlen {X : am_X} {d : Nat} {mt : am_M} {pc : Nat} {L : List (Option am_V)} {st : List am_V} {h : am_H} {r : am_R} {k : Nat} (hk : k < 8) (hd : decode mt.2.1 pc = .ok (.arraylength, 1)) (kk : am_At X d mt (pc + 1) L (am_I (nI (am_Slen.getD k 0)) :: st) h r) : am_At X d mt pc L (.inr (2000 + k, 0) :: st) h r := by
  intro p l e R s m args below meth c0 H locs cells slots mc ms ls D cy A ad Q hC hX hP hD hS hL h1 h2 z1 z2 hQ
  obtain ⟨hx, htr, hb, hml, hown, hr, hlk, hnm, hex, hts, hG, hA, hRc, hRs, hRf, hRl⟩ := id hC
  exact va_tlen hx hb (hG.2.2.2.2.1.1 k hk).2.2.2 hS rfl hd (kk p l e R s m args below meth c0 H locs cells slots mc ms ls D cy A ad Q hC hX hP hD hS hL h1 h2 z1 z2 hQ)
theorem am_Tld {X : am_X} {d : Nat} {mt : am_M} {pc : Nat} {L : List (Option am_V)} {st : List am_V} {h : am_H} {r : am_R} {k : Nat} (hk : k < 8) {i : Int32} (hin : vp_in i (am_Slen.getD k 0)) (hd : decode mt.2.1 pc = .ok (.baload, 1)) (kk : am_At X d mt (pc + 1) L (am_I ((am_Sbyt.getD k []).getD i.toNatClampNeg 0) :: st) h r) : am_At X d mt pc L (am_I i :: .inr (2000 + k, 0) :: st) h r := by
  intro p l e R s m args below meth c0 H locs cells slots mc ms ls D cy A ad Q hC hX hP hD hS hL h1 h2 z1 z2 hQ
  obtain ⟨hx, htr, hb, hml, hown, hr, hlk, hnm, hex, hts, hG, hA, hRc, hRs, hRf, hRl⟩ := id hC
  exact va_tb hx hb (hG.2.2.2.2.1.1 k hk).2.2.2 hS hin rfl hd (kk p l e R s m args below meth c0 H locs cells slots mc ms ls D cy A ad Q hC hX hP hD hS hL h1 h2 z1 z2 hQ)
theorem am_i2c {X : am_X} {d : Nat} {mt : am_M} {pc : Nat} {L : List (Option am_V)} {st : List am_V} {h : am_H} {r : am_R} {x : Int32} (hd : decode mt.2.1 pc = .ok (.i2c, 1)) (kk : am_At X d mt (pc + 1) L (am_I ((x.toUInt32 % 65536).toInt32) :: st) h r) : am_At X d mt pc L (am_I x :: st) h r := by
  intro p l e R s m args below meth c0 H locs cells slots mc ms ls D cy A ad Q hC hX hP hD hS hL h1 h2 z1 z2 hQ
  obtain ⟨hx, htr, hb, hml, hown, hr, hlk, hnm, hex, hts, hG, hA, hRc, hRs, hRf, hRl⟩ := id hC
  exact lv_i2c hx hb hd rfl (kk p l e R s m args below meth c0 H locs cells slots mc ms ls D cy A ad Q hC hX hP hD hS hL h1 h2 z1 z2 hQ)
theorem am_callT {X : am_X} {d : Nat} {mt : am_M} {pc : Nat} {L : List (Option am_V)} {st : List am_V} {h : am_H} {r : am_R} {k : Nat} (hk8 : k < 8) {idx nA d1 : Nat} {y : am_M} (as : List am_V) {stk : List am_V} {v : Option am_V} {h1 : am_H} (hd : decode mt.2.1 pc = .ok (.invokevirtual idx, 3)) (hl : Cond.methodLink mt.1.cls idx y.1 ∈ am_ws) (g : am_tm y nA) (hn : as.length = nA) (hst : ∀ ad, ((st.map (am_cv ad)).map fun v => v.category).sum ≤ 8) (hd1 : d1 + 1 ≤ d) (hk : stk = as.reverse ++ .inr (1000 + k, 0) :: st) (E : am_Ev d1 y (.inr (1000 + k, 0) :: as) h (.inl (v, h1))) (hsh : h1.1 = h.1) (kk : am_At X d mt (pc + 3) L (v.toList ++ st) h1 r) : am_At X d mt pc L stk h r := by
  intro p l e R s m args below meth c0 H locs cells slots mc ms ls D cy A ad Q hC hX hP hD hS hL h1' h2' z1 z2 hQ
  subst hk
  obtain ⟨hx, htr, hb, hml, hown, hr, hlk, hnm, hex, hts, hG, hA, hRc, hRs, hRf, hRl⟩ := id hC
  have e1 : am_rc (.inl (v, h1)) - am_nc h = 0 := by show am_nc h1 - am_nc h = 0; unfold am_nc; rw [hsh]; omega
  have e2 : am_rs (.inl (v, h1)) - am_ns h = 0 := by show am_ns h1 - am_ns h = 0; unfold am_ns; rw [hsh]; omega
  have hrc : cells ≤ mc := by omega
  have hrs : slots ≤ ms := by omega
  refine am_after (h := h) (r1 := (.inl (v, h1))) (vx_runV (As := as.map (am_cv ad)) (rest := st.map (am_cv ad)) (b := ad (1000 + k) 0) (C := "java/lang/String") ⟨hx, hb, hml, hown, hts⟩ (E l htr D cy ad H.size) ⟨am_cb (d := d) hts g.1 hl hRf hRl hd1, hts _ g.2.1, by have z := hts _ g.2.2.1; rw [g.2.2.2] at z; exact z⟩ ⟨am_blind, vk_recv (i := k) (adK := fun k => ad (1000 + k) 0) hG.2.2.2.2.1 hk8 hS, am_pre (av := .ref (ad (1000 + k) 0) :: as.map (am_cv ad)) hP hD hA hS hG⟩ rfl (by simpa using hn) hL.1 (by simp [am_cv]) (lv_room (hst ad)) hd ⟨by rw [e1, hRc]; exact hrc, by rw [e2, hRs]; exact hrs⟩) (am_AB hD hA hS) hS ?_ ?_
  · intro E1 h9 ad1 H1 locs1 q9 ce z
    cases z
  · intro v9 h9 ad1 H1 locs1 z hag hP1 hD1 hS1
    cases z
    have ead : ad1 = ad := hag.2.1 (by rw [hsh])
    subst ead
    rw [e1, e2]
    have hn1 : am_nc h1 = am_nc h := by unfold am_nc; rw [hsh]
    have hn2 : am_ns h1 = am_ns h := by unfold am_ns; rw [hsh]
    have := kk p l e R s m args below meth c0 H1 locs1 (cells + 0) (slots + 0) mc ms ls D cy A ad1 Q hC hX hP1 hD1 hS1 hL (by rw [hn1]; exact h1') (by rw [hn2]; exact h2') (by rw [hn1]; exact z1) (by rw [hn2]; exact z2) (fun t ht => hQ t (am_MQ hag ht))
    cases v <;> exact this
theorem ev_J3ck {d : Nat} {h : am_H} {i n : Int32} {v : Value} (hv : v.category = 1) (h0 : ¬ i < 0) (hn : i < n) : am_Ev d mJ3_checkIndex_8e157 [am_I i, am_I n, .inl v] h (.inl (some (am_I i), h)) := by
  refine am_Ev.of (by decide +kernel) (fun w hw ad => ?_) (Nat.le_refl _) (Nat.le_refl _) (Nat.le_refl _) ?_
  · simp only [List.mem_cons, List.not_mem_nil, or_false] at hw
    rcases hw with rfl | rfl | rfl
    · rfl
    · rfl
    · exact hv
  change am_At _ _ _ 0 [_, _, _] [] _ _
  refine am_iload_n dJ3_checkIndex_8e157_0 rfl ?_
  refine am_if_ltF (8) 9 dJ3_checkIndex_8e157_1 rfl h0 ?_
  refine am_iload_n dJ3_checkIndex_8e157_4 rfl ?_
  refine am_iload_n dJ3_checkIndex_8e157_5 rfl ?_
  refine am_icmp_ltT (10) 16 dJ3_checkIndex_8e157_6 rfl hn ?_
  refine am_iload_n dJ3_checkIndex_8e157_16 rfl ?_
  exact am_iret dJ3_checkIndex_8e157_17 rfl
theorem ev_J0ck {d : Nat} {h : am_H} {i n : Int32} (h0 : ¬ i < 0) (hn : i < n) : am_Ev (d + 1) mJ0_checkIndex_df160 [am_I i, am_I n] h (.inl (none, h)) := by
  refine am_Ev.mk (by decide +kernel) rfl rfl (Nat.le_refl _) (Nat.le_refl _) ?_
  change am_At _ _ _ 0 [_, _] [] _ _
  refine am_iload_n dJ0_checkIndex_df160_0 rfl ?_
  refine am_iload_n dJ0_checkIndex_df160_1 rfl ?_
  refine am_getSF dJ0_checkIndex_df160_2 fl_SIOOBE_FORMATTER (fun v hv => ?_)
  refine am_callS (c := 0) (k := 0) (n := 0) (w := 0) [_, _, _] dJ0_checkIndex_df160_5 ml_J0_1059 sm_J3_checkIndex_8e157 rfl (fun _ => Nat.le_of_ble_eq_true rfl) (by omega) rfl (ev_J3ck (d := d) (v := v) hv h0 hn) rfl ?_
  change am_At _ _ _ 8 [_, _] [_] _ _
  refine am_pop dJ0_checkIndex_df160_8 (fun _ => rfl) ?_
  exact am_vret dJ0_checkIndex_df160_9 rfl
theorem ev_coder {d : Nat} {h : am_H} {k : Nat} (hk : k < 8) : am_Ev d mJ0_coder_7d493 [.inr (1000 + k, 0)] h (.inl (some (am_I 0), h)) := by
  refine am_Ev.mk (by decide +kernel) rfl rfl (Nat.le_refl _) (Nat.le_refl _) ?_
  change am_At _ _ _ 0 [_] [] _ _
  refine am_getCS dJ0_coder_7d493_0 fl_COMPACT_STRINGS ?_
  refine am_if_eqF (10) 13 dJ0_coder_7d493_3 rfl (by decide) ?_
  refine am_aload_n dJ0_coder_7d493_6 rfl ?_
  refine am_getTc hk dJ0_coder_7d493_7 fl_coder ?_
  refine am_goto (4) 14 dJ0_coder_7d493_10 rfl ?_
  exact am_zret dJ0_coder_7d493_14 rfl rfl
theorem ev_isLatin1 {d : Nat} {h : am_H} {k : Nat} (hk : k < 8) : am_Ev d mJ0_isLatin1_aae02 [.inr (1000 + k, 0)] h (.inl (some (am_I 1), h)) := by
  refine am_Ev.mk (by decide +kernel) rfl rfl (Nat.le_refl _) (Nat.le_refl _) ?_
  change am_At _ _ _ 0 [_] [] _ _
  refine am_getCS dJ0_isLatin1_aae02_0 fl_COMPACT_STRINGS ?_
  refine am_if_eqF (14) 17 dJ0_isLatin1_aae02_3 rfl (by decide) ?_
  refine am_aload_n dJ0_isLatin1_aae02_6 rfl ?_
  refine am_getTc hk dJ0_isLatin1_aae02_7 fl_coder ?_
  refine am_if_neF (7) 17 dJ0_isLatin1_aae02_10 rfl rfl ?_
  refine am_iconst 1 (v := 1) dJ0_isLatin1_aae02_13 (by decide) ?_
  refine am_goto (4) 18 dJ0_isLatin1_aae02_14 rfl ?_
  exact am_zret dJ0_isLatin1_aae02_18 rfl rfl
def sln (k : Nat) : Int32 := nI (am_Slen.getD k 0)
def sch (k : Nat) (i : Int32) : Int32 := (am_Sbyt.getD k []).getD i.toNatClampNeg 0
theorem ev_slen {d : Nat} {h : am_H} {k : Nat} (hk : k < 8) : am_Ev (d + 3) mJ0_length_8abf5 [.inr (1000 + k, 0)] h (.inl (some (am_I (sln k)), h)) := by
  refine am_Ev.mk (by decide +kernel) rfl rfl (Nat.le_refl _) (Nat.le_refl _) ?_
  change am_At _ _ _ 0 [_] [] _ _
  refine am_aload_n dJ0_length_8abf5_0 rfl ?_
  refine am_getTv hk dJ0_length_8abf5_1 fl_value ?_
  refine am_Tlen hk dJ0_length_8abf5_4 ?_
  refine am_aload_n dJ0_length_8abf5_5 rfl ?_
  refine am_callT hk [] dJ0_length_8abf5_6 ml_J0_335 tm_J0_coder_7d493 rfl (fun _ => Nat.le_of_ble_eq_true rfl) (by omega) rfl (ev_coder (d := d) hk) rfl ?_
  change am_At _ _ _ 9 [_] [_, _] _ _
  refine am_ishr dJ0_length_8abf5_9 ?_
  refine am_At.end ?_ (am_iret dJ0_length_8abf5_10 rfl)
  have z : ∀ k, k < 8 → nI (am_Slen.getD k 0) >>> ((0 : Int32) &&& 31) = sln k := by decide +kernel
  rw [z k hk]
theorem sch_ok : ∀ k, k < 8 → ∀ j, j < am_Slen.getD k 0 → ((((am_Sbyt.getD k []).getD j 0) &&& 255).toUInt32 % 65536).toInt32 = (am_Sbyt.getD k []).getD j 0 ∧ narrow .char (.int ((am_Sbyt.getD k []).getD j 0)) = .int ((am_Sbyt.getD k []).getD j 0) := by
  decide +kernel
theorem vp_in_lt {i : Int32} {n : Nat} (h : vp_in i n) : ¬ i < 0 ∧ i.toNatClampNeg < n := by
  unfold vp_in at h
  exact ⟨fun z => h (Or.inl z), by omega⟩
theorem vp_in_ltI {i : Int32} {n : Nat} (hn : n < 2 ^ 31) (h : vp_in i n) : i < nI n := by
  obtain ⟨h0, h1⟩ := vp_in_lt h
  obtain ⟨j, hj, rfl⟩ := nI_of h0
  rw [nI_clamp hj] at h1
  exact nI_lt h1 hn
theorem ev_J1ch {d : Nat} {h : am_H} {k : Nat} (hk : k < 8) {i : Int32} (hi : vp_in i (am_Slen.getD k 0)) : am_Ev (d + 2) mJ1_charAt_3b067 [.inr (2000 + k, 0), am_I i] h (.inl (some (am_I (sch k i)), h)) := by
  have hb : am_Slen.getD k 0 < 2 ^ 31 := (by decide +kernel : ∀ k, k < 8 → am_Slen.getD k 0 < 2 ^ 31) k hk
  refine am_Ev.mk (by decide +kernel) rfl rfl (Nat.le_refl _) (Nat.le_refl _) ?_
  change am_At _ _ _ 0 [_, _] [] _ _
  refine am_iload_n dJ1_charAt_3b067_0 rfl ?_
  refine am_aload_n dJ1_charAt_3b067_1 rfl ?_
  refine am_Tlen hk dJ1_charAt_3b067_2 ?_
  refine am_callS (c := 0) (k := 0) (n := 0) (w := 0) [_, _] dJ1_charAt_3b067_3 ml_J1_9 sm_J0_checkIndex_df160 rfl (fun _ => Nat.le_of_ble_eq_true rfl) (by omega) rfl (ev_J0ck (d := d) (vp_in_lt hi).1 (vp_in_ltI hb hi)) rfl ?_
  change am_At _ _ _ 6 [_, _] [] _ _
  refine am_aload_n dJ1_charAt_3b067_6 rfl ?_
  refine am_iload_n dJ1_charAt_3b067_7 rfl ?_
  refine am_Tld hk hi dJ1_charAt_3b067_8 ?_
  refine am_sipush 255 (v := 255) dJ1_charAt_3b067_9 (by decide) ?_
  refine am_iand dJ1_charAt_3b067_12 ?_
  refine am_i2c dJ1_charAt_3b067_13 ?_
  obtain ⟨z1, z2⟩ := sch_ok k hk _ (vp_in_lt hi).2
  rw [z1]
  exact am_zret dJ1_charAt_3b067_14 rfl z2
theorem ev_schar {d : Nat} {h : am_H} {k : Nat} (hk : k < 8) {i : Int32} (hi : vp_in i (am_Slen.getD k 0)) : am_Ev (d + 3) mJ0_charAt_5068e [.inr (1000 + k, 0), am_I i] h (.inl (some (am_I (sch k i)), h)) := by
  refine am_Ev.mk (by decide +kernel) rfl rfl (Nat.le_refl _) (Nat.le_refl _) ?_
  change am_At _ _ _ 0 [_, _] [] _ _
  refine am_aload_n dJ0_charAt_5068e_0 rfl ?_
  refine am_callT hk [] dJ0_charAt_5068e_1 ml_J0_492 tm_J0_isLatin1_aae02 rfl (fun _ => Nat.le_of_ble_eq_true rfl) (by omega) rfl (ev_isLatin1 (d := d) hk) rfl ?_
  change am_At _ _ _ 4 [_, _] [_] _ _
  refine am_if_eqF (12) 16 dJ0_charAt_5068e_4 rfl (by decide) ?_
  refine am_aload_n dJ0_charAt_5068e_7 rfl ?_
  refine am_getTv hk dJ0_charAt_5068e_8 fl_value ?_
  refine am_iload_n dJ0_charAt_5068e_11 rfl ?_
  refine am_callS (c := 0) (k := 0) (n := 0) (w := 0) [_, _] dJ0_charAt_5068e_12 ml_J0_495 sm_J1_charAt_3b067 rfl (fun _ => Nat.le_of_ble_eq_true rfl) (by omega) rfl (ev_J1ch (d := d) hk hi) rfl ?_
  change am_At _ _ _ 15 [_, _] [_] _ _
  exact am_zret dJ0_charAt_5068e_15 rfl (sch_ok k hk _ (vp_in_lt hi).2).2
set_option maxRecDepth 20000 in
theorem thr_fit {X : am_X} {d : Nat} {L : List (Option am_V)} {h : am_H} : am_At X d mX11_needFit 20 L [] h (.inr ("java/lang/IllegalArgumentException", h)) :=
  am_throw (k9 := 7) (text := "out of its range") (names := ["java/lang/RuntimeException", "java/lang/Exception"]) dX11_needFit_20 dX11_needFit_23 dX11_needFit_24 dX11_needFit_27 dX11_needFit_30 (by decide +kernel) (by decide +kernel) (by decide) (am_in 3 71 (by decide +kernel) rfl) (am_in 1 19 (by decide +kernel) rfl) (by decide) (by decide +kernel) (by decide +kernel) (by decide +kernel)
