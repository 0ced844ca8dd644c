/-! STRING CONSTANTS: their length and their signs; what the JDK's own methods say of them -/
def am_tm (y : am_M) (n : Nat) : Prop := am_md y n ∧ Cond.instanceMethod y.1 ∈ am_ws ∧ Cond.selects y.1.cls y.1 y.1 ∈ am_ws ∧ y.1.cls = "java/lang/String"
theorem tm_J0_length_8abf5 : am_tm mJ0_length_8abf5 0 := ⟨⟨am_in 3 175 (by decide +kernel) rfl, am_in 1 20 (by decide +kernel) rfl, ⟨by decide +kernel, by decide +kernel, by decide +kernel⟩, by decide⟩, am_in 3 173 (by decide +kernel) rfl, am_in 3 174 (by decide +kernel) rfl, rfl⟩
theorem tm_J0_charAt_5068e : am_tm mJ0_charAt_5068e 1 := ⟨⟨am_in 3 185 (by decide +kernel) rfl, am_in 1 20 (by decide +kernel) rfl, ⟨by decide +kernel, by decide +kernel, by decide +kernel⟩, by decide⟩, am_in 3 183 (by decide +kernel) rfl, am_in 3 184 (by decide +kernel) rfl, rfl⟩
theorem tm_J0_coder_7d493 : am_tm mJ0_coder_7d493 0 := ⟨⟨am_in 3 179 (by decide +kernel) rfl, am_in 1 20 (by decide +kernel) rfl, ⟨by decide +kernel, by decide +kernel, by decide +kernel⟩, by decide⟩, am_in 3 177 (by decide +kernel) rfl, am_in 3 178 (by decide +kernel) rfl, rfl⟩
theorem tm_J0_isLatin1_aae02 : am_tm mJ0_isLatin1_aae02 0 := ⟨⟨am_in 3 189 (by decide +kernel) rfl, am_in 1 20 (by decide +kernel) rfl, ⟨by decide +kernel, by decide +kernel, by decide +kernel⟩, by decide⟩, am_in 3 187 (by decide +kernel) rfl, am_in 3 188 (by decide +kernel) rfl, rfl⟩
theorem fl_value : Cond.fieldLink RJ0 9 "java/lang/String" "value" "[B" ∈ am_ws := am_in 9 97 (by decide +kernel) rfl
theorem fl_coder : Cond.fieldLink RJ0 15 "java/lang/String" "coder" "B" ∈ am_ws := am_in 9 98 (by decide +kernel) rfl
theorem fl_COMPACT_STRINGS : Cond.fieldLink RJ0 38 "java/lang/String" "COMPACT_STRINGS" "Z" ∈ am_ws := am_in 3 180 (by decide +kernel) rfl
theorem fl_SIOOBE_FORMATTER : Cond.fieldLink RJ0 1053 "jdk/internal/util/Preconditions" "SIOOBE_FORMATTER" "Ljava/util/function/BiFunction;" ∈ am_ws := am_in 3 196 (by decide +kernel) rfl

theorem am_getTv {X : am_X} {d : Nat} {mt : am_M} {pc : Nat} {L : List (Option am_V)} {st : List am_V} {h : am_H} {r : am_R} {idx k : Nat} (hk : k < 8) (hd : decode mt.2.1 pc = .ok (.getfield idx, 3)) (hl : Cond.fieldLink mt.1.cls idx "java/lang/String" "value" "[B" ∈ am_ws) (kk : am_At X d mt (pc + 3) L (.inr (2000 + k, 0) :: st) h r) : am_At X d mt pc L (.inr (1000 + k, 0) :: st) h r := by
  intro p l e R s m args below meth c0 H locs cells slots mc ms ls D cy A ad Q hC hX hP hD hS hL h1 h2 z1 z2 hQ
  obtain ⟨hx, htr, hb, hml, hown, hr, hlk, hnm, hex, hts, hG, hA, hRc, hRs, hRf, hRl⟩ := id hC
  exact vk_getf hx hb (hG.2.2.2.2.1.1 k hk).2.2.1 hS hown (hts _ hl) (fun _ z => z) hd (kk p l e R s m args below meth c0 H locs cells slots mc ms ls D cy A ad Q hC hX hP hD hS hL h1 h2 z1 z2 hQ)
theorem am_getTc {X : am_X} {d : Nat} {mt : am_M} {pc : Nat} {L : List (Option am_V)} {st : List am_V} {h : am_H} {r : am_R} {idx k : Nat} (hk : k < 8) (hd : decode mt.2.1 pc = .ok (.getfield idx, 3)) (hl : Cond.fieldLink mt.1.cls idx "java/lang/String" "coder" "B" ∈ am_ws) (kk : am_At X d mt (pc + 3) L (am_I 0 :: st) h r) : am_At X d mt pc L (.inr (1000 + k, 0) :: st) h r := by
  intro p l e R s m args below meth c0 H locs cells slots mc ms ls D cy A ad Q hC hX hP hD hS hL h1 h2 z1 z2 hQ
  obtain ⟨hx, htr, hb, hml, hown, hr, hlk, hnm, hex, hts, hG, hA, hRc, hRs, hRf, hRl⟩ := id hC
  exact vk_getf hx hb (hG.2.2.2.2.1.1 k hk).2.1 hS hown (hts _ hl) (fun _ z => z) hd (kk p l e R s m args below meth c0 H locs cells slots mc ms ls D cy A ad Q hC hX hP hD hS hL h1 h2 z1 z2 hQ)
theorem am_getCS {X : am_X} {d : Nat} {mt : am_M} {pc : Nat} {L : List (Option am_V)} {st : List am_V} {h : am_H} {r : am_R} {idx : Nat} (hd : decode mt.2.1 pc = .ok (.getstatic idx, 3)) (hl : Cond.fieldLink mt.1.cls idx "java/lang/String" "COMPACT_STRINGS" "Z" ∈ am_ws) (kk : am_At X d mt (pc + 3) L (am_I 1 :: st) h r) : am_At X d mt pc L st h r := by
  intro p l e R s m args below meth c0 H locs cells slots mc ms ls D cy A ad Q hC hX hP hD hS hL h1 h2 z1 z2 hQ
  obtain ⟨hx, htr, hb, hml, hown, hr, hlk, hnm, hex, hts, hG, hA, hRc, hRs, hRf, hRl⟩ := id hC
  exact va_gets hx hb hG.2.2.2.2.2.2.1 hS hown (hts _ hl) (fun _ z => z) hd (kk p l e R s m args below meth c0 H locs cells slots mc ms ls D cy A ad Q hC hX hP hD hS hL h1 h2 z1 z2 hQ)
theorem am_getSF {X : am_X} {d : Nat} {mt : am_M} {pc : Nat} {L : List (Option am_V)} {st : List am_V} {h : am_H} {r : am_R} {idx : Nat} (hd : decode mt.2.1 pc = .ok (.getstatic idx, 3)) (hl : Cond.fieldLink mt.1.cls idx "jdk/internal/util/Preconditions" "SIOOBE_FORMATTER" "Ljava/util/function/BiFunction;" ∈ am_ws) (kk : ∀ v : Value, v.category = 1 → am_At X d mt (pc + 3) L (.inl v :: st) h r) : am_At X d mt pc L st h r := by
  intro p l e R s m args below meth c0 H locs cells slots mc ms ls D cy A ad Q hC hX hP hD hS hL h1 h2 z1 z2 hQ
  obtain ⟨hx, htr, hb, hml, hown, hr, hlk, hnm, hex, hts, hG, hA, hRc, hRs, hRf, hRl⟩ := id hC
  rcases hG.2.2.2.2.2.2.2 with z | ⟨t, z⟩
  · exact va_gets hx hb z hS hown (hts _ hl) (fun _ z => z) hd (kk .null rfl p l e R s m args below meth c0 H locs cells slots mc ms ls D cy A ad Q hC hX hP hD hS hL h1 h2 z1 z2 hQ)
  · exact va_gets hx hb z hS hown (hts _ hl) (fun _ z => z) hd (kk (.ref t) rfl p l e R s m args below meth c0 H locs cells slots mc ms ls D cy A ad Q hC hX hP hD hS hL h1 h2 z1 z2 hQ)
theorem am_Tlen {X : am_X} {d : Nat} {mt : am_M} {pc : Nat} {L : List (Option am_V)} {st : List am_V} {h : am_H} {r : am_R} {k : Nat} (hk : k < 8) (hd : decode mt.2.1 pc = .ok (.arraylength, 1)) (kk : am_At X d mt (pc + 1) L (am_I (nI (am_Slen.getD k 0)) :: st) h r) : am_At X d mt pc L (.inr (2000 + k, 0) :: st) h r := by
  intro p l e R s m args below meth c0 H locs cells slots mc ms ls D cy A ad Q hC hX hP hD hS hL h1 h2 z1 z2 hQ
  obtain ⟨hx, htr, hb, hml, hown, hr, hlk, hnm, hex, hts, hG, hA, hRc, hRs, hRf, hRl⟩ := id hC
  exact va_tlen hx hb (hG.2.2.2.2.1.1 k hk).2.2.2 hS rfl hd (kk p l e R s m args below meth c0 H locs cells slots mc ms ls D cy A ad Q hC hX hP hD hS hL h1 h2 z1 z2 hQ)
theorem am_Tld {X : am_X} {d : Nat} {mt : am_M} {pc : Nat} {L : List (Option am_V)} {st : List am_V} {h : am_H} {r : am_R} {k : Nat} (hk : k < 8) {i : Int32} (hin : vp_in i (am_Slen.getD k 0)) (hd : decode mt.2.1 pc = .ok (.baload, 1)) (kk : am_At X d mt (pc + 1) L (am_I ((am_Sbyt.getD k []).getD i.toNatClampNeg 0) :: st) h r) : am_At X d mt pc L (am_I i :: .inr (2000 + k, 0) :: st) h r := by
  intro p l e R s m args below meth c0 H locs cells slots mc ms ls D cy A ad Q hC hX hP hD hS hL h1 h2 z1 z2 hQ
  obtain ⟨hx, htr, hb, hml, hown, hr, hlk, hnm, hex, hts, hG, hA, hRc, hRs, hRf, hRl⟩ := id hC
  exact va_tb hx hb (hG.2.2.2.2.1.1 k hk).2.2.2 hS hin rfl hd (kk p l e R s m args below meth c0 H locs cells slots mc ms ls D cy A ad Q hC hX hP hD hS hL h1 h2 z1 z2 hQ)
theorem am_i2c {X : am_X} {d : Nat} {mt : am_M} {pc : Nat} {L : List (Option am_V)} {st : List am_V} {h : am_H} {r : am_R} {x : Int32} (hd : decode mt.2.1 pc = .ok (.i2c, 1)) (kk : am_At X d mt (pc + 1) L (am_I ((x.toUInt32 % 65536).toInt32) :: st) h r) : am_At X d mt pc L (am_I x :: st) h r := by
  intro p l e R s m args below meth c0 H locs cells slots mc ms ls D cy A ad Q hC hX hP hD hS hL h1 h2 z1 z2 hQ
  obtain ⟨hx, htr, hb, hml, hown, hr, hlk, hnm, hex, hts, hG, hA, hRc, hRs, hRf, hRl⟩ := id hC
  exact lv_i2c hx hb hd rfl (kk p l e R s m args below meth c0 H locs cells slots mc ms ls D cy A ad Q hC hX hP hD hS hL h1 h2 z1 z2 hQ)
theorem am_callT {X : am_X} {d : Nat} {mt : am_M} {pc : Nat} {L : List (Option am_V)} {st : List am_V} {h : am_H} {r : am_R} {k : Nat} (hk8 : k < 8) {idx nA d1 : Nat} {y : am_M} (as : List am_V) {stk : List am_V} {v : Option am_V} {h1 : am_H} (hd : decode mt.2.1 pc = .ok (.invokevirtual idx, 3)) (hl : Cond.methodLink mt.1.cls idx y.1 ∈ am_ws) (g : am_tm y nA) (hn : as.length = nA) (hst : ∀ ad, ((st.map (am_cv ad)).map fun v => v.category).sum ≤ 8) (hd1 : d1 + 1 ≤ d) (hk : stk = as.reverse ++ .inr (1000 + k, 0) :: st) (E : am_Ev d1 y (.inr (1000 + k, 0) :: as) h (.inl (v, h1))) (hsh : h1.1 = h.1) (kk : am_At X d mt (pc + 3) L (v.toList ++ st) h1 r) : am_At X d mt pc L stk h r := by
  intro p l e R s m args below meth c0 H locs cells slots mc ms ls D cy A ad Q hC hX hP hD hS hL h1' h2' z1 z2 hQ
  subst hk
  obtain ⟨hx, htr, hb, hml, hown, hr, hlk, hnm, hex, hts, hG, hA, hRc, hRs, hRf, hRl⟩ := id hC
  have e1 : am_rc (.inl (v, h1)) - am_nc h = 0 := by show am_nc h1 - am_nc h = 0; unfold am_nc; rw [hsh]; omega
  have e2 : am_rs (.inl (v, h1)) - am_ns h = 0 := by show am_ns h1 - am_ns h = 0; unfold am_ns; rw [hsh]; omega
  have hrc : cells ≤ mc := by omega
  have hrs : slots ≤ ms := by omega
  refine am_after (h := h) (r1 := (.inl (v, h1))) (vx_runV (As := as.map (am_cv ad)) (rest := st.map (am_cv ad)) (b := ad (1000 + k) 0) (C := "java/lang/String") ⟨hx, hb, hml, hown, hts⟩ (E l htr D cy ad H.size) ⟨am_cb (d := d) hts g.1 hl hRf hRl hd1, hts _ g.2.1, by have z := hts _ g.2.2.1; rw [g.2.2.2] at z; exact z⟩ ⟨am_blind, vk_recv (i := k) (adK := fun k => ad (1000 + k) 0) hG.2.2.2.2.1 hk8 hS, am_pre (av := .ref (ad (1000 + k) 0) :: as.map (am_cv ad)) hP hD hA hS hG⟩ rfl (by simpa using hn) hL.1 (by simp [am_cv]) (lv_room (hst ad)) hd ⟨by rw [e1, hRc]; exact hrc, by rw [e2, hRs]; exact hrs⟩) (am_AB hD hA hS) hS ?_ ?_
  · intro E1 h9 ad1 H1 locs1 q9 ce z
    cases z
  · intro v9 h9 ad1 H1 locs1 z hag hP1 hD1 hS1
    cases z
    have ead : ad1 = ad := hag.2.1 (by rw [hsh])
    subst ead
    rw [e1, e2]
    have hn1 : am_nc h1 = am_nc h := by unfold am_nc; rw [hsh]
    have hn2 : am_ns h1 = am_ns h := by unfold am_ns; rw [hsh]
    have := kk p l e R s m args below meth c0 H1 locs1 (cells + 0) (slots + 0) mc ms ls D cy A ad1 Q hC hX hP1 hD1 hS1 hL (by rw [hn1]; exact h1') (by rw [hn2]; exact h2') (by rw [hn1]; exact z1) (by rw [hn2]; exact z2) (fun t ht => hQ t (am_MQ hag ht))
    cases v <;> exact this
theorem ev_J3ck {d : Nat} {h : am_H} {i n : Int32} {v : Value} (hv : v.category = 1) (h0 : ¬ i < 0) (hn : i < n) : am_Ev d mJ3_checkIndex_8e157 [am_I i, am_I n, .inl v] h (.inl (some (am_I i), h)) := by
  refine am_Ev.of (by decide +kernel) (fun w hw ad => ?_) (Nat.le_refl _) (Nat.le_refl _) (Nat.le_refl _) ?_
  · simp only [List.mem_cons, List.not_mem_nil, or_false] at hw
    rcases hw with rfl | rfl | rfl
    · rfl
    · rfl
    · exact hv
  change am_At _ _ _ 0 [_, _, _] [] _ _
  refine am_iload_n dJ3_checkIndex_8e157_0 rfl ?_
  refine am_if_ltF (8) 9 dJ3_checkIndex_8e157_1 rfl h0 ?_
  refine am_iload_n dJ3_checkIndex_8e157_4 rfl ?_
  refine am_iload_n dJ3_checkIndex_8e157_5 rfl ?_
  refine am_icmp_ltT (10) 16 dJ3_checkIndex_8e157_6 rfl hn ?_
  refine am_iload_n dJ3_checkIndex_8e157_16 rfl ?_
  exact am_iret dJ3_checkIndex_8e157_17 rfl
theorem ev_J0ck {d : Nat} {h : am_H} {i n : Int32} (h0 : ¬ i < 0) (hn : i < n) : am_Ev (d + 1) mJ0_checkIndex_df160 [am_I i, am_I n] h (.inl (none, h)) := by
  refine am_Ev.mk (by decide +kernel) rfl rfl (Nat.le_refl _) (Nat.le_refl _) ?_
  change am_At _ _ _ 0 [_, _] [] _ _
  refine am_iload_n dJ0_checkIndex_df160_0 rfl ?_
  refine am_iload_n dJ0_checkIndex_df160_1 rfl ?_
  refine am_getSF dJ0_checkIndex_df160_2 fl_SIOOBE_FORMATTER (fun v hv => ?_)
  refine am_callS (c := 0) (k := 0) (n := 0) (w := 0) [_, _, _] dJ0_checkIndex_df160_5 ml_J0_1059 sm_J3_checkIndex_8e157 rfl (fun _ => Nat.le_of_ble_eq_true rfl) (by omega) rfl (ev_J3ck (d := d) (v := v) hv h0 hn) rfl ?_
  change am_At _ _ _ 8 [_, _] [_] _ _
  refine am_pop dJ0_checkIndex_df160_8 (fun _ => rfl) ?_
  exact am_vret dJ0_checkIndex_df160_9 rfl
theorem ev_coder {d : Nat} {h : am_H} {k : Nat} (hk : k < 8) : am_Ev d mJ0_coder_7d493 [.inr (1000 + k, 0)] h (.inl (some (am_I 0), h)) := by
  refine am_Ev.mk (by decide +kernel) rfl rfl (Nat.le_refl _) (Nat.le_refl _) ?_
  change am_At _ _ _ 0 [_] [] _ _
  refine am_getCS dJ0_coder_7d493_0 fl_COMPACT_STRINGS ?_
  refine am_if_eqF (10) 13 dJ0_coder_7d493_3 rfl (by decide) ?_
  refine am_aload_n dJ0_coder_7d493_6 rfl ?_
  refine am_getTc hk dJ0_coder_7d493_7 fl_coder ?_
  refine am_goto (4) 14 dJ0_coder_7d493_10 rfl ?_
  exact am_zret dJ0_coder_7d493_14 rfl rfl
theorem ev_isLatin1 {d : Nat} {h : am_H} {k : Nat} (hk : k < 8) : am_Ev d mJ0_isLatin1_aae02 [.inr (1000 + k, 0)] h (.inl (some (am_I 1), h)) := by
  refine am_Ev.mk (by decide +kernel) rfl rfl (Nat.le_refl _) (Nat.le_refl _) ?_
  change am_At _ _ _ 0 [_] [] _ _
  refine am_getCS dJ0_isLatin1_aae02_0 fl_COMPACT_STRINGS ?_
  refine am_if_eqF (14) 17 dJ0_isLatin1_aae02_3 rfl (by decide) ?_
  refine am_aload_n dJ0_isLatin1_aae02_6 rfl ?_
  refine am_getTc hk dJ0_isLatin1_aae02_7 fl_coder ?_
  refine am_if_neF (7) 17 dJ0_isLatin1_aae02_10 rfl rfl ?_
  refine am_iconst 1 (v := 1) dJ0_isLatin1_aae02_13 (by decide) ?_
  refine am_goto (4) 18 dJ0_isLatin1_aae02_14 rfl ?_
  exact am_zret dJ0_isLatin1_aae02_18 rfl rfl
theorem ev_slen {d : Nat} {h : am_H} {k : Nat} (hk : k < 8) : am_Ev (d + 3) mJ0_length_8abf5 [.inr (1000 + k, 0)] h (.inl (some (am_I (sln k)), h)) := by
  refine am_Ev.mk (by decide +kernel) rfl rfl (Nat.le_refl _) (Nat.le_refl _) ?_
  change am_At _ _ _ 0 [_] [] _ _
  refine am_aload_n dJ0_length_8abf5_0 rfl ?_
  refine am_getTv hk dJ0_length_8abf5_1 fl_value ?_
  refine am_Tlen hk dJ0_length_8abf5_4 ?_
  refine am_aload_n dJ0_length_8abf5_5 rfl ?_
  refine am_callT hk [] dJ0_length_8abf5_6 ml_J0_335 tm_J0_coder_7d493 rfl (fun _ => Nat.le_of_ble_eq_true rfl) (by omega) rfl (ev_coder (d := d) hk) rfl ?_
  change am_At _ _ _ 9 [_] [_, _] _ _
  refine am_ishr dJ0_length_8abf5_9 ?_
  refine am_At.end ?_ (am_iret dJ0_length_8abf5_10 rfl)
  have z : ∀ k, k < 8 → nI (am_Slen.getD k 0) >>> ((0 : Int32) &&& 31) = sln k := by decide +kernel
  rw [z k hk]
theorem sch_ok : ∀ k, k < 8 → ∀ j, j < am_Slen.getD k 0 → ((((am_Sbyt.getD k []).getD j 0) &&& 255).toUInt32 % 65536).toInt32 = (am_Sbyt.getD k []).getD j 0 ∧ narrow .char (.int ((am_Sbyt.getD k []).getD j 0)) = .int ((am_Sbyt.getD k []).getD j 0) := by
  decide +kernel
theorem vp_in_lt {i : Int32} {n : Nat} (h : vp_in i n) : ¬ i < 0 ∧ i.toNatClampNeg < n := by
  unfold vp_in at h
  exact ⟨fun z => h (Or.inl z), by omega⟩
theorem vp_in_ltI {i : Int32} {n : Nat} (hn : n < 2 ^ 31) (h : vp_in i n) : i < nI n := by
  obtain ⟨h0, h1⟩ := vp_in_lt h
  obtain ⟨j, hj, rfl⟩ := nI_of h0
  rw [nI_clamp hj] at h1
  exact nI_lt h1 hn
theorem ev_J1ch {d : Nat} {h : am_H} {k : Nat} (hk : k < 8) {i : Int32} (hi : vp_in i (am_Slen.getD k 0)) : am_Ev (d + 2) mJ1_charAt_3b067 [.inr (2000 + k, 0), am_I i] h (.inl (some (am_I (sch k i)), h)) := by
  have hb : am_Slen.getD k 0 < 2 ^ 31 := (by decide +kernel : ∀ k, k < 8 → am_Slen.getD k 0 < 2 ^ 31) k hk
  refine am_Ev.mk (by decide +kernel) rfl rfl (Nat.le_refl _) (Nat.le_refl _) ?_
  change am_At _ _ _ 0 [_, _] [] _ _
  refine am_iload_n dJ1_charAt_3b067_0 rfl ?_
  refine am_aload_n dJ1_charAt_3b067_1 rfl ?_
  refine am_Tlen hk dJ1_charAt_3b067_2 ?_
  refine am_callS (c := 0) (k := 0) (n := 0) (w := 0) [_, _] dJ1_charAt_3b067_3 ml_J1_9 sm_J0_checkIndex_df160 rfl (fun _ => Nat.le_of_ble_eq_true rfl) (by omega) rfl (ev_J0ck (d := d) (vp_in_lt hi).1 (vp_in_ltI hb hi)) rfl ?_
  change am_At _ _ _ 6 [_, _] [] _ _
  refine am_aload_n dJ1_charAt_3b067_6 rfl ?_
  refine am_iload_n dJ1_charAt_3b067_7 rfl ?_
  refine am_Tld hk hi dJ1_charAt_3b067_8 ?_
  refine am_sipush 255 (v := 255) dJ1_charAt_3b067_9 (by decide) ?_
  refine am_iand dJ1_charAt_3b067_12 ?_
  refine am_i2c dJ1_charAt_3b067_13 ?_
  obtain ⟨z1, z2⟩ := sch_ok k hk _ (vp_in_lt hi).2
  rw [z1]
  exact am_zret dJ1_charAt_3b067_14 rfl z2
theorem ev_schar {d : Nat} {h : am_H} {k : Nat} (hk : k < 8) {i : Int32} (hi : vp_in i (am_Slen.getD k 0)) : am_Ev (d + 3) mJ0_charAt_5068e [.inr (1000 + k, 0), am_I i] h (.inl (some (am_I (sch k i)), h)) := by
  refine am_Ev.mk (by decide +kernel) rfl rfl (Nat.le_refl _) (Nat.le_refl _) ?_
  change am_At _ _ _ 0 [_, _] [] _ _
  refine am_aload_n dJ0_charAt_5068e_0 rfl ?_
  refine am_callT hk [] dJ0_charAt_5068e_1 ml_J0_492 tm_J0_isLatin1_aae02 rfl (fun _ => Nat.le_of_ble_eq_true rfl) (by omega) rfl (ev_isLatin1 (d := d) hk) rfl ?_
  change am_At _ _ _ 4 [_, _] [_] _ _
  refine am_if_eqF (12) 16 dJ0_charAt_5068e_4 rfl (by decide) ?_
  refine am_aload_n dJ0_charAt_5068e_7 rfl ?_
  refine am_getTv hk dJ0_charAt_5068e_8 fl_value ?_
  refine am_iload_n dJ0_charAt_5068e_11 rfl ?_
  refine am_callS (c := 0) (k := 0) (n := 0) (w := 0) [_, _] dJ0_charAt_5068e_12 ml_J0_495 sm_J1_charAt_3b067 rfl (fun _ => Nat.le_of_ble_eq_true rfl) (by omega) rfl (ev_J1ch (d := d) hk hi) rfl ?_
  change am_At _ _ _ 15 [_, _] [_] _ _
  exact am_zret dJ0_charAt_5068e_15 rfl (sch_ok k hk _ (vp_in_lt hi).2).2
set_option maxRecDepth 20000 in
theorem thr_fit {X : am_X} {d : Nat} {L : List (Option am_V)} {h : am_H} : am_At X d mX11_needFit 20 L [] h (.inr ("java/lang/IllegalArgumentException", h)) :=
  am_throw (st := []) (k9 := 7) (text := "out of its range") (names := ["java/lang/RuntimeException", "java/lang/Exception"]) dX11_needFit_20 dX11_needFit_23 dX11_needFit_24 dX11_needFit_27 dX11_needFit_30 (by decide +kernel) (by decide +kernel) (by decide) (am_in 3 75 (by decide +kernel) rfl) (am_in 1 19 (by decide +kernel) rfl) (by decide) (by decide +kernel) (by decide +kernel) (by decide +kernel)
def vx_ownX (own : String) (ic : Nat) (X : String) (ix : Nat) (rx : ByteArray) (n : String) (ns : List String) : List Jvm.Cond :=
  Bundle.throwableAtoms ++ Bundle.throwableSAtoms ++ (Bundle.passSAtoms X n ix rx ++ Bundle.chainSAtoms n ns) ++
    [.methodLink own ic (Bundle.initS X), .instantiable X 6, .castable X X, .selects X Bundle.tFill0 Bundle.tFill0, .selects X Bundle.tFill Bundle.tFill,
      .lays X Bundle.tN "cause" "Ljava/lang/Throwable;", .lays X Bundle.tN "stackTrace" Bundle.steD, .lays X Bundle.tN "suppressedExceptions" Bundle.listD, .lays X Bundle.tN "detailMessage" "Ljava/lang/String;",
      .isRef (.static Bundle.tN "UNASSIGNED_STACK" Bundle.steD), .isRef (.static Bundle.tN "SUPPRESSED_SENTINEL" Bundle.listD), .fieldLink Bundle.tN 198 Bundle.tN "backtrace" "Ljava/lang/Object;", .lays Bundle.tN Bundle.tN "backtrace" "Ljava/lang/Object;", .lays X Bundle.tN "backtrace" "Ljava/lang/Object;"]
theorem vx_ctorX {p : Program} {l : Launch} {e : Env} {R : Room} {s : State} {m₀ : MethodId} {args : Array Value} {below : List Frame} {meth : Method} {c : Code} {W : State} {locs : List Loc} {cells slots : Nat} (X : Stand p l e R s m₀ args below meth c W locs cells slots) (hexec : p.tables.exec = exec) (htr : e.platform.stackTraces = false)
    {own cls n : String} {ns : List String} {ic ix : Nat} {rx : ByteArray} (r0 : decode rx 0 = .ok (.aload_n 0, 1)) (r1 : decode rx 1 = .ok (.aload_n 1, 1)) (r2 : decode rx 2 = .ok (.invokespecial ix, 3)) (r5 : decode rx 5 = .ok (.return_, 1)) (hown : s.vm.findClass own = some m₀.cls) (hcls : Bundle.fit cls = true) (hnames : ∀ x ∈ n :: ns, Bundle.fit x = true)
    (h : ∀ a ∈ vx_ownX own ic cls ix rx n ns, a.before args s = true) (hlocs : ∀ x ∈ locs, ∀ cell : Cell, s.heap[x.base]? = some cell → cell.vm.isStatics = false) {a : Addr} {cX : ClassId} {kX : Class} (hfoundX : s.vm.findClass cls = some cX) (hkX : s.vm.classes[cX]? = some kX) (hcell : W.heap[a]? = some (freshCell cX kX)) (hnew : s.heap.size ≤ a)
    {msg : Value} (hmsg : msg.isRef = true) {g : JFrame} (hg : g.method = m₀) (hsize : g.locals.size = c.maxLocals) (hlocked : g.locked = none) (hentered : g.entered = []) {rest : List Value} (hstack : g.stack = msg :: .ref a :: .ref a :: rest) (hd6 : decode c.code g.pc = .ok (.invokespecial ic, 3)) (hd9 : decode c.code (g.pc + 3) = .ok (.athrow, 1))
    (hout : ∀ x ∈ c.exceptionTable.toList, covers x (g.pc + 3) = false) (hRframes : (n :: ns).length + 3 < R.frames) (hRlocals : 2 * g.monitorRoom + ((Value.ref a :: rest).map fun v => v.category).sum + (13 * ((n :: ns).length + 1) + 42) ≤ R.locals) (hlocks : meth.locks = false) :
    ∃ U : State, Steps p.tables e below (W.setTop g) U ∧ U.status = .running ∧ Ended U below (.threw a) ∧ s.WarmedH U.vm ∧ s.sameButNew ({ U with vm := s.vm } : State) locs cells slots ∧ ∃ ce : Cell, U.heap[a]? = some ce ∧ ce.cls = cX ∧ ce.vm = .none := by
  have howns : e.platform.frameOwnsMonitors = true := by rw [X.admits.platform]
  have hfin : e.platform.finalization = false := by rw [X.admits.platform]
  have hpl : e.platform.magicAccessors = ({} : Platform).magicAccessors := by rw [X.admits.platform]
  obtain ⟨T, Z0, L, -, Y⟩ := ThrowableC.of_atoms howns hfin hpl (fun x hx => h x (by simp [vx_ownX, hx]))
  obtain ⟨Z, M, LZ, LM, hnZ⟩ := Init0T.ofS_atoms hpl L Y (fun x hx => h x (by simp [vx_ownX, hx]))
  obtain ⟨P1, L1, hP1m, hP1s⟩ := PassC.ofS_atoms hpl (X := cls) (Y := n) (Bundle.fit_spec hcls).1 (Bundle.fit_spec (hnames n List.mem_cons_self)).2 r0 r1 r2 r5 (fun x hx => h x (by simp [vx_ownX, hx]))
  obtain ⟨P2, Qs, hlen2, L2, hL2, hP2m, hlink2, hlinks⟩ := Bundle.chainS hpl hnZ ns n (hnames n List.mem_cons_self) (fun x hx => hnames x (List.mem_cons_of_mem _ hx)) (fun x hx => h x (by simp [vx_ownX, hx]))
  have hlink1 : P1.sup = P2.m := Option.some.inj (hP1s.symm.trans hP2m)
  have hlen : (P2 :: Qs).length = (n :: ns).length := by simp only [List.length_cons]; omega
  obtain ⟨c1, kX', hc1, hk, hord, -, -, hn6⟩ := Cond.instantiable_spec (h (.instantiable cls 6) (by simp [vx_ownX]))
  have e1 : c1 = cX := Option.some.inj (hc1.symm.trans hfoundX)
  subst e1
  have e2 : kX' = kX := Option.some.inj (hk.symm.trans hkX)
  subst e2
  have hsel : ∀ {y : MethodName} {m : MethodId}, s.methodNamed? y = some m → y.cls = Bundle.tN → Cond.selects cls y y ∈ vx_ownX own ic cls ix rx n ns → selectMethod e.platform s.vm c1 m = .method m := by
    intro y m hy hyc hm
    obtain ⟨c2, r2, m2, q1, q2, q3, q4, -⟩ := Cond.selects_spec (h _ hm)
    have z1 : c2 = c1 := Option.some.inj (q1.symm.trans hc1)
    have z2 : r2 = m := Option.some.inj (q2.symm.trans (State.methodFound?_of_named hy (by rw [hyc]; decide)))
    have z3 : m2 = m := Option.some.inj (q3.symm.trans hy)
    subst z1; subst z2; subst z3
    rw [Launch.admits_selectMethod X.admits]
    exact q4
  have hsel0 := hsel Y.fill0 rfl (by simp [vx_ownX])
  have hselF := hsel Y.fill rfl (by simp [vx_ownX])
  obtain ⟨cellS0, hcS0, hiss⟩ := Y.statics
  obtain ⟨u0, hu0⟩ := Cond.staticRefV Y.unassigned L.unassignedStatic L.statics hcS0 hiss (h (.isRef (.static Bundle.tN "UNASSIGNED_STACK" Bundle.steD)) (by simp [vx_ownX]))
  obtain ⟨sen, hsen⟩ := Cond.staticRefV Y.sentinel L.sentinelStatic L.statics hcS0 hiss (h (.isRef (.static Bundle.tN "SUPPRESSED_SENTINEL" Bundle.listD)) (by simp [vx_ownX]))
  obtain ⟨ci198, i198, fB, hk198, hg198, ha198, hsB, -, hnB, htB, hffB⟩ := Cond.ownField Y.found L.cls (show parseFieldDescriptor "Ljava/lang/Object;" = some (.object "java/lang/Object") by decide) (h (.fieldLink Bundle.tN 198 Bundle.tN "backtrace" "Ljava/lang/Object;") (by simp [vx_ownX])) (h (.lays Bundle.tN Bundle.tN "backtrace" "Ljava/lang/Object;") (by simp [vx_ownX])) e.platform hpl
  obtain ⟨cellS, hcS', heS, hx9, hkeep⟩ := X.same.2.2.2.2.2 T.aS cellS0 hcS0
  have hout' : ∀ i, (⟨T.aS, i⟩ : Loc) ∉ locs := fun i hmem => by
    have := hlocs ⟨T.aS, i⟩ hmem cellS0 hcS0
    rw [hiss] at this
    cases this
  have hneS : T.aS ≠ a := Nat.ne_of_lt (Nat.lt_of_lt_of_le (Array.getElem?_eq_some_iff.mp hcS0).1 hnew)
  obtain ⟨iM, hffM⟩ := Y.msg
  obtain ⟨tc, dc, hdc, hnc⟩ := Cond.laysAt hc1 hk Y.cause (h (.lays cls Bundle.tN "cause" "Ljava/lang/Throwable;") (by simp [vx_ownX]))
  obtain ⟨ts, ds, hds, hns⟩ := Cond.laysAt hc1 hk Y.stack (h (.lays cls Bundle.tN "stackTrace" Bundle.steD) (by simp [vx_ownX]))
  obtain ⟨tp, dp, hdp, hnp⟩ := Cond.laysAt hc1 hk Y.supp (h (.lays cls Bundle.tN "suppressedExceptions" Bundle.listD) (by simp [vx_ownX]))
  obtain ⟨tm, dm, hdm, hnm⟩ := Cond.laysAt hc1 hk hffM (h (.lays cls Bundle.tN "detailMessage" "Ljava/lang/String;") (by simp [vx_ownX]))
  obtain ⟨tb, db, hdb, hnb⟩ := Cond.laysAt hc1 hk hffB (h (.lays cls Bundle.tN "backtrace" "Ljava/lang/Object;") (by simp [vx_ownX]))
  have hcB : fB.slot ≠ T.fCause.slot := Cond.laysApart hdb hdc hnb hnc (by rw [hnB, Y.causeName]; decide)
  have hsB' : fB.slot ≠ T.fStack.slot := Cond.laysApart hdb hds hnb hns (by rw [hnB, Y.stackName]; decide)
  have hpB : fB.slot ≠ T.fSupp.slot := Cond.laysApart hdb hdp hnb hnp (by rw [hnB, Y.suppName]; decide)
  obtain ⟨tm1, meth1, cd1, k1, vm', n1, n2, n3, n4, n5, n6, n7, n8, hW1, st1⟩ := Steps.initColdS X.here hexec X.warmed hpl hown (t := Bundle.initS cls) rfl rfl (Bundle.fit_spec hcls).2 (idx := ic) (args := args) (bytes := rx) (maxL := 2) (h (.methodLink own ic (Bundle.initS cls)) (by simp [vx_ownX])) (h (.instanceMethod (Bundle.initS cls)) (by simp [vx_ownX, Bundle.passSAtoms])) (h (.code (Bundle.initS cls) rx 2 none) (by simp [vx_ownX, Bundle.passSAtoms])) (f := g) hg (a := a) (msg := msg) (rest := .ref a :: rest) hstack hd6
  have etm : tm1 = P1.m := Option.some.inj (n1.symm.trans hP1m)
  subst etm
  have X1 := X.noted hW1
  have hu0' : cellS.slots[T.fUnassigned.slot]? = some u0.v := by rw [← hu0]; exact hkeep _ (hout' _)
  have hsen' : cellS.slots[T.fSentinel.slot]? = some sen.v := by rw [← hsen]; exact hkeep _ (hout' _)
  have hvS : cellS.vm ≠ VmData.unknown := by
    intro z
    rw [heS] at z
    rw [z] at hiss
    cases hiss
  have hback : ((preparedCellV T.toThrowableT (freshCell c1 kX') a u0 sen).withEntry (W.setVm vm').cur).slots[fB.slot]? = some Value.null := by
    show (preparedCellV T.toThrowableT (freshCell c1 kX') a u0 sen).slots[fB.slot]? = some Value.null
    unfold preparedCellV Cell.setSlot
    simp only [Array.getElem?_setIfInBounds_ne (Ne.symm hcB), Array.getElem?_setIfInBounds_ne (Ne.symm hsB'), Array.getElem?_setIfInBounds_ne (Ne.symm hpB)]
    show (Array.map defaultValue kX'.instanceTypes)[fB.slot]? = _
    rw [Array.getElem?_map, tb, htB]
    rfl
  obtain ⟨vm2, X2, st2⟩ := X1.ctorMessageOffV hexec (g := { g with stack := .ref a :: rest }) hg hsize T L Z LZ M LM (P1 :: P2 :: Qs) (by
      intro P hP
      rcases List.mem_cons.mp hP with rfl | hP
      · exact L1
      · rcases List.mem_cons.mp hP with rfl | hP
        · exact L2
        · exact hL2 P hP) ⟨hlink1, hlink2, hlinks⟩ (u0 := u0) (sen := sen) (self := a) (msg := msg) hmsg (cell := freshCell c1 kX') (cellS := cellS) hcell (fun k z => by cases z) (fun z => by cases z) rfl rfl hsel0 hselF hcS' hneS hvS hu0' hsen'
      (Takes.of_laid hk hord tc (by rw [Y.causeType]; rfl)) (Takes.of_laid hk hord ts (by rw [Y.stackType]; exact fits_refV_array _ u0)) (Takes.of_laid hk hord tp (by rw [Y.suppType]; exact fits_refV_object _ sen)) (Takes.of_laid hk hord tm (by rw [Y.msgType]; exact fits_refV_object _ ⟨msg, hmsg⟩)) Y.objLocals ⟨⟨ci198, i198, fB⟩, ⟨hk198, hg198, ha198, hsB⟩, hback, fun _ _ => rfl⟩ htr (ig := .invokespecial ic) (len := 3) [] hd6 (by simp only [List.length_cons] at hlen hRframes hRlocals ⊢; omega) (by simp only [List.length_cons] at hlen hRframes hRlocals ⊢; omega)
  obtain ⟨f1, f2, f3, f4, f5⟩ := X2.athrowLeaves hexec (g := { g with pc := g.pc + 3, stack := .ref a :: rest }) hg hlocked hentered hout (a := a) (rest := rest) rfl hd9 hlocks
  have hlt : a < (W.setVm vm').heap.size := (Array.getElem?_eq_some_iff.mp hcell).1
  refine ⟨_, ?_, f2, f3, f4, ?_, plainBareV T.toThrowableT (freshCell c1 kX') a u0 sen msg, ?_, ?_, ?_⟩
  · refine st1 _ (fun acts => ?_)
    rw [doInvoke_state]
    exact st2 _ f1
  · refine State.sameButNew.weaken f5 (fun x hx hb => ?_) (Nat.le_refl _) (Nat.le_refl _)
    rcases List.mem_append.mp hx with hx | hx
    · exact hx
    · simp only [List.mem_cons, List.not_mem_nil, or_false] at hx
      rcases hx with rfl | rfl | rfl | rfl | rfl <;> exact absurd hb (Nat.not_lt.mpr hnew)
  · exact heapAt_setCell_self _ hlt
  · rfl
  · rfl
def vx_atX (own : String) (ic : Nat) (X : String) (ix : Nat) (rx : ByteArray) (n : String) (ns : List String) : List Cond := (vx_ownX own ic X ix rx n ns).filter vx_no
theorem vx_throwX {p : Program} {l : Launch} {e : Env} {R : Room} {s : State} {m : MethodId} {args : Array Value} {below : List Frame} {meth : Method} {c : Code} {H : Heap} {locs : List Loc} {cells slots : Nat} {ls : Array Slot} {rest : List Value} {Qc : Array Value → State → Outcome → State → Prop} {XC : String → State → State → Prop} {free : Addr → Prop} {cc : ByteArray} {pc : Nat} (hexec : p.tables.exec = Jvm.exec) (hb : c.code = cc) (hl : l.stackTraces = false) {own cls text : String} {n : String} {ns : List String} {ik is ic mc ms sa ix : Nat} {rx : ByteArray} (r0 : decode rx 0 = .ok (.aload_n 0, 1)) (r1 : decode rx 1 = .ok (.aload_n 1, 1)) (r2 : decode rx 2 = .ok (.invokespecial ix, 3)) (r5 : decode rx 5 = .ok (.return_, 1)) {A : Nat → Prop}
    (hown : s.vm.findClass own = some m.cls) (hcls : Bundle.fit cls = true) (hnames : ∀ x ∈ n :: ns, Bundle.fit x = true)
    (hk : (Cond.classLink own ik cls).before args s = true) (hini : (Cond.initialized cls).before args s = true) (hstr : vk_R own is text sa s) (hat : ∀ w ∈ vx_atX own ic cls ix rx n ns, w.before args s = true)
    (hgood : ∀ w ∈ Cond.classLink own ik cls :: Cond.initialized cls :: vx_atX own ic cls ix rx n ns, vx_ot w = true)
    (hU : vx_Zq Bundle.tN "UNASSIGNED_STACK" Bundle.steD A s s.heap) (hN : vx_Zq Bundle.tN "SUPPRESSED_SENTINEL" Bundle.listD A s s.heap) (hS : va_S A s.heap H locs) (hsize : ls.size = c.maxLocals)
    (d0 : decode cc pc = .ok (.new ik, 3)) (d3 : decode cc (pc + 3) = .ok (.dup, 1)) (d4 : decode cc (pc + 4) = .ok (.ldc_w is, 3)) (d7 : decode cc (pc + 7) = .ok (.invokespecial ic, 3)) (d10 : decode cc (pc + 10) = .ok (.athrow, 1))
    (hout : ∀ x ∈ c.exceptionTable.toList, covers x (pc + 10) = false)
    (hRframes : (n :: ns).length + 3 < R.frames) (hRlocals : (rest.map fun v => v.category).sum + (13 * ((n :: ns).length + 1) + 43) ≤ R.locals) (hRcells : cells + 1 ≤ R.cells) (hRslots : slots + 6 ≤ R.slots) (hlocks : meth.locks = false)
    (hx : ∀ t : State, s.vm.Alike t.vm → H.size ≤ t.heap.size → (∀ q : Nat, q < H.size → t.heap[q]? = H[q]?) → XC cls s t)
    (hf : ∀ z ∈ locs, free z.base) (hc : cells + 1 ≤ mc) (hs : slots + 6 ≤ ms) :
    W p l e R s m args below meth c H locs cells slots (vx_MQ below Qc XC args s mc ms free) (F0 m pc ls rest) := by
  intro T hT X
  have htr : e.platform.stackTraces = false := (show e.platform.stackTraces = l.stackTraces by rw [X.admits.platform]).trans hl
  have Y := vx_rebase X (R' := { frames := R.frames, locals := R.locals, cells := 1, slots := 6 }) (Nat.le_refl _) (Nat.le_refl _) hRcells hRslots
  obtain ⟨s', hA⟩ : ∃ z, z = (T.setVm s.vm).setFrames (.invoking m args :: below) := ⟨_, rfl⟩
  rw [← hA] at Y
  have hvm : s'.vm = s.vm := by rw [hA]; rfl
  have hhp : s'.heap = H := by rw [hA]; exact hT
  have hW0 : s.WarmedH s'.vm := by rw [hvm]; exact State.WarmedH.refl s
  have hat' : ∀ w ∈ vx_atX own ic cls ix rx n ns, w.before args s' = true := fun w hw => vx_ot_at hW0 hvm.symm (hgood w (List.mem_cons_of_mem _ (List.mem_cons_of_mem _ hw))) (hat w hw)
  have hk' : (Cond.classLink own ik cls).before args s' = true := vx_ot_at hW0 hvm.symm (hgood _ List.mem_cons_self) hk
  have hini' : (Cond.initialized cls).before args s' = true := vx_ot_at hW0 hvm.symm (hgood _ (List.mem_cons_of_mem _ List.mem_cons_self)) hini
  have hU' : vx_Zq Bundle.tN "UNASSIGNED_STACK" Bundle.steD A s' s'.heap := by rw [hhp]; exact vx_Zq.moved hW0.alike (hU.kept hS.2.1)
  have hN' : vx_Zq Bundle.tN "SUPPRESSED_SENTINEL" Bundle.listD A s' s'.heap := by rw [hhp]; exact vx_Zq.moved hW0.alike (hN.kept hS.2.1)
  have h : ∀ w ∈ vx_ownX own ic cls ix rx n ns, w.before args s' = true := vx_own hat' (vx_isRefq hU'.1) (vx_isRefq hN'.1) hU'.2.word hN'.2.word
  have hown' : s'.vm.findClass own = some m.cls := by rw [hvm]; exact hown
  have hins : (Cond.instantiable cls 6).before args s' = true := h _ (by simp [vx_ownX])
  obtain ⟨vm₁, cX, kX, hfX, hkX, -, -, X₁, st1⟩ := Y.newCold hexec (own := own) (C := cls) (index := ik) (n := 6) hown' hk' hins hini'
    (g := F0 m pc ls rest) rfl (by rw [hb]; exact d0) (Nat.le_refl _) (Nat.le_refl _)
  generalize hT1 : (T.setVm vm₁).pushCell { cls := cX, slots := kX.instanceTypes.map defaultValue, vm := .none } = T1 at X₁ st1
  have hcat : (Value.ref T.heap.size).category = 1 := rfl
  have hcellA : T1.heap[T.heap.size]? = some (freshCell cX kX) := by rw [← hT1]; exact State.heap_pushCell_size _ _
  have d3' : decode c.code (pc + 3) = .ok (.dup, 1) := by rw [hb]; exact d3
  have d4' : decode c.code (pc + 4) = .ok (.ldc_w is, 3) := by rw [hb]; exact d4
  have hstr' : vk_R own is text sa s' := vk_R.warm hW0 hstr
  obtain ⟨U, hsteps, hrun, hend, hW, hsame, ce, hce, hO1, hO2⟩ := vx_ctorX X₁ hexec htr r0 r1 r2 r5 (own := own) (cls := cls) (n := n) (ns := ns) (ic := ic) hown' hcls hnames h (fun x hx => nomatch hx) hfX hkX hcellA (by rw [hhp, hT]; exact Nat.le_refl _) (msg := .ref sa) rfl
    (g := { method := m, pc := pc + 7, locals := ls, stack := .ref sa :: .ref T.heap.size :: .ref T.heap.size :: rest, locked := none }) rfl hsize rfl rfl (rest := rest) rfl
    (by rw [hb]; exact d7) (by rw [hb]; exact d10) hout hRframes (by simp only [List.map_cons, List.sum_cons, hcat]; omega) hlocks
  obtain ⟨f1, f2⟩ := vx_frame hsame
  rw [hhp] at f1 f2
  have hWs : s.WarmedH U.vm := State.WarmedH.trans hW0 hW
  have hcl : s.vm.findClass cls = some ce.cls := by
    rw [hO1, ← hvm]
    exact hfX
  have hall : s.sameButNew ({ U with vm := s.vm } : State) locs mc ms := by
    subst hA
    obtain ⟨e1, e2⟩ := hsame
    rw [State.setFrames_setFrames] at e1
    have h2 : (T.setVm s.vm).sameButNew ({ U with vm := s.vm } : State) [] (0 + 1) (0 + 6) := ⟨e1, e2⟩
    have h3 := X.same.trans h2
    rw [List.append_nil] at h3
    exact h3.mono hc hs
  refine ⟨U, ?_, .threw T.heap.size, hrun, hend, Or.inr ⟨T.heap.size, rfl, cls, ce, locs, hx U hWs.alike f1 (fun q hq => f2 q hq (fun z hz => nomatch hz)), hce, hO2, hcl, hWs, hall, hf⟩⟩
  refine st1 _ ?_
  show Steps p.tables e below (T1.setTop { method := m, pc := pc + 3, locals := ls, stack := .ref T.heap.size :: rest, locked := none }) _
  jvm_step X₁.here [X₁.here.top, hexec, d3', Value.category]
  exact X₁.ldcStringW hexec (own := own) (text := text) (index := is) (a := sa) hown' hstr'.1 hstr'.2
    (g := { method := m, pc := pc + 4, locals := ls, stack := .ref T.heap.size :: .ref T.heap.size :: rest, locked := none }) rfl d4' _ hsteps
theorem am_throwX {X : am_X} {d : Nat} {mt : am_M} {pc : Nat} {L : List (Option am_V)} {h : am_H} {ik is ic k9 ix : Nat} {rx : ByteArray} (r0 : decode rx 0 = .ok (.aload_n 0, 1)) (r1 : decode rx 1 = .ok (.aload_n 1, 1)) (r2 : decode rx 2 = .ok (.invokespecial ix, 3)) (r5 : decode rx 5 = .ok (.return_, 1)) {Ex text : String} {n : String} {ns : List String} (d0 : decode mt.2.1 pc = .ok (.new ik, 3)) (d3 : decode mt.2.1 (pc + 3) = .ok (.dup, 1)) (d4 : decode mt.2.1 (pc + 4) = .ok (.ldc_w is, 3)) (d7 : decode mt.2.1 (pc + 7) = .ok (.invokespecial ic, 3)) (d10 : decode mt.2.1 (pc + 10) = .ok (.athrow, 1))
    (hcls : Bundle.fit Ex = true) (hnames : ∀ x ∈ n :: ns, Bundle.fit x = true) (hnl : (n :: ns).length ≤ 3) (hk : Cond.classLink mt.1.cls ik Ex ∈ am_ws) (hini : Cond.initialized Ex ∈ am_ws) (hq : (mt.1.cls, is, text, k9) ∈ am_Srefs)
    (hg1 : ∀ w ∈ (vx_atX mt.1.cls ic Ex ix rx n ns).filter goodWord, w ∈ am_ws) (hg2 : ∀ w ∈ (vx_atX mt.1.cls ic Ex ix rx n ns).filter (fun w => !goodWord w), w ∈ am_nw ∧ w.onTables = true) (hgood : ∀ w ∈ Cond.classLink mt.1.cls ik Ex :: Cond.initialized Ex :: vx_atX mt.1.cls ic Ex ix rx n ns, vx_ot w = true) :
    am_At X d mt pc L [] h (.inr (Ex, h)) := by
  intro p l e R s m args below meth c0 H locs cells slots mc ms ls D cy A ad Q hC hX hP hD hS hL h1 h2 z1 z2 hQ
  obtain ⟨hx, htr, hb, hml, hown, hr, hlk, hnm, hex, hts, hG, hA, hRc, hRs, hRf, hRl⟩ := id hC
  have h1 : cells + (am_nc h + 1) ≤ mc + am_nc h := h1
  have h2 : slots + (am_ns h + 6) ≤ ms + am_ns h := h2
  have hat : ∀ w ∈ vx_atX mt.1.cls ic Ex ix rx n ns, w.before args s = true := vx_hat (B := (vx_atX mt.1.cls ic Ex ix rx n ns).filter (fun w => !goodWord w)) (fun w hw => hts w (hg1 w hw)) (fun w hw => hw) (fun w hw => va_Nw.use (hg2 w hw).2 (hG.2.1 w (hg2 w hw).1))
  exact am_mono (vx_throwX (XC := am_XC (.inr (Ex, h)) D cy A ad h) hx hb htr r0 r1 r2 r5 hown hcls hnames (hts _ hk) (hts _ hini) (hG.2.2.2.2.2.1 _ hq) hat hgood hG.2.2.1 hG.2.2.2.1 hS (hL.1.trans hml.symm) d0 d3 d4 d7 d10 (fun x hx9 => (hex x hx9).elim) (by omega) (am_arith2 hnl hRl) (by omega) (by omega) hlk
    (fun t hal hz hk9 => ⟨⟨h, ad, rfl, am_ag.rf rfl, fun c r k n w ho => (hP c r k n w ho).kept (hk9 _ (hP c r k n w ho).lt), hD⟩, ⟨Nat.le_trans hS.1 hz, fun q q1 q2 => (hk9 q (Nat.lt_of_lt_of_le q1 hS.1)).trans (hS.2.1 q q1 q2)⟩⟩) hS.2.2 (by omega) (by omega)) hQ
set_option maxRecDepth 20000 in
theorem thr_there {X : am_X} {d : Nat} {L : List (Option am_V)} {h : am_H} : am_At X d mX11_needThere 19 L [] h (.inr ("java/util/NoSuchElementException", h)) :=
  am_throwX (k9 := 6) (ix := 13) (rx := prog_31_method_4_code) (text := "there is no such one") (n := "java/lang/RuntimeException") (ns := ["java/lang/Exception"]) (by decide +kernel) (by decide +kernel) (by decide +kernel) (by decide +kernel) dX11_needThere_19 dX11_needThere_22 dX11_needThere_23 dX11_needThere_26 dX11_needThere_29 (by decide +kernel) (by decide +kernel) (by decide) (am_in 5 53 (by decide +kernel) rfl) (am_in 1 26 (by decide +kernel) rfl) (by decide) (by decide +kernel) (by decide +kernel) (by decide +kernel)
