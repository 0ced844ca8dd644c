/-! THE LAW'S LOOP -/
theorem lw_cmp {n k : Nat} (hn : n ≤ 3072) (hk : 6 * k ≤ 3072) : (nI n - 6 < nI (6 * k)) ↔ n < 6 * k + 6 := by
  rw [Int32.lt_iff_toInt_lt, Int32.toInt_sub, nI_toInt (by omega), nI_toInt (by omega), show (6 : Int32).toInt = 6 from rfl]
  rw [Int.bmod_eq_of_le (by omega) (by omega)]
  omega
theorem lw_rd {n q : Nat} (hn : n ≤ 3072) (hq : q < n) : rdI n (nI q) q := ⟨nI_clamp (by omega), nI_pos (by omega), hq⟩
theorem lw_Rd {n b : Nat} (hn : n ≤ 3072) (hb : b + 6 ≤ n) : Rd n b (nI b) := by
  have h1 : nI b + 1 = nI (b + 1) := nI_add b 1
  have h2 : nI b + 2 = nI (b + 2) := nI_add b 2
  have h3 : nI b + 3 = nI (b + 3) := nI_add b 3
  have h4 : nI b + 4 = nI (b + 4) := nI_add b 4
  have h5 : nI b + 5 = nI (b + 5) := nI_add b 5
  unfold Rd
  rw [h1, h2, h3, h4, h5]
  exact ⟨lw_rd hn (by omega), lw_rd hn (by omega), lw_rd hn (by omega), lw_rd hn (by omega), lw_rd hn (by omega)⟩
theorem law_sw {n b : Nat} {scr : Nat → Int32} {i : Int32} {r r' : Nat × Nat} {qc qd qs qn : Nat} {h : am_H} {M : Mem} (hR : Rd n b i) (g : LH qc qd qs qn h) (hI : INV qc qd qs qn M) (hr1 : r'.1 + 1 ≤ r.1) (hr2 : r'.2 + 6 ≤ r.2) (hr3 : ncS 83 ≤ r'.1) (hr4 : nsS 83 ≤ r'.2) (K : ∀ (qc qd qs qn : Nat) (h : am_H) (M : Mem), LH qc qd qs qn h → INV qc qd qs qn M → am_AtG [] lawPo (am_XS n scr) 202 mLW 2467 (lwL i none none) [] (am_hM h M) r') (sw : Int32) : am_AtG [] lawPo (am_XS n scr) 202 mLW 40 (lwL i none none) [am_I sw] (am_hM h M) r := by
  by_cases hz : sw.toInt < 0 ∨ 38 < sw.toInt
  · refine gm_tabOut 2467 dL_law__40 hz rfl ?_
    exact am_AtG.less (r' := r') (by omega) (by omega) (by rw [LH.nc g]; exact hr3) (by rw [LH.ns g]; exact hr4) (K _ _ _ _ _ _ g hI)
  · have hz1 : sw.toInt = 0 ∨ sw.toInt = 1 ∨ sw.toInt = 2 ∨ sw.toInt = 3 ∨ sw.toInt = 4 ∨ sw.toInt = 5 ∨ sw.toInt = 6 ∨ sw.toInt = 7 ∨ sw.toInt = 8 ∨ sw.toInt = 9 ∨ sw.toInt = 10 ∨ sw.toInt = 11 ∨ sw.toInt = 12 ∨ sw.toInt = 13 ∨ sw.toInt = 14 ∨ sw.toInt = 15 ∨ sw.toInt = 16 ∨ sw.toInt = 17 ∨ sw.toInt = 18 ∨ sw.toInt = 19 ∨ sw.toInt = 20 ∨ sw.toInt = 21 ∨ sw.toInt = 22 ∨ sw.toInt = 23 ∨ sw.toInt = 24 ∨ sw.toInt = 25 ∨ sw.toInt = 26 ∨ sw.toInt = 27 ∨ sw.toInt = 28 ∨ sw.toInt = 29 ∨ sw.toInt = 30 ∨ sw.toInt = 31 ∨ sw.toInt = 32 ∨ sw.toInt = 33 ∨ sw.toInt = 34 ∨ sw.toInt = 35 ∨ sw.toInt = 36 ∨ sw.toInt = 37 ∨ sw.toInt = 38 := by omega
    rcases hz1 with hj | hj | hj | hj | hj | hj | hj | hj | hj | hj | hj | hj | hj | hj | hj | hj | hj | hj | hj | hj | hj | hj | hj | hj | hj | hj | hj | hj | hj | hj | hj | hj | hj | hj | hj | hj | hj | hj | hj
    · exact gm_tabIn 172 212 dL_law__40 (by omega) (by omega) (by rw [hj]; rfl) rfl (cs_feed hR g hI hr1 hr2 hr3 hr4 K)
    · exact gm_tabIn 245 285 dL_law__40 (by omega) (by omega) (by rw [hj]; rfl) rfl (cs_river hR g hI hr1 hr2 hr3 hr4 K)
    · exact gm_tabIn 301 341 dL_law__40 (by omega) (by omega) (by rw [hj]; rfl) rfl (cs_law hR g hI hr1 hr2 hr3 hr4 K)
    · exact gm_tabIn 357 397 dL_law__40 (by omega) (by omega) (by rw [hj]; rfl) rfl (cs_work hR g hI hr1 hr2 hr3 hr4 K)
    · exact gm_tabIn 413 453 dL_law__40 (by omega) (by omega) (by rw [hj]; rfl) rfl (cs_book hR g hI hr1 hr2 hr3 hr4 K)
    · exact gm_tabIn 469 509 dL_law__40 (by omega) (by omega) (by rw [hj]; rfl) rfl (cs_fault hR g hI hr1 hr2 hr3 hr4 K)
    · exact gm_tabIn 482 522 dL_law__40 (by omega) (by omega) (by rw [hj]; rfl) rfl (cs_undo hR g hI hr1 hr2 hr3 hr4 K)
    · exact gm_tabIn 495 535 dL_law__40 (by omega) (by omega) (by rw [hj]; rfl) rfl (cs_told hR g hI hr1 hr2 hr3 hr4 K)
    · exact gm_tabIn 551 591 dL_law__40 (by omega) (by omega) (by rw [hj]; rfl) rfl (cs_board hR g hI hr1 hr2 hr3 hr4 K)
    · exact gm_tabIn 619 659 dL_law__40 (by omega) (by omega) (by rw [hj]; rfl) rfl (cs_barge hR g hI hr1 hr2 hr3 hr4 K)
    · exact gm_tabIn 687 727 dL_law__40 (by omega) (by omega) (by rw [hj]; rfl) rfl (cs_street hR g hI hr1 hr2 hr3 hr4 K)
    · exact gm_tabIn 755 795 dL_law__40 (by omega) (by omega) (by rw [hj]; rfl) rfl (cs_lawful hR g hI hr1 hr2 hr3 hr4 K)
    · exact gm_tabIn 842 882 dL_law__40 (by omega) (by omega) (by rw [hj]; rfl) rfl (cs_opens hR g hI hr1 hr2 hr3 hr4 K)
    · exact gm_tabIn 898 938 dL_law__40 (by omega) (by omega) (by rw [hj]; rfl) rfl (cs_often hR g hI hr1 hr2 hr3 hr4 K)
    · exact gm_tabIn 966 1006 dL_law__40 (by omega) (by omega) (by rw [hj]; rfl) rfl (cs_busiest hR g hI hr1 hr2 hr3 hr4 K)
    · exact gm_tabIn 979 1019 dL_law__40 (by omega) (by omega) (by rw [hj]; rfl) rfl (cs_trip hR g hI hr1 hr2 hr3 hr4 K)
    · exact gm_tabIn 1059 1099 dL_law__40 (by omega) (by omega) (by rw [hj]; rfl) rfl (cs_soonest hR g hI hr1 hr2 hr3 hr4 K)
    · exact gm_tabIn 1139 1179 dL_law__40 (by omega) (by omega) (by rw [hj]; rfl) rfl (cs_hold hR g hI hr1 hr2 hr3 hr4 K)
    · exact gm_tabIn 1207 1247 dL_law__40 (by omega) (by omega) (by rw [hj]; rfl) rfl (cs_tallest hR g hI hr1 hr2 hr3 hr4 K)
    · exact gm_tabIn 1263 1303 dL_law__40 (by omega) (by omega) (by rw [hj]; rfl) rfl (cs_letter hR g hI hr1 hr2 hr3 hr4 K)
    · exact gm_tabIn 1331 1371 dL_law__40 (by omega) (by omega) (by rw [hj]; rfl) rfl (cs_flood hR g hI hr1 hr2 hr3 hr4 K)
    · exact gm_tabIn 1387 1427 dL_law__40 (by omega) (by omega) (by rw [hj]; rfl) rfl (cs_holds hR g hI hr1 hr2 hr3 hr4 K)
    · exact gm_tabIn 1443 1483 dL_law__40 (by omega) (by omega) (by rw [hj]; rfl) rfl (cs_smells hR g hI hr1 hr2 hr3 hr4 K)
    · exact gm_tabIn 1511 1551 dL_law__40 (by omega) (by omega) (by rw [hj]; rfl) rfl (cs_openers hR g hI hr1 hr2 hr3 hr4 K)
    · exact gm_tabIn 1567 1607 dL_law__40 (by omega) (by omega) (by rw [hj]; rfl) rfl (cs_nose hR g hI hr1 hr2 hr3 hr4 K)
    · exact gm_tabIn 1623 1663 dL_law__40 (by omega) (by omega) (by rw [hj]; rfl) rfl (cs_anglers hR g hI hr1 hr2 hr3 hr4 K)
    · exact gm_tabIn 1691 1731 dL_law__40 (by omega) (by omega) (by rw [hj]; rfl) rfl (cs_stand hR g hI hr1 hr2 hr3 hr4 K)
    · exact gm_tabIn 1759 1799 dL_law__40 (by omega) (by omega) (by rw [hj]; rfl) rfl (cs_walk hR g hI hr1 hr2 hr3 hr4 K)
    · exact gm_tabIn 1839 1879 dL_law__40 (by omega) (by omega) (by rw [hj]; rfl) rfl (cs_reach hR g hI hr1 hr2 hr3 hr4 K)
    · exact gm_tabIn 1907 1947 dL_law__40 (by omega) (by omega) (by rw [hj]; rfl) rfl (cs_peak hR g hI hr1 hr2 hr3 hr4 K)
    · exact gm_tabIn 1963 2003 dL_law__40 (by omega) (by omega) (by rw [hj]; rfl) rfl (cs_narrow hR g hI hr1 hr2 hr3 hr4 K)
    · exact gm_tabIn 2031 2071 dL_law__40 (by omega) (by omega) (by rw [hj]; rfl) rfl (cs_worst hR g hI hr1 hr2 hr3 hr4 K)
    · exact gm_tabIn 2087 2127 dL_law__40 (by omega) (by omega) (by rw [hj]; rfl) rfl (cs_ahead hR g hI hr1 hr2 hr3 hr4 K)
    · exact gm_tabIn 2155 2195 dL_law__40 (by omega) (by omega) (by rw [hj]; rfl) rfl (cs_winters hR g hI hr1 hr2 hr3 hr4 K)
    · exact gm_tabIn 2247 2287 dL_law__40 (by omega) (by omega) (by rw [hj]; rfl) rfl (cs_span hR g hI hr1 hr2 hr3 hr4 K)
    · exact gm_tabIn 2351 2391 dL_law__40 (by omega) (by omega) (by rw [hj]; rfl) rfl (cs_image hR g hI hr1 hr2 hr3 hr4 K)
    · exact gm_tabIn 2364 2404 dL_law__40 (by omega) (by omega) (by rw [hj]; rfl) rfl (cs_restore hR g hI hr1 hr2 hr3 hr4 K)
    · exact gm_tabIn 2377 2417 dL_law__40 (by omega) (by omega) (by rw [hj]; rfl) rfl (cs_status hR g hI hr1 hr2 hr3 hr4 K)
    · exact gm_tabIn 2402 2442 dL_law__40 (by omega) (by omega) (by rw [hj]; rfl) rfl (cs_count hR g hI hr1 hr2 hr3 hr4 K)
theorem law_end {n : Nat} {scr : Nat → Int32} {L : List (Option am_V)} {h : am_H} {r : Nat × Nat} : am_AtG [] lawPo (am_XS n scr) 202 mLW 2473 L [] h r := by
  refine gm_iconst 1 (v := 1) dL_law__2473 (by decide) ?_
  exact gm_iret dL_law__2474 rfl rfl (fun D cy A ad args s t hX hP hD hF => rfl)
theorem law_loop {n : Nat} {scr : Nat → Int32} (hn : n ≤ 3072) : ∀ (m k : Nat) (r : Nat × Nat) (qc qd qs qn : Nat) (h : am_H) (M : Mem), n < 6 * k + 6 * m + 6 → 6 * k ≤ 3072 → ncS 83 + m ≤ r.1 → nsS 83 + 6 * m ≤ r.2 → LH qc qd qs qn h → INV qc qd qs qn M → am_AtG [] lawPo (am_XS n scr) 202 mLW 23 (lwL (nI (6 * k)) none none) [] (am_hM h M) r := by
  intro m
  induction m with
  | zero =>
    intro k r qc qd qs qn h M hm hk hr1 hr2 g hI
    refine gm_iload dL_law__23 rfl ?_
    refine gm_aload_n dL_law__25 rfl ?_
    refine gm_slen (v := nI n) dL_law__26 rfl ?_
    refine gm_bipush 6 (v := 6) dL_law__27 (by decide) ?_
    refine gm_isub dL_law__29 ?_
    exact gm_icmp_gt 2443 2473 dL_law__30 rfl (fun _ => law_end) (fun hc => absurd ((lw_cmp hn hk).mpr (by omega)) hc)
  | succ m ih =>
    intro k r qc qd qs qn h M hm hk hr1 hr2 g hI
    refine gm_iload dL_law__23 rfl ?_
    refine gm_aload_n dL_law__25 rfl ?_
    refine gm_slen (v := nI n) dL_law__26 rfl ?_
    refine gm_bipush 6 (v := 6) dL_law__27 (by decide) ?_
    refine gm_isub dL_law__29 ?_
    refine gm_icmp_gt 2443 2473 dL_law__30 rfl (fun _ => law_end) (fun hc => ?_)
    have hlt : 6 * k + 6 ≤ n := by
      have := mt (lw_cmp hn hk).mpr hc
      omega
    refine gm_aload_n dL_law__33 rfl ?_
    refine gm_iload dL_law__34 rfl ?_
    refine gm_sald (6 * k) dL_law__36 (lw_rd hn (by omega)) ?_
    refine gm_bipush 63 (v := 63) dL_law__37 (by decide) ?_
    refine gm_iand dL_law__39 ?_
    refine law_sw (b := 6 * k) (r' := (r.1 - 1, r.2 - 6)) (lw_Rd hn hlt) g hI (by show r.1 - 1 + 1 ≤ r.1; omega) (by show r.2 - 6 + 6 ≤ r.2; omega) (by show ncS 83 ≤ r.1 - 1; omega) (by show nsS 83 ≤ r.2 - 6; omega) ?_ _
    intro qc1 qd1 qs1 qn1 h1 M1 g1 hI1
    refine gm_iinc (v := nI (6 * (k + 1))) dL_law__2467 rfl ?_ ?_
    · exact nI_add (6 * k) 6
    refine gm_goto (-2447) 23 dL_law__2470 rfl ?_
    exact ih (k + 1) (r.1 - 1, r.2 - 6) qc1 qd1 qs1 qn1 h1 M1 (by omega) (by omega) (by show ncS 83 + m ≤ r.1 - 1; omega) (by show nsS 83 + 6 * m ≤ r.2 - 6; omega) g1 hI1
