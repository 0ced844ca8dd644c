/-! THE LAW'S BODY, CASE BY CASE -/
abbrev lwL (i : Int32) (k b : Option am_V) : List (Option am_V) := [some (.inr (3000, 0)), some (.inr (0, 0)), some (.inr (54, 0)), some (.inr (82, 0)), some (am_I i), k, b]
theorem lg_cmp_self (x : Int64) : lg_cmp x x = 0 := by
  unfold lg_cmp
  simp
def Rd (n b : Nat) (i : Int32) : Prop := rdI n (i + 1) (b + 1) ∧ rdI n (i + 2) (b + 2) ∧ rdI n (i + 3) (b + 3) ∧ rdI n (i + 4) (b + 4) ∧ rdI n (i + 5) (b + 5)
theorem Rd.r1 {n b : Nat} {i : Int32} (h : Rd n b i) : rdI n (i + 1) (b + 1) := h.1
theorem Rd.r2 {n b : Nat} {i : Int32} (h : Rd n b i) : rdI n (i + 2) (b + 2) := h.2.1
theorem Rd.r3 {n b : Nat} {i : Int32} (h : Rd n b i) : rdI n (i + 3) (b + 3) := h.2.2.1
theorem Rd.r4 {n b : Nat} {i : Int32} (h : Rd n b i) : rdI n (i + 4) (b + 4) := h.2.2.2.1
theorem Rd.r5 {n b : Nat} {i : Int32} (h : Rd n b i) : rdI n (i + 5) (b + 5) := h.2.2.2.2
theorem pl_feed {d d1 n b : Nat} {scr : Nat → Int32} {i : Int32} {r : Nat × Nat} (hR : Rd n b i) {h : am_H} {M M1 M2 : Mem} {v : Int32} (g : lay h) (E1 : am_Ev d1 mX11_feed [.inr (0, 0), am_I (scr (b + 1)), am_I (scr (b + 2)), am_I (scr (b + 3)), am_I (scr (b + 4)), am_I (scr (b + 5))] (am_hM h M) (.inl (some (am_I v), am_hM h M1))) (E2 : am_Ev d1 mX12_feed [.inr (54, 0), am_I (scr (b + 1)), am_I (scr (b + 2)), am_I (scr (b + 3)), am_I (scr (b + 4)), am_I (scr (b + 5))] (am_hM h M1) (.inl (some (am_I v), am_hM h M2))) (hd1 : d1 + 1 ≤ d) (K : am_AtG [] lawPo (am_XS n scr) d mLW 2467 (lwL i none none) [] (am_hM h M2) r) : am_AtG [] lawPo (am_XS n scr) d mLW 212 (lwL i none none) [] (am_hM h M) r := by
  refine gm_aload_n dL_law__212 rfl ?_
  refine gm_aload_n dL_law__213 rfl ?_
  refine gm_iload dL_law__214 rfl ?_
  refine gm_iconst 1 (v := 1) dL_law__216 (by decide) ?_
  refine gm_iadd dL_law__217 ?_
  refine gm_sald (b + 1) dL_law__218 hR.r1 ?_
  refine gm_aload_n dL_law__219 rfl ?_
  refine gm_iload dL_law__220 rfl ?_
  refine gm_iconst 2 (v := 2) dL_law__222 (by decide) ?_
  refine gm_iadd dL_law__223 ?_
  refine gm_sald (b + 2) dL_law__224 hR.r2 ?_
  refine gm_aload_n dL_law__225 rfl ?_
  refine gm_iload dL_law__226 rfl ?_
  refine gm_iconst 3 (v := 3) dL_law__228 (by decide) ?_
  refine gm_iadd dL_law__229 ?_
  refine gm_sald (b + 3) dL_law__230 hR.r3 ?_
  refine gm_aload_n dL_law__231 rfl ?_
  refine gm_iload dL_law__232 rfl ?_
  refine gm_iconst 4 (v := 4) dL_law__234 (by decide) ?_
  refine gm_iadd dL_law__235 ?_
  refine gm_sald (b + 4) dL_law__236 hR.r4 ?_
  refine gm_aload_n dL_law__237 rfl ?_
  refine gm_iload dL_law__238 rfl ?_
  refine gm_iconst 5 (v := 5) dL_law__240 (by decide) ?_
  refine gm_iadd dL_law__241 ?_
  refine gm_sald (b + 5) dL_law__242 hR.r5 ?_
  refine gm_callV [_, _, _, _, _] dL_law__243 ml_L_116 vm_X11_feed (sh_0 g) rfl (fun _ => zq _ rfl) hd1 rfl E1 rfl ?_
  change am_AtG [] lawPo (am_XS n scr) d mLW 246 (lwL i none none) [_] _ _
  refine gm_aload_n dL_law__246 rfl ?_
  refine gm_aload_n dL_law__247 rfl ?_
  refine gm_iload dL_law__248 rfl ?_
  refine gm_iconst 1 (v := 1) dL_law__250 (by decide) ?_
  refine gm_iadd dL_law__251 ?_
  refine gm_sald (b + 1) dL_law__252 hR.r1 ?_
  refine gm_aload_n dL_law__253 rfl ?_
  refine gm_iload dL_law__254 rfl ?_
  refine gm_iconst 2 (v := 2) dL_law__256 (by decide) ?_
  refine gm_iadd dL_law__257 ?_
  refine gm_sald (b + 2) dL_law__258 hR.r2 ?_
  refine gm_aload_n dL_law__259 rfl ?_
  refine gm_iload dL_law__260 rfl ?_
  refine gm_iconst 3 (v := 3) dL_law__262 (by decide) ?_
  refine gm_iadd dL_law__263 ?_
  refine gm_sald (b + 3) dL_law__264 hR.r3 ?_
  refine gm_aload_n dL_law__265 rfl ?_
  refine gm_iload dL_law__266 rfl ?_
  refine gm_iconst 4 (v := 4) dL_law__268 (by decide) ?_
  refine gm_iadd dL_law__269 ?_
  refine gm_sald (b + 4) dL_law__270 hR.r4 ?_
  refine gm_aload_n dL_law__271 rfl ?_
  refine gm_iload dL_law__272 rfl ?_
  refine gm_iconst 5 (v := 5) dL_law__274 (by decide) ?_
  refine gm_iadd dL_law__275 ?_
  refine gm_sald (b + 5) dL_law__276 hR.r5 ?_
  refine gm_callV [_, _, _, _, _] dL_law__277 ml_L_119 vm_X12_feed (sh_54 g) rfl (fun _ => zq _ rfl) hd1 rfl E2 rfl ?_
  change am_AtG [] lawPo (am_XS n scr) d mLW 280 (lwL i none none) [_, _] _ _
  exact gm_icmp_eq (2187) 2467 dL_law__280 rfl (fun hc => K) (fun hc => absurd rfl hc)
theorem hd'_river {d d1 n b : Nat} {scr : Nat → Int32} {i : Int32} {r : Nat × Nat} (hR : Rd n b i) {h h1 : am_H} {M M1 : Mem} {k : Int32} {r' : Nat × Nat} (E : am_EvH d1 [(0, 9, 12, 13)] mL_river [.inr (0, 0), am_I (scr (b + 1)), .inr (82, 0)] (am_hM h M) (am_I k) (am_hM h1 M1)) (hsh : h1.1 = h.1) (hd1 : d1 + 1 ≤ d) (hr1 : r'.1 + 1 ≤ r.1) (hr2 : r'.2 + 6 ≤ r.2) (hr3 : am_nc (am_hM h M) ≤ r'.1) (hr4 : am_ns (am_hM h M) ≤ r'.2) (K : am_AtG [] lawPo (am_XS n scr) d mLW 298 (lwL i (some (am_I k)) none) [] (am_hM h1 M1) r') : am_AtG [] lawPo (am_XS n scr) d mLW 285 (lwL i none none) [] (am_hM h M) r := by
  refine gm_aload_n dL_law__285 rfl ?_
  refine gm_aload_n dL_law__286 rfl ?_
  refine gm_iload dL_law__287 rfl ?_
  refine gm_iconst 1 (v := 1) dL_law__289 (by decide) ?_
  refine gm_iadd dL_law__290 ?_
  refine gm_sald (b + 1) dL_law__291 hR.r1 ?_
  refine gm_aload_n dL_law__292 rfl ?_
  refine gm_callH [_, _, _] dL_law__293 hl_river hd_river rfl (fun _ => zq _ rfl) hd1 rfl E hsh (fun _ _ _ z => z.2.2) hr1 hr2 hr3 hr4 ?_
  change am_AtG [] lawPo (am_XS n scr) d mLW 296 (lwL i none none) [_] _ _
  refine gm_istore dL_law__296 (am_lb rfl) ?_
  exact K
theorem tl_river {d d1 n b : Nat} {scr : Nat → Int32} {i : Int32} {r : Nat × Nat} (hR : Rd n b i) {h : am_H} {M1 M2 : Mem} {w k : Int32} (g : lay h) (E : am_Ev d1 mX12_river [.inr (54, 0), am_I (scr (b + 1))] (am_hM h M1) (.inl (some (am_I w), am_hM h M2))) (hd1 : d1 + 1 ≤ d) (ht : f_X12_thrown M2 = k) (ho : k = 0 → am_lg (h.2.2 82 0) = w.toInt64) (K : am_AtG [] lawPo (am_XS n scr) d mLW 2467 (lwL i none none) [] (am_hM h M2) r) : am_AtG [] lawPo (am_XS n scr) d mLW 298 (lwL i (some (am_I k)) none) [] (am_hM h M1) r := by
  refine gm_aload_n dL_law__298 rfl ?_
  refine gm_aload_n dL_law__299 rfl ?_
  refine gm_iload dL_law__300 rfl ?_
  refine gm_iconst 1 (v := 1) dL_law__302 (by decide) ?_
  refine gm_iadd dL_law__303 ?_
  refine gm_sald (b + 1) dL_law__304 hR.r1 ?_
  refine gm_callV [_] dL_law__305 ml_L_125 vm_X12_river (sh_54 g) rfl (fun _ => zq _ rfl) hd1 rfl E rfl ?_
  change am_AtG [] lawPo (am_XS n scr) d mLW 308 (lwL i (some (am_I k)) none) [_] _ _
  refine gm_istore dL_law__308 (am_lb rfl) ?_
  refine gm_aload_n dL_law__310 rfl ?_
  refine gm_callV [] dL_law__311 ml_L_126 vm_X12_thrown (sh_54 g) rfl (fun _ => zq _ rfl) hd1 rfl (ef_X12_thrown (d := d1) (h := h) g (M := M2) (v := k) ht) rfl ?_
  change am_AtG [] lawPo (am_XS n scr) d mLW 314 (lwL i (some (am_I k)) (some (am_I w))) [_] _ _
  refine gm_iload dL_law__314 rfl ?_
  refine gm_icmp_eq (5) 321 dL_law__316 rfl (fun hc => ?_) (fun hc => absurd rfl hc)
  refine gm_iload dL_law__321 rfl ?_
  have KK : am_AtG [] lawPo (am_XS n scr) d mLW 338 (lwL i (some (am_I k)) (some (am_I w))) [] (am_hM h M2) r := by
    refine gm_goto (2129) 2467 dL_law__338 rfl ?_
    refine gm_drop 5 ?_
    refine gm_drop 6 ?_
    exact K
  refine gm_if_ne (15) 338 dL_law__323 rfl (fun hc => KK) (fun hc => ?_)
  refine gm_aload_n dL_law__326 rfl ?_
  refine gm_iconst 0 (v := 0) dL_law__327 (by decide) ?_
  refine gm_lald dL_law__328 (sh_82 g) (am_lit rfl) ?_
  refine gm_iload dL_law__329 rfl ?_
  refine gm_i2l dL_law__331 ?_
  refine gm_lcmp dL_law__332 ?_
  refine gm_if_eq (5) 338 dL_law__333 rfl (fun hc => KK) (fun hc2 => absurd ?_ hc2)
  show lg_cmp (am_lg (h.2.2 82 0)) w.toInt64 = 0
  rw [ho hc]
  exact lg_cmp_self _
theorem hd'_law {d d1 n b : Nat} {scr : Nat → Int32} {i : Int32} {r : Nat × Nat} (hR : Rd n b i) {h h1 : am_H} {M M1 : Mem} {k : Int32} {r' : Nat × Nat} (E : am_EvH d1 [(0, 9, 12, 13)] mL_law [.inr (0, 0), am_I (scr (b + 1)), .inr (82, 0)] (am_hM h M) (am_I k) (am_hM h1 M1)) (hsh : h1.1 = h.1) (hd1 : d1 + 1 ≤ d) (hr1 : r'.1 + 1 ≤ r.1) (hr2 : r'.2 + 6 ≤ r.2) (hr3 : am_nc (am_hM h M) ≤ r'.1) (hr4 : am_ns (am_hM h M) ≤ r'.2) (K : am_AtG [] lawPo (am_XS n scr) d mLW 354 (lwL i (some (am_I k)) none) [] (am_hM h1 M1) r') : am_AtG [] lawPo (am_XS n scr) d mLW 341 (lwL i none none) [] (am_hM h M) r := by
  refine gm_aload_n dL_law__341 rfl ?_
  refine gm_aload_n dL_law__342 rfl ?_
  refine gm_iload dL_law__343 rfl ?_
  refine gm_iconst 1 (v := 1) dL_law__345 (by decide) ?_
  refine gm_iadd dL_law__346 ?_
  refine gm_sald (b + 1) dL_law__347 hR.r1 ?_
  refine gm_aload_n dL_law__348 rfl ?_
  refine gm_callH [_, _, _] dL_law__349 hl_law hd_law rfl (fun _ => zq _ rfl) hd1 rfl E hsh (fun _ _ _ z => z.2.2) hr1 hr2 hr3 hr4 ?_
  change am_AtG [] lawPo (am_XS n scr) d mLW 352 (lwL i none none) [_] _ _
  refine gm_istore dL_law__352 (am_lb rfl) ?_
  exact K
theorem tl_law {d d1 n b : Nat} {scr : Nat → Int32} {i : Int32} {r : Nat × Nat} (hR : Rd n b i) {h : am_H} {M1 M2 : Mem} {w k : Int32} (g : lay h) (E : am_Ev d1 mX12_law [.inr (54, 0), am_I (scr (b + 1))] (am_hM h M1) (.inl (some (am_I w), am_hM h M2))) (hd1 : d1 + 1 ≤ d) (ht : f_X12_thrown M2 = k) (ho : k = 0 → am_lg (h.2.2 82 0) = w.toInt64) (K : am_AtG [] lawPo (am_XS n scr) d mLW 2467 (lwL i none none) [] (am_hM h M2) r) : am_AtG [] lawPo (am_XS n scr) d mLW 354 (lwL i (some (am_I k)) none) [] (am_hM h M1) r := by
  refine gm_aload_n dL_law__354 rfl ?_
  refine gm_aload_n dL_law__355 rfl ?_
  refine gm_iload dL_law__356 rfl ?_
  refine gm_iconst 1 (v := 1) dL_law__358 (by decide) ?_
  refine gm_iadd dL_law__359 ?_
  refine gm_sald (b + 1) dL_law__360 hR.r1 ?_
  refine gm_callV [_] dL_law__361 ml_L_132 vm_X12_law (sh_54 g) rfl (fun _ => zq _ rfl) hd1 rfl E rfl ?_
  change am_AtG [] lawPo (am_XS n scr) d mLW 364 (lwL i (some (am_I k)) none) [_] _ _
  refine gm_istore dL_law__364 (am_lb rfl) ?_
  refine gm_aload_n dL_law__366 rfl ?_
  refine gm_callV [] dL_law__367 ml_L_126 vm_X12_thrown (sh_54 g) rfl (fun _ => zq _ rfl) hd1 rfl (ef_X12_thrown (d := d1) (h := h) g (M := M2) (v := k) ht) rfl ?_
  change am_AtG [] lawPo (am_XS n scr) d mLW 370 (lwL i (some (am_I k)) (some (am_I w))) [_] _ _
  refine gm_iload dL_law__370 rfl ?_
  refine gm_icmp_eq (5) 377 dL_law__372 rfl (fun hc => ?_) (fun hc => absurd rfl hc)
  refine gm_iload dL_law__377 rfl ?_
  have KK : am_AtG [] lawPo (am_XS n scr) d mLW 394 (lwL i (some (am_I k)) (some (am_I w))) [] (am_hM h M2) r := by
    refine gm_goto (2073) 2467 dL_law__394 rfl ?_
    refine gm_drop 5 ?_
    refine gm_drop 6 ?_
    exact K
  refine gm_if_ne (15) 394 dL_law__379 rfl (fun hc => KK) (fun hc => ?_)
  refine gm_aload_n dL_law__382 rfl ?_
  refine gm_iconst 0 (v := 0) dL_law__383 (by decide) ?_
  refine gm_lald dL_law__384 (sh_82 g) (am_lit rfl) ?_
  refine gm_iload dL_law__385 rfl ?_
  refine gm_i2l dL_law__387 ?_
  refine gm_lcmp dL_law__388 ?_
  refine gm_if_eq (5) 394 dL_law__389 rfl (fun hc => KK) (fun hc2 => absurd ?_ hc2)
  show lg_cmp (am_lg (h.2.2 82 0)) w.toInt64 = 0
  rw [ho hc]
  exact lg_cmp_self _
theorem hd'_work {d d1 n b : Nat} {scr : Nat → Int32} {i : Int32} {r : Nat × Nat} (hR : Rd n b i) {h h1 : am_H} {M M1 : Mem} {k : Int32} {r' : Nat × Nat} (E : am_EvH d1 [(0, 9, 12, 13)] mL_work [.inr (0, 0), am_I (scr (b + 1)), .inr (82, 0)] (am_hM h M) (am_I k) (am_hM h1 M1)) (hsh : h1.1 = h.1) (hd1 : d1 + 1 ≤ d) (hr1 : r'.1 + 1 ≤ r.1) (hr2 : r'.2 + 6 ≤ r.2) (hr3 : am_nc (am_hM h M) ≤ r'.1) (hr4 : am_ns (am_hM h M) ≤ r'.2) (K : am_AtG [] lawPo (am_XS n scr) d mLW 410 (lwL i (some (am_I k)) none) [] (am_hM h1 M1) r') : am_AtG [] lawPo (am_XS n scr) d mLW 397 (lwL i none none) [] (am_hM h M) r := by
  refine gm_aload_n dL_law__397 rfl ?_
  refine gm_aload_n dL_law__398 rfl ?_
  refine gm_iload dL_law__399 rfl ?_
  refine gm_iconst 1 (v := 1) dL_law__401 (by decide) ?_
  refine gm_iadd dL_law__402 ?_
  refine gm_sald (b + 1) dL_law__403 hR.r1 ?_
  refine gm_aload_n dL_law__404 rfl ?_
  refine gm_callH [_, _, _] dL_law__405 hl_work hd_work rfl (fun _ => zq _ rfl) hd1 rfl E hsh (fun _ _ _ z => z.2.2) hr1 hr2 hr3 hr4 ?_
  change am_AtG [] lawPo (am_XS n scr) d mLW 408 (lwL i none none) [_] _ _
  refine gm_istore dL_law__408 (am_lb rfl) ?_
  exact K
theorem tl_work {d d1 n b : Nat} {scr : Nat → Int32} {i : Int32} {r : Nat × Nat} (hR : Rd n b i) {h : am_H} {M1 M2 : Mem} {w k : Int32} (g : lay h) (E : am_Ev d1 mX12_work [.inr (54, 0), am_I (scr (b + 1))] (am_hM h M1) (.inl (some (am_I w), am_hM h M2))) (hd1 : d1 + 1 ≤ d) (ht : f_X12_thrown M2 = k) (ho : k = 0 → am_lg (h.2.2 82 0) = w.toInt64) (K : am_AtG [] lawPo (am_XS n scr) d mLW 2467 (lwL i none none) [] (am_hM h M2) r) : am_AtG [] lawPo (am_XS n scr) d mLW 410 (lwL i (some (am_I k)) none) [] (am_hM h M1) r := by
  refine gm_aload_n dL_law__410 rfl ?_
  refine gm_aload_n dL_law__411 rfl ?_
  refine gm_iload dL_law__412 rfl ?_
  refine gm_iconst 1 (v := 1) dL_law__414 (by decide) ?_
  refine gm_iadd dL_law__415 ?_
  refine gm_sald (b + 1) dL_law__416 hR.r1 ?_
  refine gm_callV [_] dL_law__417 ml_L_135 vm_X12_work (sh_54 g) rfl (fun _ => zq _ rfl) hd1 rfl E rfl ?_
  change am_AtG [] lawPo (am_XS n scr) d mLW 420 (lwL i (some (am_I k)) none) [_] _ _
  refine gm_istore dL_law__420 (am_lb rfl) ?_
  refine gm_aload_n dL_law__422 rfl ?_
  refine gm_callV [] dL_law__423 ml_L_126 vm_X12_thrown (sh_54 g) rfl (fun _ => zq _ rfl) hd1 rfl (ef_X12_thrown (d := d1) (h := h) g (M := M2) (v := k) ht) rfl ?_
  change am_AtG [] lawPo (am_XS n scr) d mLW 426 (lwL i (some (am_I k)) (some (am_I w))) [_] _ _
  refine gm_iload dL_law__426 rfl ?_
  refine gm_icmp_eq (5) 433 dL_law__428 rfl (fun hc => ?_) (fun hc => absurd rfl hc)
  refine gm_iload dL_law__433 rfl ?_
  have KK : am_AtG [] lawPo (am_XS n scr) d mLW 450 (lwL i (some (am_I k)) (some (am_I w))) [] (am_hM h M2) r := by
    refine gm_goto (2017) 2467 dL_law__450 rfl ?_
    refine gm_drop 5 ?_
    refine gm_drop 6 ?_
    exact K
  refine gm_if_ne (15) 450 dL_law__435 rfl (fun hc => KK) (fun hc => ?_)
  refine gm_aload_n dL_law__438 rfl ?_
  refine gm_iconst 0 (v := 0) dL_law__439 (by decide) ?_
  refine gm_lald dL_law__440 (sh_82 g) (am_lit rfl) ?_
  refine gm_iload dL_law__441 rfl ?_
  refine gm_i2l dL_law__443 ?_
  refine gm_lcmp dL_law__444 ?_
  refine gm_if_eq (5) 450 dL_law__445 rfl (fun hc => KK) (fun hc2 => absurd ?_ hc2)
  show lg_cmp (am_lg (h.2.2 82 0)) w.toInt64 = 0
  rw [ho hc]
  exact lg_cmp_self _
theorem hd'_book {d d1 n b : Nat} {scr : Nat → Int32} {i : Int32} {r : Nat × Nat} (hR : Rd n b i) {h h1 : am_H} {M M1 : Mem} {k : Int32} {r' : Nat × Nat} (E : am_EvH d1 [(0, 9, 12, 13)] mL_book [.inr (0, 0), am_I (scr (b + 1)), .inr (82, 0)] (am_hM h M) (am_I k) (am_hM h1 M1)) (hsh : h1.1 = h.1) (hd1 : d1 + 1 ≤ d) (hr1 : r'.1 + 1 ≤ r.1) (hr2 : r'.2 + 6 ≤ r.2) (hr3 : am_nc (am_hM h M) ≤ r'.1) (hr4 : am_ns (am_hM h M) ≤ r'.2) (K : am_AtG [] lawPo (am_XS n scr) d mLW 466 (lwL i (some (am_I k)) none) [] (am_hM h1 M1) r') : am_AtG [] lawPo (am_XS n scr) d mLW 453 (lwL i none none) [] (am_hM h M) r := by
  refine gm_aload_n dL_law__453 rfl ?_
  refine gm_aload_n dL_law__454 rfl ?_
  refine gm_iload dL_law__455 rfl ?_
  refine gm_iconst 1 (v := 1) dL_law__457 (by decide) ?_
  refine gm_iadd dL_law__458 ?_
  refine gm_sald (b + 1) dL_law__459 hR.r1 ?_
  refine gm_aload_n dL_law__460 rfl ?_
  refine gm_callH [_, _, _] dL_law__461 hl_book hd_book rfl (fun _ => zq _ rfl) hd1 rfl E hsh (fun _ _ _ z => z.2.2) hr1 hr2 hr3 hr4 ?_
  change am_AtG [] lawPo (am_XS n scr) d mLW 464 (lwL i none none) [_] _ _
  refine gm_istore dL_law__464 (am_lb rfl) ?_
  exact K
theorem tl_book {d d1 n b : Nat} {scr : Nat → Int32} {i : Int32} {r : Nat × Nat} (hR : Rd n b i) {h : am_H} {M1 M2 : Mem} {w k : Int32} (g : lay h) (E : am_Ev d1 mX12_book [.inr (54, 0), am_I (scr (b + 1))] (am_hM h M1) (.inl (some (am_I w), am_hM h M2))) (hd1 : d1 + 1 ≤ d) (ht : f_X12_thrown M2 = k) (ho : k = 0 → am_lg (h.2.2 82 0) = w.toInt64) (K : am_AtG [] lawPo (am_XS n scr) d mLW 2467 (lwL i none none) [] (am_hM h M2) r) : am_AtG [] lawPo (am_XS n scr) d mLW 466 (lwL i (some (am_I k)) none) [] (am_hM h M1) r := by
  refine gm_aload_n dL_law__466 rfl ?_
  refine gm_aload_n dL_law__467 rfl ?_
  refine gm_iload dL_law__468 rfl ?_
  refine gm_iconst 1 (v := 1) dL_law__470 (by decide) ?_
  refine gm_iadd dL_law__471 ?_
  refine gm_sald (b + 1) dL_law__472 hR.r1 ?_
  refine gm_callV [_] dL_law__473 ml_L_138 vm_X12_book (sh_54 g) rfl (fun _ => zq _ rfl) hd1 rfl E rfl ?_
  change am_AtG [] lawPo (am_XS n scr) d mLW 476 (lwL i (some (am_I k)) none) [_] _ _
  refine gm_istore dL_law__476 (am_lb rfl) ?_
  refine gm_aload_n dL_law__478 rfl ?_
  refine gm_callV [] dL_law__479 ml_L_126 vm_X12_thrown (sh_54 g) rfl (fun _ => zq _ rfl) hd1 rfl (ef_X12_thrown (d := d1) (h := h) g (M := M2) (v := k) ht) rfl ?_
  change am_AtG [] lawPo (am_XS n scr) d mLW 482 (lwL i (some (am_I k)) (some (am_I w))) [_] _ _
  refine gm_iload dL_law__482 rfl ?_
  refine gm_icmp_eq (5) 489 dL_law__484 rfl (fun hc => ?_) (fun hc => absurd rfl hc)
  refine gm_iload dL_law__489 rfl ?_
  have KK : am_AtG [] lawPo (am_XS n scr) d mLW 506 (lwL i (some (am_I k)) (some (am_I w))) [] (am_hM h M2) r := by
    refine gm_goto (1961) 2467 dL_law__506 rfl ?_
    refine gm_drop 5 ?_
    refine gm_drop 6 ?_
    exact K
  refine gm_if_ne (15) 506 dL_law__491 rfl (fun hc => KK) (fun hc => ?_)
  refine gm_aload_n dL_law__494 rfl ?_
  refine gm_iconst 0 (v := 0) dL_law__495 (by decide) ?_
  refine gm_lald dL_law__496 (sh_82 g) (am_lit rfl) ?_
  refine gm_iload dL_law__497 rfl ?_
  refine gm_i2l dL_law__499 ?_
  refine gm_lcmp dL_law__500 ?_
  refine gm_if_eq (5) 506 dL_law__501 rfl (fun hc => KK) (fun hc2 => absurd ?_ hc2)
  show lg_cmp (am_lg (h.2.2 82 0)) w.toInt64 = 0
  rw [ho hc]
  exact lg_cmp_self _
theorem pl_fault {d d1 n b : Nat} {scr : Nat → Int32} {i : Int32} {r : Nat × Nat} (hR : Rd n b i) {h : am_H} {M M1 M2 : Mem} {v : Int32} (g : lay h) (E1 : am_Ev d1 mX11_fault [.inr (0, 0)] (am_hM h M) (.inl (some (am_I v), am_hM h M1))) (E2 : am_Ev d1 mX12_fault [.inr (54, 0)] (am_hM h M1) (.inl (some (am_I v), am_hM h M2))) (hd1 : d1 + 1 ≤ d) (K : am_AtG [] lawPo (am_XS n scr) d mLW 2467 (lwL i none none) [] (am_hM h M2) r) : am_AtG [] lawPo (am_XS n scr) d mLW 509 (lwL i none none) [] (am_hM h M) r := by
  refine gm_aload_n dL_law__509 rfl ?_
  refine gm_callV [] dL_law__510 ml_L_139 vm_X11_fault (sh_0 g) rfl (fun _ => zq _ rfl) hd1 rfl E1 rfl ?_
  change am_AtG [] lawPo (am_XS n scr) d mLW 513 (lwL i none none) [_] _ _
  refine gm_aload_n dL_law__513 rfl ?_
  refine gm_callV [] dL_law__514 ml_L_142 vm_X12_fault (sh_54 g) rfl (fun _ => zq _ rfl) hd1 rfl E2 rfl ?_
  change am_AtG [] lawPo (am_XS n scr) d mLW 517 (lwL i none none) [_, _] _ _
  exact gm_icmp_eq (1950) 2467 dL_law__517 rfl (fun hc => K) (fun hc => absurd rfl hc)
theorem pl_undo {d d1 n b : Nat} {scr : Nat → Int32} {i : Int32} {r : Nat × Nat} (hR : Rd n b i) {h : am_H} {M M1 M2 : Mem} {v : Int32} (g : lay h) (E1 : am_Ev d1 mX11_undo [.inr (0, 0)] (am_hM h M) (.inl (some (am_I v), am_hM h M1))) (E2 : am_Ev d1 mX12_undo [.inr (54, 0)] (am_hM h M1) (.inl (some (am_I v), am_hM h M2))) (hd1 : d1 + 1 ≤ d) (K : am_AtG [] lawPo (am_XS n scr) d mLW 2467 (lwL i none none) [] (am_hM h M2) r) : am_AtG [] lawPo (am_XS n scr) d mLW 522 (lwL i none none) [] (am_hM h M) r := by
  refine gm_aload_n dL_law__522 rfl ?_
  refine gm_callV [] dL_law__523 ml_L_143 vm_X11_undo (sh_0 g) rfl (fun _ => zq _ rfl) hd1 rfl E1 rfl ?_
  change am_AtG [] lawPo (am_XS n scr) d mLW 526 (lwL i none none) [_] _ _
  refine gm_aload_n dL_law__526 rfl ?_
  refine gm_callV [] dL_law__527 ml_L_146 vm_X12_undo (sh_54 g) rfl (fun _ => zq _ rfl) hd1 rfl E2 rfl ?_
  change am_AtG [] lawPo (am_XS n scr) d mLW 530 (lwL i none none) [_, _] _ _
  exact gm_icmp_eq (1937) 2467 dL_law__530 rfl (fun hc => K) (fun hc => absurd rfl hc)
theorem hd'_told {d d1 n b : Nat} {scr : Nat → Int32} {i : Int32} {r : Nat × Nat} (hR : Rd n b i) {h h1 : am_H} {M M1 : Mem} {k : Int32} {r' : Nat × Nat} (E : am_EvH d1 [(0, 9, 12, 13)] mL_told [.inr (0, 0), am_I (scr (b + 1)), .inr (82, 0)] (am_hM h M) (am_I k) (am_hM h1 M1)) (hsh : h1.1 = h.1) (hd1 : d1 + 1 ≤ d) (hr1 : r'.1 + 1 ≤ r.1) (hr2 : r'.2 + 6 ≤ r.2) (hr3 : am_nc (am_hM h M) ≤ r'.1) (hr4 : am_ns (am_hM h M) ≤ r'.2) (K : am_AtG [] lawPo (am_XS n scr) d mLW 548 (lwL i (some (am_I k)) none) [] (am_hM h1 M1) r') : am_AtG [] lawPo (am_XS n scr) d mLW 535 (lwL i none none) [] (am_hM h M) r := by
  refine gm_aload_n dL_law__535 rfl ?_
  refine gm_aload_n dL_law__536 rfl ?_
  refine gm_iload dL_law__537 rfl ?_
  refine gm_iconst 1 (v := 1) dL_law__539 (by decide) ?_
  refine gm_iadd dL_law__540 ?_
  refine gm_sald (b + 1) dL_law__541 hR.r1 ?_
  refine gm_aload_n dL_law__542 rfl ?_
  refine gm_callH [_, _, _] dL_law__543 hl_told hd_told rfl (fun _ => zq _ rfl) hd1 rfl E hsh (fun _ _ _ z => z.2.2) hr1 hr2 hr3 hr4 ?_
  change am_AtG [] lawPo (am_XS n scr) d mLW 546 (lwL i none none) [_] _ _
  refine gm_istore dL_law__546 (am_lb rfl) ?_
  exact K
theorem tl_told {d d1 n b : Nat} {scr : Nat → Int32} {i : Int32} {r : Nat × Nat} (hR : Rd n b i) {h : am_H} {M1 M2 : Mem} {w k : Int32} (g : lay h) (E : am_Ev d1 mX12_told [.inr (54, 0), am_I (scr (b + 1))] (am_hM h M1) (.inl (some (am_I w), am_hM h M2))) (hd1 : d1 + 1 ≤ d) (ht : f_X12_thrown M2 = k) (ho : k = 0 → am_lg (h.2.2 82 0) = w.toInt64) (K : am_AtG [] lawPo (am_XS n scr) d mLW 2467 (lwL i none none) [] (am_hM h M2) r) : am_AtG [] lawPo (am_XS n scr) d mLW 548 (lwL i (some (am_I k)) none) [] (am_hM h M1) r := by
  refine gm_aload_n dL_law__548 rfl ?_
  refine gm_aload_n dL_law__549 rfl ?_
  refine gm_iload dL_law__550 rfl ?_
  refine gm_iconst 1 (v := 1) dL_law__552 (by decide) ?_
  refine gm_iadd dL_law__553 ?_
  refine gm_sald (b + 1) dL_law__554 hR.r1 ?_
  refine gm_callV [_] dL_law__555 ml_L_149 vm_X12_told (sh_54 g) rfl (fun _ => zq _ rfl) hd1 rfl E rfl ?_
  change am_AtG [] lawPo (am_XS n scr) d mLW 558 (lwL i (some (am_I k)) none) [_] _ _
  refine gm_istore dL_law__558 (am_lb rfl) ?_
  refine gm_aload_n dL_law__560 rfl ?_
  refine gm_callV [] dL_law__561 ml_L_126 vm_X12_thrown (sh_54 g) rfl (fun _ => zq _ rfl) hd1 rfl (ef_X12_thrown (d := d1) (h := h) g (M := M2) (v := k) ht) rfl ?_
  change am_AtG [] lawPo (am_XS n scr) d mLW 564 (lwL i (some (am_I k)) (some (am_I w))) [_] _ _
  refine gm_iload dL_law__564 rfl ?_
  refine gm_icmp_eq (5) 571 dL_law__566 rfl (fun hc => ?_) (fun hc => absurd rfl hc)
  refine gm_iload dL_law__571 rfl ?_
  have KK : am_AtG [] lawPo (am_XS n scr) d mLW 588 (lwL i (some (am_I k)) (some (am_I w))) [] (am_hM h M2) r := by
    refine gm_goto (1879) 2467 dL_law__588 rfl ?_
    refine gm_drop 5 ?_
    refine gm_drop 6 ?_
    exact K
  refine gm_if_ne (15) 588 dL_law__573 rfl (fun hc => KK) (fun hc => ?_)
  refine gm_aload_n dL_law__576 rfl ?_
  refine gm_iconst 0 (v := 0) dL_law__577 (by decide) ?_
  refine gm_lald dL_law__578 (sh_82 g) (am_lit rfl) ?_
  refine gm_iload dL_law__579 rfl ?_
  refine gm_i2l dL_law__581 ?_
  refine gm_lcmp dL_law__582 ?_
  refine gm_if_eq (5) 588 dL_law__583 rfl (fun hc => KK) (fun hc2 => absurd ?_ hc2)
  show lg_cmp (am_lg (h.2.2 82 0)) w.toInt64 = 0
  rw [ho hc]
  exact lg_cmp_self _
theorem hd'_board {d d1 n b : Nat} {scr : Nat → Int32} {i : Int32} {r : Nat × Nat} (hR : Rd n b i) {h h1 : am_H} {M M1 : Mem} {k : Int32} {r' : Nat × Nat} (E : am_EvH d1 [(0, 10, 13, 31), (0, 10, 17, 13)] mL_board [.inr (0, 0), am_I (scr (b + 1)), am_I (scr (b + 2)), .inr (82, 0)] (am_hM h M) (am_I k) (am_hM h1 M1)) (hsh : h1.1 = h.1) (hd1 : d1 + 1 ≤ d) (hr1 : r'.1 + 1 ≤ r.1) (hr2 : r'.2 + 6 ≤ r.2) (hr3 : am_nc (am_hM h M) ≤ r'.1) (hr4 : am_ns (am_hM h M) ≤ r'.2) (K : am_AtG [] lawPo (am_XS n scr) d mLW 610 (lwL i (some (am_I k)) none) [] (am_hM h1 M1) r') : am_AtG [] lawPo (am_XS n scr) d mLW 591 (lwL i none none) [] (am_hM h M) r := by
  refine gm_aload_n dL_law__591 rfl ?_
  refine gm_aload_n dL_law__592 rfl ?_
  refine gm_iload dL_law__593 rfl ?_
  refine gm_iconst 1 (v := 1) dL_law__595 (by decide) ?_
  refine gm_iadd dL_law__596 ?_
  refine gm_sald (b + 1) dL_law__597 hR.r1 ?_
  refine gm_aload_n dL_law__598 rfl ?_
  refine gm_iload dL_law__599 rfl ?_
  refine gm_iconst 2 (v := 2) dL_law__601 (by decide) ?_
  refine gm_iadd dL_law__602 ?_
  refine gm_sald (b + 2) dL_law__603 hR.r2 ?_
  refine gm_aload_n dL_law__604 rfl ?_
  refine gm_callH [_, _, _, _] dL_law__605 hl_board hd_board rfl (fun _ => zq _ rfl) hd1 rfl E hsh (fun _ _ _ z => z.2.2) hr1 hr2 hr3 hr4 ?_
  change am_AtG [] lawPo (am_XS n scr) d mLW 608 (lwL i none none) [_] _ _
  refine gm_istore dL_law__608 (am_lb rfl) ?_
  exact K
theorem tl_board {d d1 n b : Nat} {scr : Nat → Int32} {i : Int32} {r : Nat × Nat} (hR : Rd n b i) {h : am_H} {M1 M2 : Mem} {w k : Int32} (g : lay h) (E : am_Ev d1 mX12_board [.inr (54, 0), am_I (scr (b + 1)), am_I (scr (b + 2))] (am_hM h M1) (.inl (some (am_I w), am_hM h M2))) (hd1 : d1 + 1 ≤ d) (ht : f_X12_thrown M2 = k) (ho : k = 0 → am_lg (h.2.2 82 0) = w.toInt64) (K : am_AtG [] lawPo (am_XS n scr) d mLW 2467 (lwL i none none) [] (am_hM h M2) r) : am_AtG [] lawPo (am_XS n scr) d mLW 610 (lwL i (some (am_I k)) none) [] (am_hM h M1) r := by
  refine gm_aload_n dL_law__610 rfl ?_
  refine gm_aload_n dL_law__611 rfl ?_
  refine gm_iload dL_law__612 rfl ?_
  refine gm_iconst 1 (v := 1) dL_law__614 (by decide) ?_
  refine gm_iadd dL_law__615 ?_
  refine gm_sald (b + 1) dL_law__616 hR.r1 ?_
  refine gm_aload_n dL_law__617 rfl ?_
  refine gm_iload dL_law__618 rfl ?_
  refine gm_iconst 2 (v := 2) dL_law__620 (by decide) ?_
  refine gm_iadd dL_law__621 ?_
  refine gm_sald (b + 2) dL_law__622 hR.r2 ?_
  refine gm_callV [_, _] dL_law__623 ml_L_153 vm_X12_board (sh_54 g) rfl (fun _ => zq _ rfl) hd1 rfl E rfl ?_
  change am_AtG [] lawPo (am_XS n scr) d mLW 626 (lwL i (some (am_I k)) none) [_] _ _
  refine gm_istore dL_law__626 (am_lb rfl) ?_
  refine gm_aload_n dL_law__628 rfl ?_
  refine gm_callV [] dL_law__629 ml_L_126 vm_X12_thrown (sh_54 g) rfl (fun _ => zq _ rfl) hd1 rfl (ef_X12_thrown (d := d1) (h := h) g (M := M2) (v := k) ht) rfl ?_
  change am_AtG [] lawPo (am_XS n scr) d mLW 632 (lwL i (some (am_I k)) (some (am_I w))) [_] _ _
  refine gm_iload dL_law__632 rfl ?_
  refine gm_icmp_eq (5) 639 dL_law__634 rfl (fun hc => ?_) (fun hc => absurd rfl hc)
  refine gm_iload dL_law__639 rfl ?_
  have KK : am_AtG [] lawPo (am_XS n scr) d mLW 656 (lwL i (some (am_I k)) (some (am_I w))) [] (am_hM h M2) r := by
    refine gm_goto (1811) 2467 dL_law__656 rfl ?_
    refine gm_drop 5 ?_
    refine gm_drop 6 ?_
    exact K
  refine gm_if_ne (15) 656 dL_law__641 rfl (fun hc => KK) (fun hc => ?_)
  refine gm_aload_n dL_law__644 rfl ?_
  refine gm_iconst 0 (v := 0) dL_law__645 (by decide) ?_
  refine gm_lald dL_law__646 (sh_82 g) (am_lit rfl) ?_
  refine gm_iload dL_law__647 rfl ?_
  refine gm_i2l dL_law__649 ?_
  refine gm_lcmp dL_law__650 ?_
  refine gm_if_eq (5) 656 dL_law__651 rfl (fun hc => KK) (fun hc2 => absurd ?_ hc2)
  show lg_cmp (am_lg (h.2.2 82 0)) w.toInt64 = 0
  rw [ho hc]
  exact lg_cmp_self _
theorem hd'_barge {d d1 n b : Nat} {scr : Nat → Int32} {i : Int32} {r : Nat × Nat} (hR : Rd n b i) {h h1 : am_H} {M M1 : Mem} {k : Int32} {r' : Nat × Nat} (E : am_EvH d1 [(0, 10, 13, 31), (0, 10, 17, 13)] mL_barge [.inr (0, 0), am_I (scr (b + 1)), am_I (scr (b + 2)), .inr (82, 0)] (am_hM h M) (am_I k) (am_hM h1 M1)) (hsh : h1.1 = h.1) (hd1 : d1 + 1 ≤ d) (hr1 : r'.1 + 1 ≤ r.1) (hr2 : r'.2 + 6 ≤ r.2) (hr3 : am_nc (am_hM h M) ≤ r'.1) (hr4 : am_ns (am_hM h M) ≤ r'.2) (K : am_AtG [] lawPo (am_XS n scr) d mLW 678 (lwL i (some (am_I k)) none) [] (am_hM h1 M1) r') : am_AtG [] lawPo (am_XS n scr) d mLW 659 (lwL i none none) [] (am_hM h M) r := by
  refine gm_aload_n dL_law__659 rfl ?_
  refine gm_aload_n dL_law__660 rfl ?_
  refine gm_iload dL_law__661 rfl ?_
  refine gm_iconst 1 (v := 1) dL_law__663 (by decide) ?_
  refine gm_iadd dL_law__664 ?_
  refine gm_sald (b + 1) dL_law__665 hR.r1 ?_
  refine gm_aload_n dL_law__666 rfl ?_
  refine gm_iload dL_law__667 rfl ?_
  refine gm_iconst 2 (v := 2) dL_law__669 (by decide) ?_
  refine gm_iadd dL_law__670 ?_
  refine gm_sald (b + 2) dL_law__671 hR.r2 ?_
  refine gm_aload_n dL_law__672 rfl ?_
  refine gm_callH [_, _, _, _] dL_law__673 hl_barge hd_barge rfl (fun _ => zq _ rfl) hd1 rfl E hsh (fun _ _ _ z => z.2.2) hr1 hr2 hr3 hr4 ?_
  change am_AtG [] lawPo (am_XS n scr) d mLW 676 (lwL i none none) [_] _ _
  refine gm_istore dL_law__676 (am_lb rfl) ?_
  exact K
theorem tl_barge {d d1 n b : Nat} {scr : Nat → Int32} {i : Int32} {r : Nat × Nat} (hR : Rd n b i) {h : am_H} {M1 M2 : Mem} {w k : Int32} (g : lay h) (E : am_Ev d1 mX12_barge [.inr (54, 0), am_I (scr (b + 1)), am_I (scr (b + 2))] (am_hM h M1) (.inl (some (am_I w), am_hM h M2))) (hd1 : d1 + 1 ≤ d) (ht : f_X12_thrown M2 = k) (ho : k = 0 → am_lg (h.2.2 82 0) = w.toInt64) (K : am_AtG [] lawPo (am_XS n scr) d mLW 2467 (lwL i none none) [] (am_hM h M2) r) : am_AtG [] lawPo (am_XS n scr) d mLW 678 (lwL i (some (am_I k)) none) [] (am_hM h M1) r := by
  refine gm_aload_n dL_law__678 rfl ?_
  refine gm_aload_n dL_law__679 rfl ?_
  refine gm_iload dL_law__680 rfl ?_
  refine gm_iconst 1 (v := 1) dL_law__682 (by decide) ?_
  refine gm_iadd dL_law__683 ?_
  refine gm_sald (b + 1) dL_law__684 hR.r1 ?_
  refine gm_aload_n dL_law__685 rfl ?_
  refine gm_iload dL_law__686 rfl ?_
  refine gm_iconst 2 (v := 2) dL_law__688 (by decide) ?_
  refine gm_iadd dL_law__689 ?_
  refine gm_sald (b + 2) dL_law__690 hR.r2 ?_
  refine gm_callV [_, _] dL_law__691 ml_L_156 vm_X12_barge (sh_54 g) rfl (fun _ => zq _ rfl) hd1 rfl E rfl ?_
  change am_AtG [] lawPo (am_XS n scr) d mLW 694 (lwL i (some (am_I k)) none) [_] _ _
  refine gm_istore dL_law__694 (am_lb rfl) ?_
  refine gm_aload_n dL_law__696 rfl ?_
  refine gm_callV [] dL_law__697 ml_L_126 vm_X12_thrown (sh_54 g) rfl (fun _ => zq _ rfl) hd1 rfl (ef_X12_thrown (d := d1) (h := h) g (M := M2) (v := k) ht) rfl ?_
  change am_AtG [] lawPo (am_XS n scr) d mLW 700 (lwL i (some (am_I k)) (some (am_I w))) [_] _ _
  refine gm_iload dL_law__700 rfl ?_
  refine gm_icmp_eq (5) 707 dL_law__702 rfl (fun hc => ?_) (fun hc => absurd rfl hc)
  refine gm_iload dL_law__707 rfl ?_
  have KK : am_AtG [] lawPo (am_XS n scr) d mLW 724 (lwL i (some (am_I k)) (some (am_I w))) [] (am_hM h M2) r := by
    refine gm_goto (1743) 2467 dL_law__724 rfl ?_
    refine gm_drop 5 ?_
    refine gm_drop 6 ?_
    exact K
  refine gm_if_ne (15) 724 dL_law__709 rfl (fun hc => KK) (fun hc => ?_)
  refine gm_aload_n dL_law__712 rfl ?_
  refine gm_iconst 0 (v := 0) dL_law__713 (by decide) ?_
  refine gm_lald dL_law__714 (sh_82 g) (am_lit rfl) ?_
  refine gm_iload dL_law__715 rfl ?_
  refine gm_i2l dL_law__717 ?_
  refine gm_lcmp dL_law__718 ?_
  refine gm_if_eq (5) 724 dL_law__719 rfl (fun hc => KK) (fun hc2 => absurd ?_ hc2)
  show lg_cmp (am_lg (h.2.2 82 0)) w.toInt64 = 0
  rw [ho hc]
  exact lg_cmp_self _
theorem hd'_street {d d1 n b : Nat} {scr : Nat → Int32} {i : Int32} {r : Nat × Nat} (hR : Rd n b i) {h h1 : am_H} {M M1 : Mem} {k : Int32} {r' : Nat × Nat} (E : am_EvH d1 [(0, 10, 13, 31), (0, 10, 17, 13)] mL_street [.inr (0, 0), am_I (scr (b + 1)), am_I (scr (b + 2)), .inr (82, 0)] (am_hM h M) (am_I k) (am_hM h1 M1)) (hsh : h1.1 = h.1) (hd1 : d1 + 1 ≤ d) (hr1 : r'.1 + 1 ≤ r.1) (hr2 : r'.2 + 6 ≤ r.2) (hr3 : am_nc (am_hM h M) ≤ r'.1) (hr4 : am_ns (am_hM h M) ≤ r'.2) (K : am_AtG [] lawPo (am_XS n scr) d mLW 746 (lwL i (some (am_I k)) none) [] (am_hM h1 M1) r') : am_AtG [] lawPo (am_XS n scr) d mLW 727 (lwL i none none) [] (am_hM h M) r := by
  refine gm_aload_n dL_law__727 rfl ?_
  refine gm_aload_n dL_law__728 rfl ?_
  refine gm_iload dL_law__729 rfl ?_
  refine gm_iconst 1 (v := 1) dL_law__731 (by decide) ?_
  refine gm_iadd dL_law__732 ?_
  refine gm_sald (b + 1) dL_law__733 hR.r1 ?_
  refine gm_aload_n dL_law__734 rfl ?_
  refine gm_iload dL_law__735 rfl ?_
  refine gm_iconst 2 (v := 2) dL_law__737 (by decide) ?_
  refine gm_iadd dL_law__738 ?_
  refine gm_sald (b + 2) dL_law__739 hR.r2 ?_
  refine gm_aload_n dL_law__740 rfl ?_
  refine gm_callH [_, _, _, _] dL_law__741 hl_street hd_street rfl (fun _ => zq _ rfl) hd1 rfl E hsh (fun _ _ _ z => z.2.2) hr1 hr2 hr3 hr4 ?_
  change am_AtG [] lawPo (am_XS n scr) d mLW 744 (lwL i none none) [_] _ _
  refine gm_istore dL_law__744 (am_lb rfl) ?_
  exact K
theorem tl_street {d d1 n b : Nat} {scr : Nat → Int32} {i : Int32} {r : Nat × Nat} (hR : Rd n b i) {h : am_H} {M1 M2 : Mem} {w k : Int32} (g : lay h) (E : am_Ev d1 mX12_street [.inr (54, 0), am_I (scr (b + 1)), am_I (scr (b + 2))] (am_hM h M1) (.inl (some (am_I w), am_hM h M2))) (hd1 : d1 + 1 ≤ d) (ht : f_X12_thrown M2 = k) (ho : k = 0 → am_lg (h.2.2 82 0) = w.toInt64) (K : am_AtG [] lawPo (am_XS n scr) d mLW 2467 (lwL i none none) [] (am_hM h M2) r) : am_AtG [] lawPo (am_XS n scr) d mLW 746 (lwL i (some (am_I k)) none) [] (am_hM h M1) r := by
  refine gm_aload_n dL_law__746 rfl ?_
  refine gm_aload_n dL_law__747 rfl ?_
  refine gm_iload dL_law__748 rfl ?_
  refine gm_iconst 1 (v := 1) dL_law__750 (by decide) ?_
  refine gm_iadd dL_law__751 ?_
  refine gm_sald (b + 1) dL_law__752 hR.r1 ?_
  refine gm_aload_n dL_law__753 rfl ?_
  refine gm_iload dL_law__754 rfl ?_
  refine gm_iconst 2 (v := 2) dL_law__756 (by decide) ?_
  refine gm_iadd dL_law__757 ?_
  refine gm_sald (b + 2) dL_law__758 hR.r2 ?_
  refine gm_callV [_, _] dL_law__759 ml_L_159 vm_X12_street (sh_54 g) rfl (fun _ => zq _ rfl) hd1 rfl E rfl ?_
  change am_AtG [] lawPo (am_XS n scr) d mLW 762 (lwL i (some (am_I k)) none) [_] _ _
  refine gm_istore dL_law__762 (am_lb rfl) ?_
  refine gm_aload_n dL_law__764 rfl ?_
  refine gm_callV [] dL_law__765 ml_L_126 vm_X12_thrown (sh_54 g) rfl (fun _ => zq _ rfl) hd1 rfl (ef_X12_thrown (d := d1) (h := h) g (M := M2) (v := k) ht) rfl ?_
  change am_AtG [] lawPo (am_XS n scr) d mLW 768 (lwL i (some (am_I k)) (some (am_I w))) [_] _ _
  refine gm_iload dL_law__768 rfl ?_
  refine gm_icmp_eq (5) 775 dL_law__770 rfl (fun hc => ?_) (fun hc => absurd rfl hc)
  refine gm_iload dL_law__775 rfl ?_
  have KK : am_AtG [] lawPo (am_XS n scr) d mLW 792 (lwL i (some (am_I k)) (some (am_I w))) [] (am_hM h M2) r := by
    refine gm_goto (1675) 2467 dL_law__792 rfl ?_
    refine gm_drop 5 ?_
    refine gm_drop 6 ?_
    exact K
  refine gm_if_ne (15) 792 dL_law__777 rfl (fun hc => KK) (fun hc => ?_)
  refine gm_aload_n dL_law__780 rfl ?_
  refine gm_iconst 0 (v := 0) dL_law__781 (by decide) ?_
  refine gm_lald dL_law__782 (sh_82 g) (am_lit rfl) ?_
  refine gm_iload dL_law__783 rfl ?_
  refine gm_i2l dL_law__785 ?_
  refine gm_lcmp dL_law__786 ?_
  refine gm_if_eq (5) 792 dL_law__787 rfl (fun hc => KK) (fun hc2 => absurd ?_ hc2)
  show lg_cmp (am_lg (h.2.2 82 0)) w.toInt64 = 0
  rw [ho hc]
  exact lg_cmp_self _
theorem hd'_lawful {d d1 n b : Nat} {scr : Nat → Int32} {i : Int32} {r : Nat × Nat} (hR : Rd n b i) {h h1 : am_H} {M M1 : Mem} {k : Int32} {r' : Nat × Nat} (E : am_EvH d1 [(0, 19, 22, 31), (0, 19, 26, 13)] mL_lawful [.inr (0, 0), am_I (scr (b + 1)), am_I (scr (b + 2)), am_I (scr (b + 3)), .inr (82, 0)] (am_hM h M) (am_I k) (am_hM h1 M1)) (hsh : h1.1 = h.1) (hd1 : d1 + 1 ≤ d) (hr1 : r'.1 + 1 ≤ r.1) (hr2 : r'.2 + 6 ≤ r.2) (hr3 : am_nc (am_hM h M) ≤ r'.1) (hr4 : am_ns (am_hM h M) ≤ r'.2) (K : am_AtG [] lawPo (am_XS n scr) d mLW 820 (lwL i (some (am_I k)) none) [] (am_hM h1 M1) r') : am_AtG [] lawPo (am_XS n scr) d mLW 795 (lwL i none none) [] (am_hM h M) r := by
  refine gm_aload_n dL_law__795 rfl ?_
  refine gm_aload_n dL_law__796 rfl ?_
  refine gm_iload dL_law__797 rfl ?_
  refine gm_iconst 1 (v := 1) dL_law__799 (by decide) ?_
  refine gm_iadd dL_law__800 ?_
  refine gm_sald (b + 1) dL_law__801 hR.r1 ?_
  refine gm_aload_n dL_law__802 rfl ?_
  refine gm_iload dL_law__803 rfl ?_
  refine gm_iconst 2 (v := 2) dL_law__805 (by decide) ?_
  refine gm_iadd dL_law__806 ?_
  refine gm_sald (b + 2) dL_law__807 hR.r2 ?_
  refine gm_aload_n dL_law__808 rfl ?_
  refine gm_iload dL_law__809 rfl ?_
  refine gm_iconst 3 (v := 3) dL_law__811 (by decide) ?_
  refine gm_iadd dL_law__812 ?_
  refine gm_sald (b + 3) dL_law__813 hR.r3 ?_
  refine gm_aload_n dL_law__814 rfl ?_
  refine gm_callH [_, _, _, _, _] dL_law__815 hl_lawful hd_lawful rfl (fun _ => zq _ rfl) hd1 rfl E hsh (fun _ _ _ z => z.2.2) hr1 hr2 hr3 hr4 ?_
  change am_AtG [] lawPo (am_XS n scr) d mLW 818 (lwL i none none) [_] _ _
  refine gm_istore dL_law__818 (am_lb rfl) ?_
  exact K
theorem tl_lawful {d d1 n b : Nat} {scr : Nat → Int32} {i : Int32} {r : Nat × Nat} (hR : Rd n b i) {h : am_H} {M1 M2 : Mem} {w k : Int32} (g : lay h) (E : am_Ev d1 mX12_lawful [.inr (54, 0), am_I (scr (b + 1)), am_I (scr (b + 2)), am_I (scr (b + 3))] (am_hM h M1) (.inl (some (am_I w), am_hM h M2))) (hd1 : d1 + 1 ≤ d) (ht : f_X12_thrown M2 = k) (ho : k = 0 → am_lg (h.2.2 82 0) = w.toInt64) (hw : w = 0 ∨ w = 1) (K : am_AtG [] lawPo (am_XS n scr) d mLW 2467 (lwL i none none) [] (am_hM h M2) r) : am_AtG [] lawPo (am_XS n scr) d mLW 820 (lwL i (some (am_I k)) none) [] (am_hM h M1) r := by
  refine gm_aload_n dL_law__820 rfl ?_
  refine gm_aload_n dL_law__821 rfl ?_
  refine gm_iload dL_law__822 rfl ?_
  refine gm_iconst 1 (v := 1) dL_law__824 (by decide) ?_
  refine gm_iadd dL_law__825 ?_
  refine gm_sald (b + 1) dL_law__826 hR.r1 ?_
  refine gm_aload_n dL_law__827 rfl ?_
  refine gm_iload dL_law__828 rfl ?_
  refine gm_iconst 2 (v := 2) dL_law__830 (by decide) ?_
  refine gm_iadd dL_law__831 ?_
  refine gm_sald (b + 2) dL_law__832 hR.r2 ?_
  refine gm_aload_n dL_law__833 rfl ?_
  refine gm_iload dL_law__834 rfl ?_
  refine gm_iconst 3 (v := 3) dL_law__836 (by decide) ?_
  refine gm_iadd dL_law__837 ?_
  refine gm_sald (b + 3) dL_law__838 hR.r3 ?_
  refine gm_callV [_, _, _] dL_law__839 ml_L_163 vm_X12_lawful (sh_54 g) rfl (fun _ => zq _ rfl) hd1 rfl E rfl ?_
  change am_AtG [] lawPo (am_XS n scr) d mLW 842 (lwL i (some (am_I k)) none) [_] _ _
  refine gm_istore dL_law__842 (am_lb rfl) ?_
  refine gm_aload_n dL_law__844 rfl ?_
  refine gm_callV [] dL_law__845 ml_L_126 vm_X12_thrown (sh_54 g) rfl (fun _ => zq _ rfl) hd1 rfl (ef_X12_thrown (d := d1) (h := h) g (M := M2) (v := k) ht) rfl ?_
  change am_AtG [] lawPo (am_XS n scr) d mLW 848 (lwL i (some (am_I k)) (some (am_I w))) [_] _ _
  refine gm_iload dL_law__848 rfl ?_
  refine gm_icmp_eq (5) 855 dL_law__850 rfl (fun hc => ?_) (fun hc => absurd rfl hc)
  refine gm_iload dL_law__855 rfl ?_
  have KK : am_AtG [] lawPo (am_XS n scr) d mLW 879 (lwL i (some (am_I k)) (some (am_I w))) [] (am_hM h M2) r := by
    refine gm_goto (1588) 2467 dL_law__879 rfl ?_
    refine gm_drop 5 ?_
    refine gm_drop 6 ?_
    exact K
  refine gm_if_ne (22) 879 dL_law__857 rfl (fun hc => KK) (fun hc => ?_)
  refine gm_aload_n dL_law__860 rfl ?_
  refine gm_iconst 0 (v := 0) dL_law__861 (by decide) ?_
  refine gm_lald dL_law__862 (sh_82 g) (am_lit rfl) ?_
  refine gm_iload dL_law__863 rfl ?_
  refine gm_if_eq (7) 872 dL_law__865 rfl (fun hz => ?_) (fun hz => ?_)
  · refine gm_lconst (v := Int32.toInt64 0) dL_law__872 (by decide) ?_
    refine gm_lcmp dL_law__873 ?_
    refine gm_if_eq (5) 879 dL_law__874 rfl (fun hc => KK) (fun hc2 => absurd ?_ hc2)
    show lg_cmp (am_lg (h.2.2 82 0)) (Int32.toInt64 0) = 0
    rw [ho hc, hz]
    exact lg_cmp_self _
  · refine gm_lconst (v := Int32.toInt64 1) dL_law__868 (by decide) ?_
    refine gm_goto (4) 873 dL_law__869 rfl ?_
    refine gm_lcmp dL_law__873 ?_
    refine gm_if_eq (5) 879 dL_law__874 rfl (fun hc => KK) (fun hc2 => absurd ?_ hc2)
    show lg_cmp (am_lg (h.2.2 82 0)) (Int32.toInt64 1) = 0
    rcases hw with hw | hw
    · exact absurd hw hz
    · rw [ho hc, hw]
      exact lg_cmp_self _
theorem hd'_opens {d d1 n b : Nat} {scr : Nat → Int32} {i : Int32} {r : Nat × Nat} (hR : Rd n b i) {h h1 : am_H} {M M1 : Mem} {k : Int32} {r' : Nat × Nat} (E : am_EvH d1 [(0, 9, 12, 31)] mL_opens [.inr (0, 0), am_I (scr (b + 1)), .inr (82, 0)] (am_hM h M) (am_I k) (am_hM h1 M1)) (hsh : h1.1 = h.1) (hd1 : d1 + 1 ≤ d) (hr1 : r'.1 + 1 ≤ r.1) (hr2 : r'.2 + 6 ≤ r.2) (hr3 : am_nc (am_hM h M) ≤ r'.1) (hr4 : am_ns (am_hM h M) ≤ r'.2) (K : am_AtG [] lawPo (am_XS n scr) d mLW 895 (lwL i (some (am_I k)) none) [] (am_hM h1 M1) r') : am_AtG [] lawPo (am_XS n scr) d mLW 882 (lwL i none none) [] (am_hM h M) r := by
  refine gm_aload_n dL_law__882 rfl ?_
  refine gm_aload_n dL_law__883 rfl ?_
  refine gm_iload dL_law__884 rfl ?_
  refine gm_iconst 1 (v := 1) dL_law__886 (by decide) ?_
  refine gm_iadd dL_law__887 ?_
  refine gm_sald (b + 1) dL_law__888 hR.r1 ?_
  refine gm_aload_n dL_law__889 rfl ?_
  refine gm_callH [_, _, _] dL_law__890 hl_opens hd_opens rfl (fun _ => zq _ rfl) hd1 rfl E hsh (fun _ _ _ z => z.2.2) hr1 hr2 hr3 hr4 ?_
  change am_AtG [] lawPo (am_XS n scr) d mLW 893 (lwL i none none) [_] _ _
  refine gm_istore dL_law__893 (am_lb rfl) ?_
  exact K
theorem tl_opens {d d1 n b : Nat} {scr : Nat → Int32} {i : Int32} {r : Nat × Nat} (hR : Rd n b i) {h : am_H} {M1 M2 : Mem} {w k : Int32} (g : lay h) (E : am_Ev d1 mX12_opens [.inr (54, 0), am_I (scr (b + 1))] (am_hM h M1) (.inl (some (am_I w), am_hM h M2))) (hd1 : d1 + 1 ≤ d) (ht : f_X12_thrown M2 = k) (ho : k = 0 → am_lg (h.2.2 82 0) = w.toInt64) (K : am_AtG [] lawPo (am_XS n scr) d mLW 2467 (lwL i none none) [] (am_hM h M2) r) : am_AtG [] lawPo (am_XS n scr) d mLW 895 (lwL i (some (am_I k)) none) [] (am_hM h M1) r := by
  refine gm_aload_n dL_law__895 rfl ?_
  refine gm_aload_n dL_law__896 rfl ?_
  refine gm_iload dL_law__897 rfl ?_
  refine gm_iconst 1 (v := 1) dL_law__899 (by decide) ?_
  refine gm_iadd dL_law__900 ?_
  refine gm_sald (b + 1) dL_law__901 hR.r1 ?_
  refine gm_callV [_] dL_law__902 ml_L_166 vm_X12_opens (sh_54 g) rfl (fun _ => zq _ rfl) hd1 rfl E rfl ?_
  change am_AtG [] lawPo (am_XS n scr) d mLW 905 (lwL i (some (am_I k)) none) [_] _ _
  refine gm_istore dL_law__905 (am_lb rfl) ?_
  refine gm_aload_n dL_law__907 rfl ?_
  refine gm_callV [] dL_law__908 ml_L_126 vm_X12_thrown (sh_54 g) rfl (fun _ => zq _ rfl) hd1 rfl (ef_X12_thrown (d := d1) (h := h) g (M := M2) (v := k) ht) rfl ?_
  change am_AtG [] lawPo (am_XS n scr) d mLW 911 (lwL i (some (am_I k)) (some (am_I w))) [_] _ _
  refine gm_iload dL_law__911 rfl ?_
  refine gm_icmp_eq (5) 918 dL_law__913 rfl (fun hc => ?_) (fun hc => absurd rfl hc)
  refine gm_iload dL_law__918 rfl ?_
  have KK : am_AtG [] lawPo (am_XS n scr) d mLW 935 (lwL i (some (am_I k)) (some (am_I w))) [] (am_hM h M2) r := by
    refine gm_goto (1532) 2467 dL_law__935 rfl ?_
    refine gm_drop 5 ?_
    refine gm_drop 6 ?_
    exact K
  refine gm_if_ne (15) 935 dL_law__920 rfl (fun hc => KK) (fun hc => ?_)
  refine gm_aload_n dL_law__923 rfl ?_
  refine gm_iconst 0 (v := 0) dL_law__924 (by decide) ?_
  refine gm_lald dL_law__925 (sh_82 g) (am_lit rfl) ?_
  refine gm_iload dL_law__926 rfl ?_
  refine gm_i2l dL_law__928 ?_
  refine gm_lcmp dL_law__929 ?_
  refine gm_if_eq (5) 935 dL_law__930 rfl (fun hc => KK) (fun hc2 => absurd ?_ hc2)
  show lg_cmp (am_lg (h.2.2 82 0)) w.toInt64 = 0
  rw [ho hc]
  exact lg_cmp_self _
theorem hd'_often {d d1 n b : Nat} {scr : Nat → Int32} {i : Int32} {r : Nat × Nat} (hR : Rd n b i) {h h1 : am_H} {M M1 : Mem} {k : Int32} {r' : Nat × Nat} (E : am_EvH d1 [(0, 10, 13, 31), (0, 10, 17, 13)] mL_often [.inr (0, 0), am_I (scr (b + 1)), am_I (scr (b + 2)), .inr (82, 0)] (am_hM h M) (am_I k) (am_hM h1 M1)) (hsh : h1.1 = h.1) (hd1 : d1 + 1 ≤ d) (hr1 : r'.1 + 1 ≤ r.1) (hr2 : r'.2 + 6 ≤ r.2) (hr3 : am_nc (am_hM h M) ≤ r'.1) (hr4 : am_ns (am_hM h M) ≤ r'.2) (K : am_AtG [] lawPo (am_XS n scr) d mLW 957 (lwL i (some (am_I k)) none) [] (am_hM h1 M1) r') : am_AtG [] lawPo (am_XS n scr) d mLW 938 (lwL i none none) [] (am_hM h M) r := by
  refine gm_aload_n dL_law__938 rfl ?_
  refine gm_aload_n dL_law__939 rfl ?_
  refine gm_iload dL_law__940 rfl ?_
  refine gm_iconst 1 (v := 1) dL_law__942 (by decide) ?_
  refine gm_iadd dL_law__943 ?_
  refine gm_sald (b + 1) dL_law__944 hR.r1 ?_
  refine gm_aload_n dL_law__945 rfl ?_
  refine gm_iload dL_law__946 rfl ?_
  refine gm_iconst 2 (v := 2) dL_law__948 (by decide) ?_
  refine gm_iadd dL_law__949 ?_
  refine gm_sald (b + 2) dL_law__950 hR.r2 ?_
  refine gm_aload_n dL_law__951 rfl ?_
  refine gm_callH [_, _, _, _] dL_law__952 hl_often hd_often rfl (fun _ => zq _ rfl) hd1 rfl E hsh (fun _ _ _ z => z.2.2) hr1 hr2 hr3 hr4 ?_
  change am_AtG [] lawPo (am_XS n scr) d mLW 955 (lwL i none none) [_] _ _
  refine gm_istore dL_law__955 (am_lb rfl) ?_
  exact K
theorem tl_often {d d1 n b : Nat} {scr : Nat → Int32} {i : Int32} {r : Nat × Nat} (hR : Rd n b i) {h : am_H} {M1 M2 : Mem} {w k : Int32} (g : lay h) (E : am_Ev d1 mX12_often [.inr (54, 0), am_I (scr (b + 1)), am_I (scr (b + 2))] (am_hM h M1) (.inl (some (am_I w), am_hM h M2))) (hd1 : d1 + 1 ≤ d) (ht : f_X12_thrown M2 = k) (ho : k = 0 → am_lg (h.2.2 82 0) = w.toInt64) (K : am_AtG [] lawPo (am_XS n scr) d mLW 2467 (lwL i none none) [] (am_hM h M2) r) : am_AtG [] lawPo (am_XS n scr) d mLW 957 (lwL i (some (am_I k)) none) [] (am_hM h M1) r := by
  refine gm_aload_n dL_law__957 rfl ?_
  refine gm_aload_n dL_law__958 rfl ?_
  refine gm_iload dL_law__959 rfl ?_
  refine gm_iconst 1 (v := 1) dL_law__961 (by decide) ?_
  refine gm_iadd dL_law__962 ?_
  refine gm_sald (b + 1) dL_law__963 hR.r1 ?_
  refine gm_aload_n dL_law__964 rfl ?_
  refine gm_iload dL_law__965 rfl ?_
  refine gm_iconst 2 (v := 2) dL_law__967 (by decide) ?_
  refine gm_iadd dL_law__968 ?_
  refine gm_sald (b + 2) dL_law__969 hR.r2 ?_
  refine gm_callV [_, _] dL_law__970 ml_L_169 vm_X12_often (sh_54 g) rfl (fun _ => zq _ rfl) hd1 rfl E rfl ?_
  change am_AtG [] lawPo (am_XS n scr) d mLW 973 (lwL i (some (am_I k)) none) [_] _ _
  refine gm_istore dL_law__973 (am_lb rfl) ?_
  refine gm_aload_n dL_law__975 rfl ?_
  refine gm_callV [] dL_law__976 ml_L_126 vm_X12_thrown (sh_54 g) rfl (fun _ => zq _ rfl) hd1 rfl (ef_X12_thrown (d := d1) (h := h) g (M := M2) (v := k) ht) rfl ?_
  change am_AtG [] lawPo (am_XS n scr) d mLW 979 (lwL i (some (am_I k)) (some (am_I w))) [_] _ _
  refine gm_iload dL_law__979 rfl ?_
  refine gm_icmp_eq (5) 986 dL_law__981 rfl (fun hc => ?_) (fun hc => absurd rfl hc)
  refine gm_iload dL_law__986 rfl ?_
  have KK : am_AtG [] lawPo (am_XS n scr) d mLW 1003 (lwL i (some (am_I k)) (some (am_I w))) [] (am_hM h M2) r := by
    refine gm_goto (1464) 2467 dL_law__1003 rfl ?_
    refine gm_drop 5 ?_
    refine gm_drop 6 ?_
    exact K
  refine gm_if_ne (15) 1003 dL_law__988 rfl (fun hc => KK) (fun hc => ?_)
  refine gm_aload_n dL_law__991 rfl ?_
  refine gm_iconst 0 (v := 0) dL_law__992 (by decide) ?_
  refine gm_lald dL_law__993 (sh_82 g) (am_lit rfl) ?_
  refine gm_iload dL_law__994 rfl ?_
  refine gm_i2l dL_law__996 ?_
  refine gm_lcmp dL_law__997 ?_
  refine gm_if_eq (5) 1003 dL_law__998 rfl (fun hc => KK) (fun hc2 => absurd ?_ hc2)
  show lg_cmp (am_lg (h.2.2 82 0)) w.toInt64 = 0
  rw [ho hc]
  exact lg_cmp_self _
theorem pl_busiest {d d1 n b : Nat} {scr : Nat → Int32} {i : Int32} {r : Nat × Nat} (hR : Rd n b i) {h : am_H} {M M1 M2 : Mem} {v : Int32} (g : lay h) (E1 : am_Ev d1 mX11_busiest [.inr (0, 0)] (am_hM h M) (.inl (some (am_I v), am_hM h M1))) (E2 : am_Ev d1 mX12_busiest [.inr (54, 0)] (am_hM h M1) (.inl (some (am_I v), am_hM h M2))) (hd1 : d1 + 1 ≤ d) (K : am_AtG [] lawPo (am_XS n scr) d mLW 2467 (lwL i none none) [] (am_hM h M2) r) : am_AtG [] lawPo (am_XS n scr) d mLW 1006 (lwL i none none) [] (am_hM h M) r := by
  refine gm_aload_n dL_law__1006 rfl ?_
  refine gm_callV [] dL_law__1007 ml_L_170 vm_X11_busiest (sh_0 g) rfl (fun _ => zq _ rfl) hd1 rfl E1 rfl ?_
  change am_AtG [] lawPo (am_XS n scr) d mLW 1010 (lwL i none none) [_] _ _
  refine gm_aload_n dL_law__1010 rfl ?_
  refine gm_callV [] dL_law__1011 ml_L_173 vm_X12_busiest (sh_54 g) rfl (fun _ => zq _ rfl) hd1 rfl E2 rfl ?_
  change am_AtG [] lawPo (am_XS n scr) d mLW 1014 (lwL i none none) [_, _] _ _
  exact gm_icmp_eq (1453) 2467 dL_law__1014 rfl (fun hc => K) (fun hc => absurd rfl hc)
theorem hd'_trip {d d1 n b : Nat} {scr : Nat → Int32} {i : Int32} {r : Nat × Nat} (hR : Rd n b i) {h h1 : am_H} {M M1 : Mem} {k : Int32} {r' : Nat × Nat} (E : am_EvH d1 [(0, 12, 15, 13)] mL_trip [.inr (0, 0), am_I (scr (b + 1)), am_I (scr (b + 2)), am_I (scr (b + 3)), .inr (82, 0)] (am_hM h M) (am_I k) (am_hM h1 M1)) (hsh : h1.1 = h.1) (hd1 : d1 + 1 ≤ d) (hr1 : r'.1 + 1 ≤ r.1) (hr2 : r'.2 + 6 ≤ r.2) (hr3 : am_nc (am_hM h M) ≤ r'.1) (hr4 : am_ns (am_hM h M) ≤ r'.2) (K : am_AtG [] lawPo (am_XS n scr) d mLW 1044 (lwL i (some (am_I k)) none) [] (am_hM h1 M1) r') : am_AtG [] lawPo (am_XS n scr) d mLW 1019 (lwL i none none) [] (am_hM h M) r := by
  refine gm_aload_n dL_law__1019 rfl ?_
  refine gm_aload_n dL_law__1020 rfl ?_
  refine gm_iload dL_law__1021 rfl ?_
  refine gm_iconst 1 (v := 1) dL_law__1023 (by decide) ?_
  refine gm_iadd dL_law__1024 ?_
  refine gm_sald (b + 1) dL_law__1025 hR.r1 ?_
  refine gm_aload_n dL_law__1026 rfl ?_
  refine gm_iload dL_law__1027 rfl ?_
  refine gm_iconst 2 (v := 2) dL_law__1029 (by decide) ?_
  refine gm_iadd dL_law__1030 ?_
  refine gm_sald (b + 2) dL_law__1031 hR.r2 ?_
  refine gm_aload_n dL_law__1032 rfl ?_
  refine gm_iload dL_law__1033 rfl ?_
  refine gm_iconst 3 (v := 3) dL_law__1035 (by decide) ?_
  refine gm_iadd dL_law__1036 ?_
  refine gm_sald (b + 3) dL_law__1037 hR.r3 ?_
  refine gm_aload_n dL_law__1038 rfl ?_
  refine gm_callH [_, _, _, _, _] dL_law__1039 hl_trip hd_trip rfl (fun _ => zq _ rfl) hd1 rfl E hsh (fun _ _ _ z => z.2.2) hr1 hr2 hr3 hr4 ?_
  change am_AtG [] lawPo (am_XS n scr) d mLW 1042 (lwL i none none) [_] _ _
  refine gm_istore dL_law__1042 (am_lb rfl) ?_
  exact K
theorem tl_trip {d d1 n b : Nat} {scr : Nat → Int32} {i : Int32} {r : Nat × Nat} (hR : Rd n b i) {h : am_H} {M1 M2 : Mem} {w k : Int32} (g : lay h) (E : am_Ev d1 mX12_trip [.inr (54, 0), am_I (scr (b + 1)), am_I (scr (b + 2)), am_I (scr (b + 3))] (am_hM h M1) (.inl (some (am_I w), am_hM h M2))) (hd1 : d1 + 1 ≤ d) (ht : f_X12_thrown M2 = k) (ho : k = 0 → am_lg (h.2.2 82 0) = w.toInt64) (K : am_AtG [] lawPo (am_XS n scr) d mLW 2467 (lwL i none none) [] (am_hM h M2) r) : am_AtG [] lawPo (am_XS n scr) d mLW 1044 (lwL i (some (am_I k)) none) [] (am_hM h M1) r := by
  refine gm_aload_n dL_law__1044 rfl ?_
  refine gm_aload_n dL_law__1045 rfl ?_
  refine gm_iload dL_law__1046 rfl ?_
  refine gm_iconst 1 (v := 1) dL_law__1048 (by decide) ?_
  refine gm_iadd dL_law__1049 ?_
  refine gm_sald (b + 1) dL_law__1050 hR.r1 ?_
  refine gm_aload_n dL_law__1051 rfl ?_
  refine gm_iload dL_law__1052 rfl ?_
  refine gm_iconst 2 (v := 2) dL_law__1054 (by decide) ?_
  refine gm_iadd dL_law__1055 ?_
  refine gm_sald (b + 2) dL_law__1056 hR.r2 ?_
  refine gm_aload_n dL_law__1057 rfl ?_
  refine gm_iload dL_law__1058 rfl ?_
  refine gm_iconst 3 (v := 3) dL_law__1060 (by decide) ?_
  refine gm_iadd dL_law__1061 ?_
  refine gm_sald (b + 3) dL_law__1062 hR.r3 ?_
  refine gm_callV [_, _, _] dL_law__1063 ml_L_176 vm_X12_trip (sh_54 g) rfl (fun _ => zq _ rfl) hd1 rfl E rfl ?_
  change am_AtG [] lawPo (am_XS n scr) d mLW 1066 (lwL i (some (am_I k)) none) [_] _ _
  refine gm_istore dL_law__1066 (am_lb rfl) ?_
  refine gm_aload_n dL_law__1068 rfl ?_
  refine gm_callV [] dL_law__1069 ml_L_126 vm_X12_thrown (sh_54 g) rfl (fun _ => zq _ rfl) hd1 rfl (ef_X12_thrown (d := d1) (h := h) g (M := M2) (v := k) ht) rfl ?_
  change am_AtG [] lawPo (am_XS n scr) d mLW 1072 (lwL i (some (am_I k)) (some (am_I w))) [_] _ _
  refine gm_iload dL_law__1072 rfl ?_
  refine gm_icmp_eq (5) 1079 dL_law__1074 rfl (fun hc => ?_) (fun hc => absurd rfl hc)
  refine gm_iload dL_law__1079 rfl ?_
  have KK : am_AtG [] lawPo (am_XS n scr) d mLW 1096 (lwL i (some (am_I k)) (some (am_I w))) [] (am_hM h M2) r := by
    refine gm_goto (1371) 2467 dL_law__1096 rfl ?_
    refine gm_drop 5 ?_
    refine gm_drop 6 ?_
    exact K
  refine gm_if_ne (15) 1096 dL_law__1081 rfl (fun hc => KK) (fun hc => ?_)
  refine gm_aload_n dL_law__1084 rfl ?_
  refine gm_iconst 0 (v := 0) dL_law__1085 (by decide) ?_
  refine gm_lald dL_law__1086 (sh_82 g) (am_lit rfl) ?_
  refine gm_iload dL_law__1087 rfl ?_
  refine gm_i2l dL_law__1089 ?_
  refine gm_lcmp dL_law__1090 ?_
  refine gm_if_eq (5) 1096 dL_law__1091 rfl (fun hc => KK) (fun hc2 => absurd ?_ hc2)
  show lg_cmp (am_lg (h.2.2 82 0)) w.toInt64 = 0
  rw [ho hc]
  exact lg_cmp_self _
theorem hd'_soonest {d d1 n b : Nat} {scr : Nat → Int32} {i : Int32} {r : Nat × Nat} (hR : Rd n b i) {h h1 : am_H} {M M1 : Mem} {k : Int32} {r' : Nat × Nat} (E : am_EvH d1 [(0, 12, 15, 13)] mL_soonest [.inr (0, 0), am_I (scr (b + 1)), am_I (scr (b + 2)), am_I (scr (b + 3)), .inr (82, 0)] (am_hM h M) (am_I k) (am_hM h1 M1)) (hsh : h1.1 = h.1) (hd1 : d1 + 1 ≤ d) (hr1 : r'.1 + 1 ≤ r.1) (hr2 : r'.2 + 6 ≤ r.2) (hr3 : am_nc (am_hM h M) ≤ r'.1) (hr4 : am_ns (am_hM h M) ≤ r'.2) (K : am_AtG [] lawPo (am_XS n scr) d mLW 1124 (lwL i (some (am_I k)) none) [] (am_hM h1 M1) r') : am_AtG [] lawPo (am_XS n scr) d mLW 1099 (lwL i none none) [] (am_hM h M) r := by
  refine gm_aload_n dL_law__1099 rfl ?_
  refine gm_aload_n dL_law__1100 rfl ?_
  refine gm_iload dL_law__1101 rfl ?_
  refine gm_iconst 1 (v := 1) dL_law__1103 (by decide) ?_
  refine gm_iadd dL_law__1104 ?_
  refine gm_sald (b + 1) dL_law__1105 hR.r1 ?_
  refine gm_aload_n dL_law__1106 rfl ?_
  refine gm_iload dL_law__1107 rfl ?_
  refine gm_iconst 2 (v := 2) dL_law__1109 (by decide) ?_
  refine gm_iadd dL_law__1110 ?_
  refine gm_sald (b + 2) dL_law__1111 hR.r2 ?_
  refine gm_aload_n dL_law__1112 rfl ?_
  refine gm_iload dL_law__1113 rfl ?_
  refine gm_iconst 3 (v := 3) dL_law__1115 (by decide) ?_
  refine gm_iadd dL_law__1116 ?_
  refine gm_sald (b + 3) dL_law__1117 hR.r3 ?_
  refine gm_aload_n dL_law__1118 rfl ?_
  refine gm_callH [_, _, _, _, _] dL_law__1119 hl_soonest hd_soonest rfl (fun _ => zq _ rfl) hd1 rfl E hsh (fun _ _ _ z => z.2.2) hr1 hr2 hr3 hr4 ?_
  change am_AtG [] lawPo (am_XS n scr) d mLW 1122 (lwL i none none) [_] _ _
  refine gm_istore dL_law__1122 (am_lb rfl) ?_
  exact K
theorem tl_soonest {d d1 n b : Nat} {scr : Nat → Int32} {i : Int32} {r : Nat × Nat} (hR : Rd n b i) {h : am_H} {M1 M2 : Mem} {w k : Int32} (g : lay h) (E : am_Ev d1 mX12_soonest [.inr (54, 0), am_I (scr (b + 1)), am_I (scr (b + 2)), am_I (scr (b + 3))] (am_hM h M1) (.inl (some (am_I w), am_hM h M2))) (hd1 : d1 + 1 ≤ d) (ht : f_X12_thrown M2 = k) (ho : k = 0 → am_lg (h.2.2 82 0) = w.toInt64) (K : am_AtG [] lawPo (am_XS n scr) d mLW 2467 (lwL i none none) [] (am_hM h M2) r) : am_AtG [] lawPo (am_XS n scr) d mLW 1124 (lwL i (some (am_I k)) none) [] (am_hM h M1) r := by
  refine gm_aload_n dL_law__1124 rfl ?_
  refine gm_aload_n dL_law__1125 rfl ?_
  refine gm_iload dL_law__1126 rfl ?_
  refine gm_iconst 1 (v := 1) dL_law__1128 (by decide) ?_
  refine gm_iadd dL_law__1129 ?_
  refine gm_sald (b + 1) dL_law__1130 hR.r1 ?_
  refine gm_aload_n dL_law__1131 rfl ?_
  refine gm_iload dL_law__1132 rfl ?_
  refine gm_iconst 2 (v := 2) dL_law__1134 (by decide) ?_
  refine gm_iadd dL_law__1135 ?_
  refine gm_sald (b + 2) dL_law__1136 hR.r2 ?_
  refine gm_aload_n dL_law__1137 rfl ?_
  refine gm_iload dL_law__1138 rfl ?_
  refine gm_iconst 3 (v := 3) dL_law__1140 (by decide) ?_
  refine gm_iadd dL_law__1141 ?_
  refine gm_sald (b + 3) dL_law__1142 hR.r3 ?_
  refine gm_callV [_, _, _] dL_law__1143 ml_L_179 vm_X12_soonest (sh_54 g) rfl (fun _ => zq _ rfl) hd1 rfl E rfl ?_
  change am_AtG [] lawPo (am_XS n scr) d mLW 1146 (lwL i (some (am_I k)) none) [_] _ _
  refine gm_istore dL_law__1146 (am_lb rfl) ?_
  refine gm_aload_n dL_law__1148 rfl ?_
  refine gm_callV [] dL_law__1149 ml_L_126 vm_X12_thrown (sh_54 g) rfl (fun _ => zq _ rfl) hd1 rfl (ef_X12_thrown (d := d1) (h := h) g (M := M2) (v := k) ht) rfl ?_
  change am_AtG [] lawPo (am_XS n scr) d mLW 1152 (lwL i (some (am_I k)) (some (am_I w))) [_] _ _
  refine gm_iload dL_law__1152 rfl ?_
  refine gm_icmp_eq (5) 1159 dL_law__1154 rfl (fun hc => ?_) (fun hc => absurd rfl hc)
  refine gm_iload dL_law__1159 rfl ?_
  have KK : am_AtG [] lawPo (am_XS n scr) d mLW 1176 (lwL i (some (am_I k)) (some (am_I w))) [] (am_hM h M2) r := by
    refine gm_goto (1291) 2467 dL_law__1176 rfl ?_
    refine gm_drop 5 ?_
    refine gm_drop 6 ?_
    exact K
  refine gm_if_ne (15) 1176 dL_law__1161 rfl (fun hc => KK) (fun hc => ?_)
  refine gm_aload_n dL_law__1164 rfl ?_
  refine gm_iconst 0 (v := 0) dL_law__1165 (by decide) ?_
  refine gm_lald dL_law__1166 (sh_82 g) (am_lit rfl) ?_
  refine gm_iload dL_law__1167 rfl ?_
  refine gm_i2l dL_law__1169 ?_
  refine gm_lcmp dL_law__1170 ?_
  refine gm_if_eq (5) 1176 dL_law__1171 rfl (fun hc => KK) (fun hc2 => absurd ?_ hc2)
  show lg_cmp (am_lg (h.2.2 82 0)) w.toInt64 = 0
  rw [ho hc]
  exact lg_cmp_self _
theorem hd'_hold {d d1 n b : Nat} {scr : Nat → Int32} {i : Int32} {r : Nat × Nat} (hR : Rd n b i) {h h1 : am_H} {M M1 : Mem} {k : Int32} {r' : Nat × Nat} (E : am_EvH d1 [(0, 10, 13, 13)] mL_hold [.inr (0, 0), am_I (scr (b + 1)), am_I (scr (b + 2)), .inr (82, 0)] (am_hM h M) (am_I k) (am_hM h1 M1)) (hsh : h1.1 = h.1) (hd1 : d1 + 1 ≤ d) (hr1 : r'.1 + 1 ≤ r.1) (hr2 : r'.2 + 6 ≤ r.2) (hr3 : am_nc (am_hM h M) ≤ r'.1) (hr4 : am_ns (am_hM h M) ≤ r'.2) (K : am_AtG [] lawPo (am_XS n scr) d mLW 1198 (lwL i (some (am_I k)) none) [] (am_hM h1 M1) r') : am_AtG [] lawPo (am_XS n scr) d mLW 1179 (lwL i none none) [] (am_hM h M) r := by
  refine gm_aload_n dL_law__1179 rfl ?_
  refine gm_aload_n dL_law__1180 rfl ?_
  refine gm_iload dL_law__1181 rfl ?_
  refine gm_iconst 1 (v := 1) dL_law__1183 (by decide) ?_
  refine gm_iadd dL_law__1184 ?_
  refine gm_sald (b + 1) dL_law__1185 hR.r1 ?_
  refine gm_aload_n dL_law__1186 rfl ?_
  refine gm_iload dL_law__1187 rfl ?_
  refine gm_iconst 2 (v := 2) dL_law__1189 (by decide) ?_
  refine gm_iadd dL_law__1190 ?_
  refine gm_sald (b + 2) dL_law__1191 hR.r2 ?_
  refine gm_aload_n dL_law__1192 rfl ?_
  refine gm_callH [_, _, _, _] dL_law__1193 hl_hold hd_hold rfl (fun _ => zq _ rfl) hd1 rfl E hsh (fun _ _ _ z => z.2.2) hr1 hr2 hr3 hr4 ?_
  change am_AtG [] lawPo (am_XS n scr) d mLW 1196 (lwL i none none) [_] _ _
  refine gm_istore dL_law__1196 (am_lb rfl) ?_
  exact K
theorem tl_hold {d d1 n b : Nat} {scr : Nat → Int32} {i : Int32} {r : Nat × Nat} (hR : Rd n b i) {h : am_H} {M1 M2 : Mem} {w k : Int32} (g : lay h) (E : am_Ev d1 mX12_hold [.inr (54, 0), am_I (scr (b + 1)), am_I (scr (b + 2))] (am_hM h M1) (.inl (some (am_I w), am_hM h M2))) (hd1 : d1 + 1 ≤ d) (ht : f_X12_thrown M2 = k) (ho : k = 0 → am_lg (h.2.2 82 0) = w.toInt64) (K : am_AtG [] lawPo (am_XS n scr) d mLW 2467 (lwL i none none) [] (am_hM h M2) r) : am_AtG [] lawPo (am_XS n scr) d mLW 1198 (lwL i (some (am_I k)) none) [] (am_hM h M1) r := by
  refine gm_aload_n dL_law__1198 rfl ?_
  refine gm_aload_n dL_law__1199 rfl ?_
  refine gm_iload dL_law__1200 rfl ?_
  refine gm_iconst 1 (v := 1) dL_law__1202 (by decide) ?_
  refine gm_iadd dL_law__1203 ?_
  refine gm_sald (b + 1) dL_law__1204 hR.r1 ?_
  refine gm_aload_n dL_law__1205 rfl ?_
  refine gm_iload dL_law__1206 rfl ?_
  refine gm_iconst 2 (v := 2) dL_law__1208 (by decide) ?_
  refine gm_iadd dL_law__1209 ?_
  refine gm_sald (b + 2) dL_law__1210 hR.r2 ?_
  refine gm_callV [_, _] dL_law__1211 ml_L_182 vm_X12_hold (sh_54 g) rfl (fun _ => zq _ rfl) hd1 rfl E rfl ?_
  change am_AtG [] lawPo (am_XS n scr) d mLW 1214 (lwL i (some (am_I k)) none) [_] _ _
  refine gm_istore dL_law__1214 (am_lb rfl) ?_
  refine gm_aload_n dL_law__1216 rfl ?_
  refine gm_callV [] dL_law__1217 ml_L_126 vm_X12_thrown (sh_54 g) rfl (fun _ => zq _ rfl) hd1 rfl (ef_X12_thrown (d := d1) (h := h) g (M := M2) (v := k) ht) rfl ?_
  change am_AtG [] lawPo (am_XS n scr) d mLW 1220 (lwL i (some (am_I k)) (some (am_I w))) [_] _ _
  refine gm_iload dL_law__1220 rfl ?_
  refine gm_icmp_eq (5) 1227 dL_law__1222 rfl (fun hc => ?_) (fun hc => absurd rfl hc)
  refine gm_iload dL_law__1227 rfl ?_
  have KK : am_AtG [] lawPo (am_XS n scr) d mLW 1244 (lwL i (some (am_I k)) (some (am_I w))) [] (am_hM h M2) r := by
    refine gm_goto (1223) 2467 dL_law__1244 rfl ?_
    refine gm_drop 5 ?_
    refine gm_drop 6 ?_
    exact K
  refine gm_if_ne (15) 1244 dL_law__1229 rfl (fun hc => KK) (fun hc => ?_)
  refine gm_aload_n dL_law__1232 rfl ?_
  refine gm_iconst 0 (v := 0) dL_law__1233 (by decide) ?_
  refine gm_lald dL_law__1234 (sh_82 g) (am_lit rfl) ?_
  refine gm_iload dL_law__1235 rfl ?_
  refine gm_i2l dL_law__1237 ?_
  refine gm_lcmp dL_law__1238 ?_
  refine gm_if_eq (5) 1244 dL_law__1239 rfl (fun hc => KK) (fun hc2 => absurd ?_ hc2)
  show lg_cmp (am_lg (h.2.2 82 0)) w.toInt64 = 0
  rw [ho hc]
  exact lg_cmp_self _
theorem hd'_tallest {d d1 n b : Nat} {scr : Nat → Int32} {i : Int32} {r : Nat × Nat} (hR : Rd n b i) {h h1 : am_H} {M M1 : Mem} {k : Int32} {r' : Nat × Nat} (E : am_EvH d1 [(0, 9, 12, 13)] mL_tallest [.inr (0, 0), am_I (scr (b + 1)), .inr (82, 0)] (am_hM h M) (am_I k) (am_hM h1 M1)) (hsh : h1.1 = h.1) (hd1 : d1 + 1 ≤ d) (hr1 : r'.1 + 1 ≤ r.1) (hr2 : r'.2 + 6 ≤ r.2) (hr3 : am_nc (am_hM h M) ≤ r'.1) (hr4 : am_ns (am_hM h M) ≤ r'.2) (K : am_AtG [] lawPo (am_XS n scr) d mLW 1260 (lwL i (some (am_I k)) none) [] (am_hM h1 M1) r') : am_AtG [] lawPo (am_XS n scr) d mLW 1247 (lwL i none none) [] (am_hM h M) r := by
  refine gm_aload_n dL_law__1247 rfl ?_
  refine gm_aload_n dL_law__1248 rfl ?_
  refine gm_iload dL_law__1249 rfl ?_
  refine gm_iconst 1 (v := 1) dL_law__1251 (by decide) ?_
  refine gm_iadd dL_law__1252 ?_
  refine gm_sald (b + 1) dL_law__1253 hR.r1 ?_
  refine gm_aload_n dL_law__1254 rfl ?_
  refine gm_callH [_, _, _] dL_law__1255 hl_tallest hd_tallest rfl (fun _ => zq _ rfl) hd1 rfl E hsh (fun _ _ _ z => z.2.2) hr1 hr2 hr3 hr4 ?_
  change am_AtG [] lawPo (am_XS n scr) d mLW 1258 (lwL i none none) [_] _ _
  refine gm_istore dL_law__1258 (am_lb rfl) ?_
  exact K
theorem tl_tallest {d d1 n b : Nat} {scr : Nat → Int32} {i : Int32} {r : Nat × Nat} (hR : Rd n b i) {h : am_H} {M1 M2 : Mem} {w k : Int32} (g : lay h) (E : am_Ev d1 mX12_tallest [.inr (54, 0), am_I (scr (b + 1))] (am_hM h M1) (.inl (some (am_I w), am_hM h M2))) (hd1 : d1 + 1 ≤ d) (ht : f_X12_thrown M2 = k) (ho : k = 0 → am_lg (h.2.2 82 0) = w.toInt64) (K : am_AtG [] lawPo (am_XS n scr) d mLW 2467 (lwL i none none) [] (am_hM h M2) r) : am_AtG [] lawPo (am_XS n scr) d mLW 1260 (lwL i (some (am_I k)) none) [] (am_hM h M1) r := by
  refine gm_aload_n dL_law__1260 rfl ?_
  refine gm_aload_n dL_law__1261 rfl ?_
  refine gm_iload dL_law__1262 rfl ?_
  refine gm_iconst 1 (v := 1) dL_law__1264 (by decide) ?_
  refine gm_iadd dL_law__1265 ?_
  refine gm_sald (b + 1) dL_law__1266 hR.r1 ?_
  refine gm_callV [_] dL_law__1267 ml_L_185 vm_X12_tallest (sh_54 g) rfl (fun _ => zq _ rfl) hd1 rfl E rfl ?_
  change am_AtG [] lawPo (am_XS n scr) d mLW 1270 (lwL i (some (am_I k)) none) [_] _ _
  refine gm_istore dL_law__1270 (am_lb rfl) ?_
  refine gm_aload_n dL_law__1272 rfl ?_
  refine gm_callV [] dL_law__1273 ml_L_126 vm_X12_thrown (sh_54 g) rfl (fun _ => zq _ rfl) hd1 rfl (ef_X12_thrown (d := d1) (h := h) g (M := M2) (v := k) ht) rfl ?_
  change am_AtG [] lawPo (am_XS n scr) d mLW 1276 (lwL i (some (am_I k)) (some (am_I w))) [_] _ _
  refine gm_iload dL_law__1276 rfl ?_
  refine gm_icmp_eq (5) 1283 dL_law__1278 rfl (fun hc => ?_) (fun hc => absurd rfl hc)
  refine gm_iload dL_law__1283 rfl ?_
  have KK : am_AtG [] lawPo (am_XS n scr) d mLW 1300 (lwL i (some (am_I k)) (some (am_I w))) [] (am_hM h M2) r := by
    refine gm_goto (1167) 2467 dL_law__1300 rfl ?_
    refine gm_drop 5 ?_
    refine gm_drop 6 ?_
    exact K
  refine gm_if_ne (15) 1300 dL_law__1285 rfl (fun hc => KK) (fun hc => ?_)
  refine gm_aload_n dL_law__1288 rfl ?_
  refine gm_iconst 0 (v := 0) dL_law__1289 (by decide) ?_
  refine gm_lald dL_law__1290 (sh_82 g) (am_lit rfl) ?_
  refine gm_iload dL_law__1291 rfl ?_
  refine gm_i2l dL_law__1293 ?_
  refine gm_lcmp dL_law__1294 ?_
  refine gm_if_eq (5) 1300 dL_law__1295 rfl (fun hc => KK) (fun hc2 => absurd ?_ hc2)
  show lg_cmp (am_lg (h.2.2 82 0)) w.toInt64 = 0
  rw [ho hc]
  exact lg_cmp_self _
theorem hd'_letter {d d1 n b : Nat} {scr : Nat → Int32} {i : Int32} {r : Nat × Nat} (hR : Rd n b i) {h h1 : am_H} {M M1 : Mem} {k : Int32} {r' : Nat × Nat} (E : am_EvH d1 [(0, 10, 13, 31), (0, 10, 17, 13)] mL_letter [.inr (0, 0), am_I (scr (b + 1)), am_I (scr (b + 2)), .inr (82, 0)] (am_hM h M) (am_I k) (am_hM h1 M1)) (hsh : h1.1 = h.1) (hd1 : d1 + 1 ≤ d) (hr1 : r'.1 + 1 ≤ r.1) (hr2 : r'.2 + 6 ≤ r.2) (hr3 : am_nc (am_hM h M) ≤ r'.1) (hr4 : am_ns (am_hM h M) ≤ r'.2) (K : am_AtG [] lawPo (am_XS n scr) d mLW 1322 (lwL i (some (am_I k)) none) [] (am_hM h1 M1) r') : am_AtG [] lawPo (am_XS n scr) d mLW 1303 (lwL i none none) [] (am_hM h M) r := by
  refine gm_aload_n dL_law__1303 rfl ?_
  refine gm_aload_n dL_law__1304 rfl ?_
  refine gm_iload dL_law__1305 rfl ?_
  refine gm_iconst 1 (v := 1) dL_law__1307 (by decide) ?_
  refine gm_iadd dL_law__1308 ?_
  refine gm_sald (b + 1) dL_law__1309 hR.r1 ?_
  refine gm_aload_n dL_law__1310 rfl ?_
  refine gm_iload dL_law__1311 rfl ?_
  refine gm_iconst 2 (v := 2) dL_law__1313 (by decide) ?_
  refine gm_iadd dL_law__1314 ?_
  refine gm_sald (b + 2) dL_law__1315 hR.r2 ?_
  refine gm_aload_n dL_law__1316 rfl ?_
  refine gm_callH [_, _, _, _] dL_law__1317 hl_letter hd_letter rfl (fun _ => zq _ rfl) hd1 rfl E hsh (fun _ _ _ z => z.2.2) hr1 hr2 hr3 hr4 ?_
  change am_AtG [] lawPo (am_XS n scr) d mLW 1320 (lwL i none none) [_] _ _
  refine gm_istore dL_law__1320 (am_lb rfl) ?_
  exact K
theorem tl_letter {d d1 n b : Nat} {scr : Nat → Int32} {i : Int32} {r : Nat × Nat} (hR : Rd n b i) {h : am_H} {M1 M2 : Mem} {w k : Int32} (g : lay h) (E : am_Ev d1 mX12_letter [.inr (54, 0), am_I (scr (b + 1)), am_I (scr (b + 2))] (am_hM h M1) (.inl (some (am_I w), am_hM h M2))) (hd1 : d1 + 1 ≤ d) (ht : f_X12_thrown M2 = k) (ho : k = 0 → am_lg (h.2.2 82 0) = w.toInt64) (K : am_AtG [] lawPo (am_XS n scr) d mLW 2467 (lwL i none none) [] (am_hM h M2) r) : am_AtG [] lawPo (am_XS n scr) d mLW 1322 (lwL i (some (am_I k)) none) [] (am_hM h M1) r := by
  refine gm_aload_n dL_law__1322 rfl ?_
  refine gm_aload_n dL_law__1323 rfl ?_
  refine gm_iload dL_law__1324 rfl ?_
  refine gm_iconst 1 (v := 1) dL_law__1326 (by decide) ?_
  refine gm_iadd dL_law__1327 ?_
  refine gm_sald (b + 1) dL_law__1328 hR.r1 ?_
  refine gm_aload_n dL_law__1329 rfl ?_
  refine gm_iload dL_law__1330 rfl ?_
  refine gm_iconst 2 (v := 2) dL_law__1332 (by decide) ?_
  refine gm_iadd dL_law__1333 ?_
  refine gm_sald (b + 2) dL_law__1334 hR.r2 ?_
  refine gm_callV [_, _] dL_law__1335 ml_L_188 vm_X12_letter (sh_54 g) rfl (fun _ => zq _ rfl) hd1 rfl E rfl ?_
  change am_AtG [] lawPo (am_XS n scr) d mLW 1338 (lwL i (some (am_I k)) none) [_] _ _
  refine gm_istore dL_law__1338 (am_lb rfl) ?_
  refine gm_aload_n dL_law__1340 rfl ?_
  refine gm_callV [] dL_law__1341 ml_L_126 vm_X12_thrown (sh_54 g) rfl (fun _ => zq _ rfl) hd1 rfl (ef_X12_thrown (d := d1) (h := h) g (M := M2) (v := k) ht) rfl ?_
  change am_AtG [] lawPo (am_XS n scr) d mLW 1344 (lwL i (some (am_I k)) (some (am_I w))) [_] _ _
  refine gm_iload dL_law__1344 rfl ?_
  refine gm_icmp_eq (5) 1351 dL_law__1346 rfl (fun hc => ?_) (fun hc => absurd rfl hc)
  refine gm_iload dL_law__1351 rfl ?_
  have KK : am_AtG [] lawPo (am_XS n scr) d mLW 1368 (lwL i (some (am_I k)) (some (am_I w))) [] (am_hM h M2) r := by
    refine gm_goto (1099) 2467 dL_law__1368 rfl ?_
    refine gm_drop 5 ?_
    refine gm_drop 6 ?_
    exact K
  refine gm_if_ne (15) 1368 dL_law__1353 rfl (fun hc => KK) (fun hc => ?_)
  refine gm_aload_n dL_law__1356 rfl ?_
  refine gm_iconst 0 (v := 0) dL_law__1357 (by decide) ?_
  refine gm_lald dL_law__1358 (sh_82 g) (am_lit rfl) ?_
  refine gm_iload dL_law__1359 rfl ?_
  refine gm_i2l dL_law__1361 ?_
  refine gm_lcmp dL_law__1362 ?_
  refine gm_if_eq (5) 1368 dL_law__1363 rfl (fun hc => KK) (fun hc2 => absurd ?_ hc2)
  show lg_cmp (am_lg (h.2.2 82 0)) w.toInt64 = 0
  rw [ho hc]
  exact lg_cmp_self _
theorem hd'_flood {d d1 n b : Nat} {scr : Nat → Int32} {i : Int32} {r : Nat × Nat} (hR : Rd n b i) {h h1 : am_H} {M M1 : Mem} {k : Int32} {r' : Nat × Nat} (E : am_EvH d1 [(0, 9, 12, 13)] mL_flood [.inr (0, 0), am_I (scr (b + 1)), .inr (82, 0)] (am_hM h M) (am_I k) (am_hM h1 M1)) (hsh : h1.1 = h.1) (hd1 : d1 + 1 ≤ d) (hr1 : r'.1 + 1 ≤ r.1) (hr2 : r'.2 + 6 ≤ r.2) (hr3 : am_nc (am_hM h M) ≤ r'.1) (hr4 : am_ns (am_hM h M) ≤ r'.2) (K : am_AtG [] lawPo (am_XS n scr) d mLW 1384 (lwL i (some (am_I k)) none) [] (am_hM h1 M1) r') : am_AtG [] lawPo (am_XS n scr) d mLW 1371 (lwL i none none) [] (am_hM h M) r := by
  refine gm_aload_n dL_law__1371 rfl ?_
  refine gm_aload_n dL_law__1372 rfl ?_
  refine gm_iload dL_law__1373 rfl ?_
  refine gm_iconst 1 (v := 1) dL_law__1375 (by decide) ?_
  refine gm_iadd dL_law__1376 ?_
  refine gm_sald (b + 1) dL_law__1377 hR.r1 ?_
  refine gm_aload_n dL_law__1378 rfl ?_
  refine gm_callH [_, _, _] dL_law__1379 hl_flood hd_flood rfl (fun _ => zq _ rfl) hd1 rfl E hsh (fun _ _ _ z => z.2.2) hr1 hr2 hr3 hr4 ?_
  change am_AtG [] lawPo (am_XS n scr) d mLW 1382 (lwL i none none) [_] _ _
  refine gm_istore dL_law__1382 (am_lb rfl) ?_
  exact K
theorem tl_flood {d d1 n b : Nat} {scr : Nat → Int32} {i : Int32} {r : Nat × Nat} (hR : Rd n b i) {h : am_H} {M1 M2 : Mem} {w k : Int32} (g : lay h) (E : am_Ev d1 mX12_flood [.inr (54, 0), am_I (scr (b + 1))] (am_hM h M1) (.inl (some (am_I w), am_hM h M2))) (hd1 : d1 + 1 ≤ d) (ht : f_X12_thrown M2 = k) (ho : k = 0 → am_lg (h.2.2 82 0) = w.toInt64) (K : am_AtG [] lawPo (am_XS n scr) d mLW 2467 (lwL i none none) [] (am_hM h M2) r) : am_AtG [] lawPo (am_XS n scr) d mLW 1384 (lwL i (some (am_I k)) none) [] (am_hM h M1) r := by
  refine gm_aload_n dL_law__1384 rfl ?_
  refine gm_aload_n dL_law__1385 rfl ?_
  refine gm_iload dL_law__1386 rfl ?_
  refine gm_iconst 1 (v := 1) dL_law__1388 (by decide) ?_
  refine gm_iadd dL_law__1389 ?_
  refine gm_sald (b + 1) dL_law__1390 hR.r1 ?_
  refine gm_callV [_] dL_law__1391 ml_L_191 vm_X12_flood (sh_54 g) rfl (fun _ => zq _ rfl) hd1 rfl E rfl ?_
  change am_AtG [] lawPo (am_XS n scr) d mLW 1394 (lwL i (some (am_I k)) none) [_] _ _
  refine gm_istore dL_law__1394 (am_lb rfl) ?_
  refine gm_aload_n dL_law__1396 rfl ?_
  refine gm_callV [] dL_law__1397 ml_L_126 vm_X12_thrown (sh_54 g) rfl (fun _ => zq _ rfl) hd1 rfl (ef_X12_thrown (d := d1) (h := h) g (M := M2) (v := k) ht) rfl ?_
  change am_AtG [] lawPo (am_XS n scr) d mLW 1400 (lwL i (some (am_I k)) (some (am_I w))) [_] _ _
  refine gm_iload dL_law__1400 rfl ?_
  refine gm_icmp_eq (5) 1407 dL_law__1402 rfl (fun hc => ?_) (fun hc => absurd rfl hc)
  refine gm_iload dL_law__1407 rfl ?_
  have KK : am_AtG [] lawPo (am_XS n scr) d mLW 1424 (lwL i (some (am_I k)) (some (am_I w))) [] (am_hM h M2) r := by
    refine gm_goto (1043) 2467 dL_law__1424 rfl ?_
    refine gm_drop 5 ?_
    refine gm_drop 6 ?_
    exact K
  refine gm_if_ne (15) 1424 dL_law__1409 rfl (fun hc => KK) (fun hc => ?_)
  refine gm_aload_n dL_law__1412 rfl ?_
  refine gm_iconst 0 (v := 0) dL_law__1413 (by decide) ?_
  refine gm_lald dL_law__1414 (sh_82 g) (am_lit rfl) ?_
  refine gm_iload dL_law__1415 rfl ?_
  refine gm_i2l dL_law__1417 ?_
  refine gm_lcmp dL_law__1418 ?_
  refine gm_if_eq (5) 1424 dL_law__1419 rfl (fun hc => KK) (fun hc2 => absurd ?_ hc2)
  show lg_cmp (am_lg (h.2.2 82 0)) w.toInt64 = 0
  rw [ho hc]
  exact lg_cmp_self _
theorem hd'_holds {d d1 n b : Nat} {scr : Nat → Int32} {i : Int32} {r : Nat × Nat} (hR : Rd n b i) {h h1 : am_H} {M M1 : Mem} {k : Int32} {r' : Nat × Nat} (E : am_EvH d1 [(0, 9, 12, 13)] mL_holds [.inr (0, 0), am_I (scr (b + 1)), .inr (82, 0)] (am_hM h M) (am_I k) (am_hM h1 M1)) (hsh : h1.1 = h.1) (hd1 : d1 + 1 ≤ d) (hr1 : r'.1 + 1 ≤ r.1) (hr2 : r'.2 + 6 ≤ r.2) (hr3 : am_nc (am_hM h M) ≤ r'.1) (hr4 : am_ns (am_hM h M) ≤ r'.2) (K : am_AtG [] lawPo (am_XS n scr) d mLW 1440 (lwL i (some (am_I k)) none) [] (am_hM h1 M1) r') : am_AtG [] lawPo (am_XS n scr) d mLW 1427 (lwL i none none) [] (am_hM h M) r := by
  refine gm_aload_n dL_law__1427 rfl ?_
  refine gm_aload_n dL_law__1428 rfl ?_
  refine gm_iload dL_law__1429 rfl ?_
  refine gm_iconst 1 (v := 1) dL_law__1431 (by decide) ?_
  refine gm_iadd dL_law__1432 ?_
  refine gm_sald (b + 1) dL_law__1433 hR.r1 ?_
  refine gm_aload_n dL_law__1434 rfl ?_
  refine gm_callH [_, _, _] dL_law__1435 hl_holds hd_holds rfl (fun _ => zq _ rfl) hd1 rfl E hsh (fun _ _ _ z => z.2.2) hr1 hr2 hr3 hr4 ?_
  change am_AtG [] lawPo (am_XS n scr) d mLW 1438 (lwL i none none) [_] _ _
  refine gm_istore dL_law__1438 (am_lb rfl) ?_
  exact K
theorem tl_holds {d d1 n b : Nat} {scr : Nat → Int32} {i : Int32} {r : Nat × Nat} (hR : Rd n b i) {h : am_H} {M1 M2 : Mem} {w k : Int32} (g : lay h) (E : am_Ev d1 mX12_holds [.inr (54, 0), am_I (scr (b + 1))] (am_hM h M1) (.inl (some (am_I w), am_hM h M2))) (hd1 : d1 + 1 ≤ d) (ht : f_X12_thrown M2 = k) (ho : k = 0 → am_lg (h.2.2 82 0) = w.toInt64) (K : am_AtG [] lawPo (am_XS n scr) d mLW 2467 (lwL i none none) [] (am_hM h M2) r) : am_AtG [] lawPo (am_XS n scr) d mLW 1440 (lwL i (some (am_I k)) none) [] (am_hM h M1) r := by
  refine gm_aload_n dL_law__1440 rfl ?_
  refine gm_aload_n dL_law__1441 rfl ?_
  refine gm_iload dL_law__1442 rfl ?_
  refine gm_iconst 1 (v := 1) dL_law__1444 (by decide) ?_
  refine gm_iadd dL_law__1445 ?_
  refine gm_sald (b + 1) dL_law__1446 hR.r1 ?_
  refine gm_callV [_] dL_law__1447 ml_L_194 vm_X12_holds (sh_54 g) rfl (fun _ => zq _ rfl) hd1 rfl E rfl ?_
  change am_AtG [] lawPo (am_XS n scr) d mLW 1450 (lwL i (some (am_I k)) none) [_] _ _
  refine gm_istore dL_law__1450 (am_lb rfl) ?_
  refine gm_aload_n dL_law__1452 rfl ?_
  refine gm_callV [] dL_law__1453 ml_L_126 vm_X12_thrown (sh_54 g) rfl (fun _ => zq _ rfl) hd1 rfl (ef_X12_thrown (d := d1) (h := h) g (M := M2) (v := k) ht) rfl ?_
  change am_AtG [] lawPo (am_XS n scr) d mLW 1456 (lwL i (some (am_I k)) (some (am_I w))) [_] _ _
  refine gm_iload dL_law__1456 rfl ?_
  refine gm_icmp_eq (5) 1463 dL_law__1458 rfl (fun hc => ?_) (fun hc => absurd rfl hc)
  refine gm_iload dL_law__1463 rfl ?_
  have KK : am_AtG [] lawPo (am_XS n scr) d mLW 1480 (lwL i (some (am_I k)) (some (am_I w))) [] (am_hM h M2) r := by
    refine gm_goto (987) 2467 dL_law__1480 rfl ?_
    refine gm_drop 5 ?_
    refine gm_drop 6 ?_
    exact K
  refine gm_if_ne (15) 1480 dL_law__1465 rfl (fun hc => KK) (fun hc => ?_)
  refine gm_aload_n dL_law__1468 rfl ?_
  refine gm_iconst 0 (v := 0) dL_law__1469 (by decide) ?_
  refine gm_lald dL_law__1470 (sh_82 g) (am_lit rfl) ?_
  refine gm_iload dL_law__1471 rfl ?_
  refine gm_i2l dL_law__1473 ?_
  refine gm_lcmp dL_law__1474 ?_
  refine gm_if_eq (5) 1480 dL_law__1475 rfl (fun hc => KK) (fun hc2 => absurd ?_ hc2)
  show lg_cmp (am_lg (h.2.2 82 0)) w.toInt64 = 0
  rw [ho hc]
  exact lg_cmp_self _
theorem hd'_smells {d d1 n b : Nat} {scr : Nat → Int32} {i : Int32} {r : Nat × Nat} (hR : Rd n b i) {h h1 : am_H} {M M1 : Mem} {k : Int32} {r' : Nat × Nat} (E : am_EvH d1 [(0, 10, 13, 31), (0, 10, 17, 13)] mL_smells [.inr (0, 0), am_I (scr (b + 1)), am_I (scr (b + 2)), .inr (82, 0)] (am_hM h M) (am_I k) (am_hM h1 M1)) (hsh : h1.1 = h.1) (hd1 : d1 + 1 ≤ d) (hr1 : r'.1 + 1 ≤ r.1) (hr2 : r'.2 + 6 ≤ r.2) (hr3 : am_nc (am_hM h M) ≤ r'.1) (hr4 : am_ns (am_hM h M) ≤ r'.2) (K : am_AtG [] lawPo (am_XS n scr) d mLW 1502 (lwL i (some (am_I k)) none) [] (am_hM h1 M1) r') : am_AtG [] lawPo (am_XS n scr) d mLW 1483 (lwL i none none) [] (am_hM h M) r := by
  refine gm_aload_n dL_law__1483 rfl ?_
  refine gm_aload_n dL_law__1484 rfl ?_
  refine gm_iload dL_law__1485 rfl ?_
  refine gm_iconst 1 (v := 1) dL_law__1487 (by decide) ?_
  refine gm_iadd dL_law__1488 ?_
  refine gm_sald (b + 1) dL_law__1489 hR.r1 ?_
  refine gm_aload_n dL_law__1490 rfl ?_
  refine gm_iload dL_law__1491 rfl ?_
  refine gm_iconst 2 (v := 2) dL_law__1493 (by decide) ?_
  refine gm_iadd dL_law__1494 ?_
  refine gm_sald (b + 2) dL_law__1495 hR.r2 ?_
  refine gm_aload_n dL_law__1496 rfl ?_
  refine gm_callH [_, _, _, _] dL_law__1497 hl_smells hd_smells rfl (fun _ => zq _ rfl) hd1 rfl E hsh (fun _ _ _ z => z.2.2) hr1 hr2 hr3 hr4 ?_
  change am_AtG [] lawPo (am_XS n scr) d mLW 1500 (lwL i none none) [_] _ _
  refine gm_istore dL_law__1500 (am_lb rfl) ?_
  exact K
theorem tl_smells {d d1 n b : Nat} {scr : Nat → Int32} {i : Int32} {r : Nat × Nat} (hR : Rd n b i) {h : am_H} {M1 M2 : Mem} {w k : Int32} (g : lay h) (E : am_Ev d1 mX12_smells [.inr (54, 0), am_I (scr (b + 1)), am_I (scr (b + 2))] (am_hM h M1) (.inl (some (am_I w), am_hM h M2))) (hd1 : d1 + 1 ≤ d) (ht : f_X12_thrown M2 = k) (ho : k = 0 → am_lg (h.2.2 82 0) = w.toInt64) (K : am_AtG [] lawPo (am_XS n scr) d mLW 2467 (lwL i none none) [] (am_hM h M2) r) : am_AtG [] lawPo (am_XS n scr) d mLW 1502 (lwL i (some (am_I k)) none) [] (am_hM h M1) r := by
  refine gm_aload_n dL_law__1502 rfl ?_
  refine gm_aload_n dL_law__1503 rfl ?_
  refine gm_iload dL_law__1504 rfl ?_
  refine gm_iconst 1 (v := 1) dL_law__1506 (by decide) ?_
  refine gm_iadd dL_law__1507 ?_
  refine gm_sald (b + 1) dL_law__1508 hR.r1 ?_
  refine gm_aload_n dL_law__1509 rfl ?_
  refine gm_iload dL_law__1510 rfl ?_
  refine gm_iconst 2 (v := 2) dL_law__1512 (by decide) ?_
  refine gm_iadd dL_law__1513 ?_
  refine gm_sald (b + 2) dL_law__1514 hR.r2 ?_
  refine gm_callV [_, _] dL_law__1515 ml_L_197 vm_X12_smells (sh_54 g) rfl (fun _ => zq _ rfl) hd1 rfl E rfl ?_
  change am_AtG [] lawPo (am_XS n scr) d mLW 1518 (lwL i (some (am_I k)) none) [_] _ _
  refine gm_istore dL_law__1518 (am_lb rfl) ?_
  refine gm_aload_n dL_law__1520 rfl ?_
  refine gm_callV [] dL_law__1521 ml_L_126 vm_X12_thrown (sh_54 g) rfl (fun _ => zq _ rfl) hd1 rfl (ef_X12_thrown (d := d1) (h := h) g (M := M2) (v := k) ht) rfl ?_
  change am_AtG [] lawPo (am_XS n scr) d mLW 1524 (lwL i (some (am_I k)) (some (am_I w))) [_] _ _
  refine gm_iload dL_law__1524 rfl ?_
  refine gm_icmp_eq (5) 1531 dL_law__1526 rfl (fun hc => ?_) (fun hc => absurd rfl hc)
  refine gm_iload dL_law__1531 rfl ?_
  have KK : am_AtG [] lawPo (am_XS n scr) d mLW 1548 (lwL i (some (am_I k)) (some (am_I w))) [] (am_hM h M2) r := by
    refine gm_goto (919) 2467 dL_law__1548 rfl ?_
    refine gm_drop 5 ?_
    refine gm_drop 6 ?_
    exact K
  refine gm_if_ne (15) 1548 dL_law__1533 rfl (fun hc => KK) (fun hc => ?_)
  refine gm_aload_n dL_law__1536 rfl ?_
  refine gm_iconst 0 (v := 0) dL_law__1537 (by decide) ?_
  refine gm_lald dL_law__1538 (sh_82 g) (am_lit rfl) ?_
  refine gm_iload dL_law__1539 rfl ?_
  refine gm_i2l dL_law__1541 ?_
  refine gm_lcmp dL_law__1542 ?_
  refine gm_if_eq (5) 1548 dL_law__1543 rfl (fun hc => KK) (fun hc2 => absurd ?_ hc2)
  show lg_cmp (am_lg (h.2.2 82 0)) w.toInt64 = 0
  rw [ho hc]
  exact lg_cmp_self _
theorem hd'_openers {d d1 n b : Nat} {scr : Nat → Int32} {i : Int32} {r : Nat × Nat} (hR : Rd n b i) {h h1 : am_H} {M M1 : Mem} {k : Int32} {r' : Nat × Nat} (E : am_EvH d1 [(0, 9, 12, 13)] mL_openers [.inr (0, 0), am_I (scr (b + 1)), .inr (82, 0)] (am_hM h M) (am_I k) (am_hM h1 M1)) (hsh : h1.1 = h.1) (hd1 : d1 + 1 ≤ d) (hr1 : r'.1 + 1 ≤ r.1) (hr2 : r'.2 + 6 ≤ r.2) (hr3 : am_nc (am_hM h M) ≤ r'.1) (hr4 : am_ns (am_hM h M) ≤ r'.2) (K : am_AtG [] lawPo (am_XS n scr) d mLW 1564 (lwL i (some (am_I k)) none) [] (am_hM h1 M1) r') : am_AtG [] lawPo (am_XS n scr) d mLW 1551 (lwL i none none) [] (am_hM h M) r := by
  refine gm_aload_n dL_law__1551 rfl ?_
  refine gm_aload_n dL_law__1552 rfl ?_
  refine gm_iload dL_law__1553 rfl ?_
  refine gm_iconst 1 (v := 1) dL_law__1555 (by decide) ?_
  refine gm_iadd dL_law__1556 ?_
  refine gm_sald (b + 1) dL_law__1557 hR.r1 ?_
  refine gm_aload_n dL_law__1558 rfl ?_
  refine gm_callH [_, _, _] dL_law__1559 hl_openers hd_openers rfl (fun _ => zq _ rfl) hd1 rfl E hsh (fun _ _ _ z => z.2.2) hr1 hr2 hr3 hr4 ?_
  change am_AtG [] lawPo (am_XS n scr) d mLW 1562 (lwL i none none) [_] _ _
  refine gm_istore dL_law__1562 (am_lb rfl) ?_
  exact K
theorem tl_openers {d d1 n b : Nat} {scr : Nat → Int32} {i : Int32} {r : Nat × Nat} (hR : Rd n b i) {h : am_H} {M1 M2 : Mem} {w k : Int32} (g : lay h) (E : am_Ev d1 mX12_openers [.inr (54, 0), am_I (scr (b + 1))] (am_hM h M1) (.inl (some (am_I w), am_hM h M2))) (hd1 : d1 + 1 ≤ d) (ht : f_X12_thrown M2 = k) (ho : k = 0 → am_lg (h.2.2 82 0) = w.toInt64) (K : am_AtG [] lawPo (am_XS n scr) d mLW 2467 (lwL i none none) [] (am_hM h M2) r) : am_AtG [] lawPo (am_XS n scr) d mLW 1564 (lwL i (some (am_I k)) none) [] (am_hM h M1) r := by
  refine gm_aload_n dL_law__1564 rfl ?_
  refine gm_aload_n dL_law__1565 rfl ?_
  refine gm_iload dL_law__1566 rfl ?_
  refine gm_iconst 1 (v := 1) dL_law__1568 (by decide) ?_
  refine gm_iadd dL_law__1569 ?_
  refine gm_sald (b + 1) dL_law__1570 hR.r1 ?_
  refine gm_callV [_] dL_law__1571 ml_L_200 vm_X12_openers (sh_54 g) rfl (fun _ => zq _ rfl) hd1 rfl E rfl ?_
  change am_AtG [] lawPo (am_XS n scr) d mLW 1574 (lwL i (some (am_I k)) none) [_] _ _
  refine gm_istore dL_law__1574 (am_lb rfl) ?_
  refine gm_aload_n dL_law__1576 rfl ?_
  refine gm_callV [] dL_law__1577 ml_L_126 vm_X12_thrown (sh_54 g) rfl (fun _ => zq _ rfl) hd1 rfl (ef_X12_thrown (d := d1) (h := h) g (M := M2) (v := k) ht) rfl ?_
  change am_AtG [] lawPo (am_XS n scr) d mLW 1580 (lwL i (some (am_I k)) (some (am_I w))) [_] _ _
  refine gm_iload dL_law__1580 rfl ?_
  refine gm_icmp_eq (5) 1587 dL_law__1582 rfl (fun hc => ?_) (fun hc => absurd rfl hc)
  refine gm_iload dL_law__1587 rfl ?_
  have KK : am_AtG [] lawPo (am_XS n scr) d mLW 1604 (lwL i (some (am_I k)) (some (am_I w))) [] (am_hM h M2) r := by
    refine gm_goto (863) 2467 dL_law__1604 rfl ?_
    refine gm_drop 5 ?_
    refine gm_drop 6 ?_
    exact K
  refine gm_if_ne (15) 1604 dL_law__1589 rfl (fun hc => KK) (fun hc => ?_)
  refine gm_aload_n dL_law__1592 rfl ?_
  refine gm_iconst 0 (v := 0) dL_law__1593 (by decide) ?_
  refine gm_lald dL_law__1594 (sh_82 g) (am_lit rfl) ?_
  refine gm_iload dL_law__1595 rfl ?_
  refine gm_i2l dL_law__1597 ?_
  refine gm_lcmp dL_law__1598 ?_
  refine gm_if_eq (5) 1604 dL_law__1599 rfl (fun hc => KK) (fun hc2 => absurd ?_ hc2)
  show lg_cmp (am_lg (h.2.2 82 0)) w.toInt64 = 0
  rw [ho hc]
  exact lg_cmp_self _
theorem hd'_nose {d d1 n b : Nat} {scr : Nat → Int32} {i : Int32} {r : Nat × Nat} (hR : Rd n b i) {h h1 : am_H} {M M1 : Mem} {k : Int32} {r' : Nat × Nat} (E : am_EvH d1 [(0, 9, 12, 13)] mL_nose [.inr (0, 0), am_I (scr (b + 1)), .inr (82, 0)] (am_hM h M) (am_I k) (am_hM h1 M1)) (hsh : h1.1 = h.1) (hd1 : d1 + 1 ≤ d) (hr1 : r'.1 + 1 ≤ r.1) (hr2 : r'.2 + 6 ≤ r.2) (hr3 : am_nc (am_hM h M) ≤ r'.1) (hr4 : am_ns (am_hM h M) ≤ r'.2) (K : am_AtG [] lawPo (am_XS n scr) d mLW 1620 (lwL i (some (am_I k)) none) [] (am_hM h1 M1) r') : am_AtG [] lawPo (am_XS n scr) d mLW 1607 (lwL i none none) [] (am_hM h M) r := by
  refine gm_aload_n dL_law__1607 rfl ?_
  refine gm_aload_n dL_law__1608 rfl ?_
  refine gm_iload dL_law__1609 rfl ?_
  refine gm_iconst 1 (v := 1) dL_law__1611 (by decide) ?_
  refine gm_iadd dL_law__1612 ?_
  refine gm_sald (b + 1) dL_law__1613 hR.r1 ?_
  refine gm_aload_n dL_law__1614 rfl ?_
  refine gm_callH [_, _, _] dL_law__1615 hl_nose hd_nose rfl (fun _ => zq _ rfl) hd1 rfl E hsh (fun _ _ _ z => z.2.2) hr1 hr2 hr3 hr4 ?_
  change am_AtG [] lawPo (am_XS n scr) d mLW 1618 (lwL i none none) [_] _ _
  refine gm_istore dL_law__1618 (am_lb rfl) ?_
  exact K
theorem tl_nose {d d1 n b : Nat} {scr : Nat → Int32} {i : Int32} {r : Nat × Nat} (hR : Rd n b i) {h : am_H} {M1 M2 : Mem} {w k : Int32} (g : lay h) (E : am_Ev d1 mX12_nose [.inr (54, 0), am_I (scr (b + 1))] (am_hM h M1) (.inl (some (am_I w), am_hM h M2))) (hd1 : d1 + 1 ≤ d) (ht : f_X12_thrown M2 = k) (ho : k = 0 → am_lg (h.2.2 82 0) = w.toInt64) (K : am_AtG [] lawPo (am_XS n scr) d mLW 2467 (lwL i none none) [] (am_hM h M2) r) : am_AtG [] lawPo (am_XS n scr) d mLW 1620 (lwL i (some (am_I k)) none) [] (am_hM h M1) r := by
  refine gm_aload_n dL_law__1620 rfl ?_
  refine gm_aload_n dL_law__1621 rfl ?_
  refine gm_iload dL_law__1622 rfl ?_
  refine gm_iconst 1 (v := 1) dL_law__1624 (by decide) ?_
  refine gm_iadd dL_law__1625 ?_
  refine gm_sald (b + 1) dL_law__1626 hR.r1 ?_
  refine gm_callV [_] dL_law__1627 ml_L_203 vm_X12_nose (sh_54 g) rfl (fun _ => zq _ rfl) hd1 rfl E rfl ?_
  change am_AtG [] lawPo (am_XS n scr) d mLW 1630 (lwL i (some (am_I k)) none) [_] _ _
  refine gm_istore dL_law__1630 (am_lb rfl) ?_
  refine gm_aload_n dL_law__1632 rfl ?_
  refine gm_callV [] dL_law__1633 ml_L_126 vm_X12_thrown (sh_54 g) rfl (fun _ => zq _ rfl) hd1 rfl (ef_X12_thrown (d := d1) (h := h) g (M := M2) (v := k) ht) rfl ?_
  change am_AtG [] lawPo (am_XS n scr) d mLW 1636 (lwL i (some (am_I k)) (some (am_I w))) [_] _ _
  refine gm_iload dL_law__1636 rfl ?_
  refine gm_icmp_eq (5) 1643 dL_law__1638 rfl (fun hc => ?_) (fun hc => absurd rfl hc)
  refine gm_iload dL_law__1643 rfl ?_
  have KK : am_AtG [] lawPo (am_XS n scr) d mLW 1660 (lwL i (some (am_I k)) (some (am_I w))) [] (am_hM h M2) r := by
    refine gm_goto (807) 2467 dL_law__1660 rfl ?_
    refine gm_drop 5 ?_
    refine gm_drop 6 ?_
    exact K
  refine gm_if_ne (15) 1660 dL_law__1645 rfl (fun hc => KK) (fun hc => ?_)
  refine gm_aload_n dL_law__1648 rfl ?_
  refine gm_iconst 0 (v := 0) dL_law__1649 (by decide) ?_
  refine gm_lald dL_law__1650 (sh_82 g) (am_lit rfl) ?_
  refine gm_iload dL_law__1651 rfl ?_
  refine gm_i2l dL_law__1653 ?_
  refine gm_lcmp dL_law__1654 ?_
  refine gm_if_eq (5) 1660 dL_law__1655 rfl (fun hc => KK) (fun hc2 => absurd ?_ hc2)
  show lg_cmp (am_lg (h.2.2 82 0)) w.toInt64 = 0
  rw [ho hc]
  exact lg_cmp_self _
theorem hd'_anglers {d d1 n b : Nat} {scr : Nat → Int32} {i : Int32} {r : Nat × Nat} (hR : Rd n b i) {h h1 : am_H} {M M1 : Mem} {k : Int32} {r' : Nat × Nat} (E : am_EvH d1 [(0, 10, 13, 13)] mL_anglers [.inr (0, 0), am_I (scr (b + 1)), am_I (scr (b + 2)), .inr (82, 0)] (am_hM h M) (am_I k) (am_hM h1 M1)) (hsh : h1.1 = h.1) (hd1 : d1 + 1 ≤ d) (hr1 : r'.1 + 1 ≤ r.1) (hr2 : r'.2 + 6 ≤ r.2) (hr3 : am_nc (am_hM h M) ≤ r'.1) (hr4 : am_ns (am_hM h M) ≤ r'.2) (K : am_AtG [] lawPo (am_XS n scr) d mLW 1682 (lwL i (some (am_I k)) none) [] (am_hM h1 M1) r') : am_AtG [] lawPo (am_XS n scr) d mLW 1663 (lwL i none none) [] (am_hM h M) r := by
  refine gm_aload_n dL_law__1663 rfl ?_
  refine gm_aload_n dL_law__1664 rfl ?_
  refine gm_iload dL_law__1665 rfl ?_
  refine gm_iconst 1 (v := 1) dL_law__1667 (by decide) ?_
  refine gm_iadd dL_law__1668 ?_
  refine gm_sald (b + 1) dL_law__1669 hR.r1 ?_
  refine gm_aload_n dL_law__1670 rfl ?_
  refine gm_iload dL_law__1671 rfl ?_
  refine gm_iconst 2 (v := 2) dL_law__1673 (by decide) ?_
  refine gm_iadd dL_law__1674 ?_
  refine gm_sald (b + 2) dL_law__1675 hR.r2 ?_
  refine gm_aload_n dL_law__1676 rfl ?_
  refine gm_callH [_, _, _, _] dL_law__1677 hl_anglers hd_anglers rfl (fun _ => zq _ rfl) hd1 rfl E hsh (fun _ _ _ z => z.2.2) hr1 hr2 hr3 hr4 ?_
  change am_AtG [] lawPo (am_XS n scr) d mLW 1680 (lwL i none none) [_] _ _
  refine gm_istore dL_law__1680 (am_lb rfl) ?_
  exact K
theorem tl_anglers {d d1 n b : Nat} {scr : Nat → Int32} {i : Int32} {r : Nat × Nat} (hR : Rd n b i) {h : am_H} {M1 M2 : Mem} {w k : Int32} (g : lay h) (E : am_Ev d1 mX12_anglers [.inr (54, 0), am_I (scr (b + 1)), am_I (scr (b + 2))] (am_hM h M1) (.inl (some (am_I w), am_hM h M2))) (hd1 : d1 + 1 ≤ d) (ht : f_X12_thrown M2 = k) (ho : k = 0 → am_lg (h.2.2 82 0) = w.toInt64) (K : am_AtG [] lawPo (am_XS n scr) d mLW 2467 (lwL i none none) [] (am_hM h M2) r) : am_AtG [] lawPo (am_XS n scr) d mLW 1682 (lwL i (some (am_I k)) none) [] (am_hM h M1) r := by
  refine gm_aload_n dL_law__1682 rfl ?_
  refine gm_aload_n dL_law__1683 rfl ?_
  refine gm_iload dL_law__1684 rfl ?_
  refine gm_iconst 1 (v := 1) dL_law__1686 (by decide) ?_
  refine gm_iadd dL_law__1687 ?_
  refine gm_sald (b + 1) dL_law__1688 hR.r1 ?_
  refine gm_aload_n dL_law__1689 rfl ?_
  refine gm_iload dL_law__1690 rfl ?_
  refine gm_iconst 2 (v := 2) dL_law__1692 (by decide) ?_
  refine gm_iadd dL_law__1693 ?_
  refine gm_sald (b + 2) dL_law__1694 hR.r2 ?_
  refine gm_callV [_, _] dL_law__1695 ml_L_206 vm_X12_anglers (sh_54 g) rfl (fun _ => zq _ rfl) hd1 rfl E rfl ?_
  change am_AtG [] lawPo (am_XS n scr) d mLW 1698 (lwL i (some (am_I k)) none) [_] _ _
  refine gm_istore dL_law__1698 (am_lb rfl) ?_
  refine gm_aload_n dL_law__1700 rfl ?_
  refine gm_callV [] dL_law__1701 ml_L_126 vm_X12_thrown (sh_54 g) rfl (fun _ => zq _ rfl) hd1 rfl (ef_X12_thrown (d := d1) (h := h) g (M := M2) (v := k) ht) rfl ?_
  change am_AtG [] lawPo (am_XS n scr) d mLW 1704 (lwL i (some (am_I k)) (some (am_I w))) [_] _ _
  refine gm_iload dL_law__1704 rfl ?_
  refine gm_icmp_eq (5) 1711 dL_law__1706 rfl (fun hc => ?_) (fun hc => absurd rfl hc)
  refine gm_iload dL_law__1711 rfl ?_
  have KK : am_AtG [] lawPo (am_XS n scr) d mLW 1728 (lwL i (some (am_I k)) (some (am_I w))) [] (am_hM h M2) r := by
    refine gm_goto (739) 2467 dL_law__1728 rfl ?_
    refine gm_drop 5 ?_
    refine gm_drop 6 ?_
    exact K
  refine gm_if_ne (15) 1728 dL_law__1713 rfl (fun hc => KK) (fun hc => ?_)
  refine gm_aload_n dL_law__1716 rfl ?_
  refine gm_iconst 0 (v := 0) dL_law__1717 (by decide) ?_
  refine gm_lald dL_law__1718 (sh_82 g) (am_lit rfl) ?_
  refine gm_iload dL_law__1719 rfl ?_
  refine gm_i2l dL_law__1721 ?_
  refine gm_lcmp dL_law__1722 ?_
  refine gm_if_eq (5) 1728 dL_law__1723 rfl (fun hc => KK) (fun hc2 => absurd ?_ hc2)
  show lg_cmp (am_lg (h.2.2 82 0)) w.toInt64 = 0
  rw [ho hc]
  exact lg_cmp_self _
theorem hd'_stand {d d1 n b : Nat} {scr : Nat → Int32} {i : Int32} {r : Nat × Nat} (hR : Rd n b i) {h h1 : am_H} {M M1 : Mem} {k : Int32} {r' : Nat × Nat} (E : am_EvH d1 [(0, 10, 13, 31), (0, 10, 17, 13)] mL_stand [.inr (0, 0), am_I (scr (b + 1)), am_I (scr (b + 2)), .inr (82, 0)] (am_hM h M) (am_I k) (am_hM h1 M1)) (hsh : h1.1 = h.1) (hd1 : d1 + 1 ≤ d) (hr1 : r'.1 + 1 ≤ r.1) (hr2 : r'.2 + 6 ≤ r.2) (hr3 : am_nc (am_hM h M) ≤ r'.1) (hr4 : am_ns (am_hM h M) ≤ r'.2) (K : am_AtG [] lawPo (am_XS n scr) d mLW 1750 (lwL i (some (am_I k)) none) [] (am_hM h1 M1) r') : am_AtG [] lawPo (am_XS n scr) d mLW 1731 (lwL i none none) [] (am_hM h M) r := by
  refine gm_aload_n dL_law__1731 rfl ?_
  refine gm_aload_n dL_law__1732 rfl ?_
  refine gm_iload dL_law__1733 rfl ?_
  refine gm_iconst 1 (v := 1) dL_law__1735 (by decide) ?_
  refine gm_iadd dL_law__1736 ?_
  refine gm_sald (b + 1) dL_law__1737 hR.r1 ?_
  refine gm_aload_n dL_law__1738 rfl ?_
  refine gm_iload dL_law__1739 rfl ?_
  refine gm_iconst 2 (v := 2) dL_law__1741 (by decide) ?_
  refine gm_iadd dL_law__1742 ?_
  refine gm_sald (b + 2) dL_law__1743 hR.r2 ?_
  refine gm_aload_n dL_law__1744 rfl ?_
  refine gm_callH [_, _, _, _] dL_law__1745 hl_stand hd_stand rfl (fun _ => zq _ rfl) hd1 rfl E hsh (fun _ _ _ z => z.2.2) hr1 hr2 hr3 hr4 ?_
  change am_AtG [] lawPo (am_XS n scr) d mLW 1748 (lwL i none none) [_] _ _
  refine gm_istore dL_law__1748 (am_lb rfl) ?_
  exact K
theorem tl_stand {d d1 n b : Nat} {scr : Nat → Int32} {i : Int32} {r : Nat × Nat} (hR : Rd n b i) {h : am_H} {M1 M2 : Mem} {w k : Int32} (g : lay h) (E : am_Ev d1 mX12_stand [.inr (54, 0), am_I (scr (b + 1)), am_I (scr (b + 2))] (am_hM h M1) (.inl (some (am_I w), am_hM h M2))) (hd1 : d1 + 1 ≤ d) (ht : f_X12_thrown M2 = k) (ho : k = 0 → am_lg (h.2.2 82 0) = w.toInt64) (K : am_AtG [] lawPo (am_XS n scr) d mLW 2467 (lwL i none none) [] (am_hM h M2) r) : am_AtG [] lawPo (am_XS n scr) d mLW 1750 (lwL i (some (am_I k)) none) [] (am_hM h M1) r := by
  refine gm_aload_n dL_law__1750 rfl ?_
  refine gm_aload_n dL_law__1751 rfl ?_
  refine gm_iload dL_law__1752 rfl ?_
  refine gm_iconst 1 (v := 1) dL_law__1754 (by decide) ?_
  refine gm_iadd dL_law__1755 ?_
  refine gm_sald (b + 1) dL_law__1756 hR.r1 ?_
  refine gm_aload_n dL_law__1757 rfl ?_
  refine gm_iload dL_law__1758 rfl ?_
  refine gm_iconst 2 (v := 2) dL_law__1760 (by decide) ?_
  refine gm_iadd dL_law__1761 ?_
  refine gm_sald (b + 2) dL_law__1762 hR.r2 ?_
  refine gm_callV [_, _] dL_law__1763 ml_L_209 vm_X12_stand (sh_54 g) rfl (fun _ => zq _ rfl) hd1 rfl E rfl ?_
  change am_AtG [] lawPo (am_XS n scr) d mLW 1766 (lwL i (some (am_I k)) none) [_] _ _
  refine gm_istore dL_law__1766 (am_lb rfl) ?_
  refine gm_aload_n dL_law__1768 rfl ?_
  refine gm_callV [] dL_law__1769 ml_L_126 vm_X12_thrown (sh_54 g) rfl (fun _ => zq _ rfl) hd1 rfl (ef_X12_thrown (d := d1) (h := h) g (M := M2) (v := k) ht) rfl ?_
  change am_AtG [] lawPo (am_XS n scr) d mLW 1772 (lwL i (some (am_I k)) (some (am_I w))) [_] _ _
  refine gm_iload dL_law__1772 rfl ?_
  refine gm_icmp_eq (5) 1779 dL_law__1774 rfl (fun hc => ?_) (fun hc => absurd rfl hc)
  refine gm_iload dL_law__1779 rfl ?_
  have KK : am_AtG [] lawPo (am_XS n scr) d mLW 1796 (lwL i (some (am_I k)) (some (am_I w))) [] (am_hM h M2) r := by
    refine gm_goto (671) 2467 dL_law__1796 rfl ?_
    refine gm_drop 5 ?_
    refine gm_drop 6 ?_
    exact K
  refine gm_if_ne (15) 1796 dL_law__1781 rfl (fun hc => KK) (fun hc => ?_)
  refine gm_aload_n dL_law__1784 rfl ?_
  refine gm_iconst 0 (v := 0) dL_law__1785 (by decide) ?_
  refine gm_lald dL_law__1786 (sh_82 g) (am_lit rfl) ?_
  refine gm_iload dL_law__1787 rfl ?_
  refine gm_i2l dL_law__1789 ?_
  refine gm_lcmp dL_law__1790 ?_
  refine gm_if_eq (5) 1796 dL_law__1791 rfl (fun hc => KK) (fun hc2 => absurd ?_ hc2)
  show lg_cmp (am_lg (h.2.2 82 0)) w.toInt64 = 0
  rw [ho hc]
  exact lg_cmp_self _
theorem hd'_walk {d d1 n b : Nat} {scr : Nat → Int32} {i : Int32} {r : Nat × Nat} (hR : Rd n b i) {h h1 : am_H} {M M1 : Mem} {k : Int32} {r' : Nat × Nat} (E : am_EvH d1 [(0, 12, 15, 31), (0, 12, 19, 13)] mL_walk [.inr (0, 0), am_I (scr (b + 1)), am_I (scr (b + 2)), am_I (scr (b + 3)), .inr (82, 0)] (am_hM h M) (am_I k) (am_hM h1 M1)) (hsh : h1.1 = h.1) (hd1 : d1 + 1 ≤ d) (hr1 : r'.1 + 1 ≤ r.1) (hr2 : r'.2 + 6 ≤ r.2) (hr3 : am_nc (am_hM h M) ≤ r'.1) (hr4 : am_ns (am_hM h M) ≤ r'.2) (K : am_AtG [] lawPo (am_XS n scr) d mLW 1824 (lwL i (some (am_I k)) none) [] (am_hM h1 M1) r') : am_AtG [] lawPo (am_XS n scr) d mLW 1799 (lwL i none none) [] (am_hM h M) r := by
  refine gm_aload_n dL_law__1799 rfl ?_
  refine gm_aload_n dL_law__1800 rfl ?_
  refine gm_iload dL_law__1801 rfl ?_
  refine gm_iconst 1 (v := 1) dL_law__1803 (by decide) ?_
  refine gm_iadd dL_law__1804 ?_
  refine gm_sald (b + 1) dL_law__1805 hR.r1 ?_
  refine gm_aload_n dL_law__1806 rfl ?_
  refine gm_iload dL_law__1807 rfl ?_
  refine gm_iconst 2 (v := 2) dL_law__1809 (by decide) ?_
  refine gm_iadd dL_law__1810 ?_
  refine gm_sald (b + 2) dL_law__1811 hR.r2 ?_
  refine gm_aload_n dL_law__1812 rfl ?_
  refine gm_iload dL_law__1813 rfl ?_
  refine gm_iconst 3 (v := 3) dL_law__1815 (by decide) ?_
  refine gm_iadd dL_law__1816 ?_
  refine gm_sald (b + 3) dL_law__1817 hR.r3 ?_
  refine gm_aload_n dL_law__1818 rfl ?_
  refine gm_callH [_, _, _, _, _] dL_law__1819 hl_walk hd_walk rfl (fun _ => zq _ rfl) hd1 rfl E hsh (fun _ _ _ z => z.2.2) hr1 hr2 hr3 hr4 ?_
  change am_AtG [] lawPo (am_XS n scr) d mLW 1822 (lwL i none none) [_] _ _
  refine gm_istore dL_law__1822 (am_lb rfl) ?_
  exact K
theorem tl_walk {d d1 n b : Nat} {scr : Nat → Int32} {i : Int32} {r : Nat × Nat} (hR : Rd n b i) {h : am_H} {M1 M2 : Mem} {w k : Int32} (g : lay h) (E : am_Ev d1 mX12_walk [.inr (54, 0), am_I (scr (b + 1)), am_I (scr (b + 2)), am_I (scr (b + 3))] (am_hM h M1) (.inl (some (am_I w), am_hM h M2))) (hd1 : d1 + 1 ≤ d) (ht : f_X12_thrown M2 = k) (ho : k = 0 → am_lg (h.2.2 82 0) = w.toInt64) (K : am_AtG [] lawPo (am_XS n scr) d mLW 2467 (lwL i none none) [] (am_hM h M2) r) : am_AtG [] lawPo (am_XS n scr) d mLW 1824 (lwL i (some (am_I k)) none) [] (am_hM h M1) r := by
  refine gm_aload_n dL_law__1824 rfl ?_
  refine gm_aload_n dL_law__1825 rfl ?_
  refine gm_iload dL_law__1826 rfl ?_
  refine gm_iconst 1 (v := 1) dL_law__1828 (by decide) ?_
  refine gm_iadd dL_law__1829 ?_
  refine gm_sald (b + 1) dL_law__1830 hR.r1 ?_
  refine gm_aload_n dL_law__1831 rfl ?_
  refine gm_iload dL_law__1832 rfl ?_
  refine gm_iconst 2 (v := 2) dL_law__1834 (by decide) ?_
  refine gm_iadd dL_law__1835 ?_
  refine gm_sald (b + 2) dL_law__1836 hR.r2 ?_
  refine gm_aload_n dL_law__1837 rfl ?_
  refine gm_iload dL_law__1838 rfl ?_
  refine gm_iconst 3 (v := 3) dL_law__1840 (by decide) ?_
  refine gm_iadd dL_law__1841 ?_
  refine gm_sald (b + 3) dL_law__1842 hR.r3 ?_
  refine gm_callV [_, _, _] dL_law__1843 ml_L_212 vm_X12_walk (sh_54 g) rfl (fun _ => zq _ rfl) hd1 rfl E rfl ?_
  change am_AtG [] lawPo (am_XS n scr) d mLW 1846 (lwL i (some (am_I k)) none) [_] _ _
  refine gm_istore dL_law__1846 (am_lb rfl) ?_
  refine gm_aload_n dL_law__1848 rfl ?_
  refine gm_callV [] dL_law__1849 ml_L_126 vm_X12_thrown (sh_54 g) rfl (fun _ => zq _ rfl) hd1 rfl (ef_X12_thrown (d := d1) (h := h) g (M := M2) (v := k) ht) rfl ?_
  change am_AtG [] lawPo (am_XS n scr) d mLW 1852 (lwL i (some (am_I k)) (some (am_I w))) [_] _ _
  refine gm_iload dL_law__1852 rfl ?_
  refine gm_icmp_eq (5) 1859 dL_law__1854 rfl (fun hc => ?_) (fun hc => absurd rfl hc)
  refine gm_iload dL_law__1859 rfl ?_
  have KK : am_AtG [] lawPo (am_XS n scr) d mLW 1876 (lwL i (some (am_I k)) (some (am_I w))) [] (am_hM h M2) r := by
    refine gm_goto (591) 2467 dL_law__1876 rfl ?_
    refine gm_drop 5 ?_
    refine gm_drop 6 ?_
    exact K
  refine gm_if_ne (15) 1876 dL_law__1861 rfl (fun hc => KK) (fun hc => ?_)
  refine gm_aload_n dL_law__1864 rfl ?_
  refine gm_iconst 0 (v := 0) dL_law__1865 (by decide) ?_
  refine gm_lald dL_law__1866 (sh_82 g) (am_lit rfl) ?_
  refine gm_iload dL_law__1867 rfl ?_
  refine gm_i2l dL_law__1869 ?_
  refine gm_lcmp dL_law__1870 ?_
  refine gm_if_eq (5) 1876 dL_law__1871 rfl (fun hc => KK) (fun hc2 => absurd ?_ hc2)
  show lg_cmp (am_lg (h.2.2 82 0)) w.toInt64 = 0
  rw [ho hc]
  exact lg_cmp_self _
theorem hd'_reach {d d1 n b : Nat} {scr : Nat → Int32} {i : Int32} {r : Nat × Nat} (hR : Rd n b i) {h h1 : am_H} {M M1 : Mem} {k : Int32} {r' : Nat × Nat} (E : am_EvH d1 [(0, 10, 13, 31), (0, 10, 17, 13)] mL_reach [.inr (0, 0), am_I (scr (b + 1)), am_I (scr (b + 2)), .inr (82, 0)] (am_hM h M) (am_I k) (am_hM h1 M1)) (hsh : h1.1 = h.1) (hd1 : d1 + 1 ≤ d) (hr1 : r'.1 + 1 ≤ r.1) (hr2 : r'.2 + 6 ≤ r.2) (hr3 : am_nc (am_hM h M) ≤ r'.1) (hr4 : am_ns (am_hM h M) ≤ r'.2) (K : am_AtG [] lawPo (am_XS n scr) d mLW 1898 (lwL i (some (am_I k)) none) [] (am_hM h1 M1) r') : am_AtG [] lawPo (am_XS n scr) d mLW 1879 (lwL i none none) [] (am_hM h M) r := by
  refine gm_aload_n dL_law__1879 rfl ?_
  refine gm_aload_n dL_law__1880 rfl ?_
  refine gm_iload dL_law__1881 rfl ?_
  refine gm_iconst 1 (v := 1) dL_law__1883 (by decide) ?_
  refine gm_iadd dL_law__1884 ?_
  refine gm_sald (b + 1) dL_law__1885 hR.r1 ?_
  refine gm_aload_n dL_law__1886 rfl ?_
  refine gm_iload dL_law__1887 rfl ?_
  refine gm_iconst 2 (v := 2) dL_law__1889 (by decide) ?_
  refine gm_iadd dL_law__1890 ?_
  refine gm_sald (b + 2) dL_law__1891 hR.r2 ?_
  refine gm_aload_n dL_law__1892 rfl ?_
  refine gm_callH [_, _, _, _] dL_law__1893 hl_reach hd_reach rfl (fun _ => zq _ rfl) hd1 rfl E hsh (fun _ _ _ z => z.2.2) hr1 hr2 hr3 hr4 ?_
  change am_AtG [] lawPo (am_XS n scr) d mLW 1896 (lwL i none none) [_] _ _
  refine gm_istore dL_law__1896 (am_lb rfl) ?_
  exact K
theorem tl_reach {d d1 n b : Nat} {scr : Nat → Int32} {i : Int32} {r : Nat × Nat} (hR : Rd n b i) {h : am_H} {M1 M2 : Mem} {w k : Int32} (g : lay h) (E : am_Ev d1 mX12_reach [.inr (54, 0), am_I (scr (b + 1)), am_I (scr (b + 2))] (am_hM h M1) (.inl (some (am_I w), am_hM h M2))) (hd1 : d1 + 1 ≤ d) (ht : f_X12_thrown M2 = k) (ho : k = 0 → am_lg (h.2.2 82 0) = w.toInt64) (K : am_AtG [] lawPo (am_XS n scr) d mLW 2467 (lwL i none none) [] (am_hM h M2) r) : am_AtG [] lawPo (am_XS n scr) d mLW 1898 (lwL i (some (am_I k)) none) [] (am_hM h M1) r := by
  refine gm_aload_n dL_law__1898 rfl ?_
  refine gm_aload_n dL_law__1899 rfl ?_
  refine gm_iload dL_law__1900 rfl ?_
  refine gm_iconst 1 (v := 1) dL_law__1902 (by decide) ?_
  refine gm_iadd dL_law__1903 ?_
  refine gm_sald (b + 1) dL_law__1904 hR.r1 ?_
  refine gm_aload_n dL_law__1905 rfl ?_
  refine gm_iload dL_law__1906 rfl ?_
  refine gm_iconst 2 (v := 2) dL_law__1908 (by decide) ?_
  refine gm_iadd dL_law__1909 ?_
  refine gm_sald (b + 2) dL_law__1910 hR.r2 ?_
  refine gm_callV [_, _] dL_law__1911 ml_L_215 vm_X12_reach (sh_54 g) rfl (fun _ => zq _ rfl) hd1 rfl E rfl ?_
  change am_AtG [] lawPo (am_XS n scr) d mLW 1914 (lwL i (some (am_I k)) none) [_] _ _
  refine gm_istore dL_law__1914 (am_lb rfl) ?_
  refine gm_aload_n dL_law__1916 rfl ?_
  refine gm_callV [] dL_law__1917 ml_L_126 vm_X12_thrown (sh_54 g) rfl (fun _ => zq _ rfl) hd1 rfl (ef_X12_thrown (d := d1) (h := h) g (M := M2) (v := k) ht) rfl ?_
  change am_AtG [] lawPo (am_XS n scr) d mLW 1920 (lwL i (some (am_I k)) (some (am_I w))) [_] _ _
  refine gm_iload dL_law__1920 rfl ?_
  refine gm_icmp_eq (5) 1927 dL_law__1922 rfl (fun hc => ?_) (fun hc => absurd rfl hc)
  refine gm_iload dL_law__1927 rfl ?_
  have KK : am_AtG [] lawPo (am_XS n scr) d mLW 1944 (lwL i (some (am_I k)) (some (am_I w))) [] (am_hM h M2) r := by
    refine gm_goto (523) 2467 dL_law__1944 rfl ?_
    refine gm_drop 5 ?_
    refine gm_drop 6 ?_
    exact K
  refine gm_if_ne (15) 1944 dL_law__1929 rfl (fun hc => KK) (fun hc => ?_)
  refine gm_aload_n dL_law__1932 rfl ?_
  refine gm_iconst 0 (v := 0) dL_law__1933 (by decide) ?_
  refine gm_lald dL_law__1934 (sh_82 g) (am_lit rfl) ?_
  refine gm_iload dL_law__1935 rfl ?_
  refine gm_i2l dL_law__1937 ?_
  refine gm_lcmp dL_law__1938 ?_
  refine gm_if_eq (5) 1944 dL_law__1939 rfl (fun hc => KK) (fun hc2 => absurd ?_ hc2)
  show lg_cmp (am_lg (h.2.2 82 0)) w.toInt64 = 0
  rw [ho hc]
  exact lg_cmp_self _
theorem hd'_peak {d d1 n b : Nat} {scr : Nat → Int32} {i : Int32} {r : Nat × Nat} (hR : Rd n b i) {h h1 : am_H} {M M1 : Mem} {k : Int32} {r' : Nat × Nat} (E : am_EvH d1 [(0, 9, 12, 13)] mL_peak [.inr (0, 0), am_I (scr (b + 1)), .inr (82, 0)] (am_hM h M) (am_I k) (am_hM h1 M1)) (hsh : h1.1 = h.1) (hd1 : d1 + 1 ≤ d) (hr1 : r'.1 + 1 ≤ r.1) (hr2 : r'.2 + 6 ≤ r.2) (hr3 : am_nc (am_hM h M) ≤ r'.1) (hr4 : am_ns (am_hM h M) ≤ r'.2) (K : am_AtG [] lawPo (am_XS n scr) d mLW 1960 (lwL i (some (am_I k)) none) [] (am_hM h1 M1) r') : am_AtG [] lawPo (am_XS n scr) d mLW 1947 (lwL i none none) [] (am_hM h M) r := by
  refine gm_aload_n dL_law__1947 rfl ?_
  refine gm_aload_n dL_law__1948 rfl ?_
  refine gm_iload dL_law__1949 rfl ?_
  refine gm_iconst 1 (v := 1) dL_law__1951 (by decide) ?_
  refine gm_iadd dL_law__1952 ?_
  refine gm_sald (b + 1) dL_law__1953 hR.r1 ?_
  refine gm_aload_n dL_law__1954 rfl ?_
  refine gm_callH [_, _, _] dL_law__1955 hl_peak hd_peak rfl (fun _ => zq _ rfl) hd1 rfl E hsh (fun _ _ _ z => z.2.2) hr1 hr2 hr3 hr4 ?_
  change am_AtG [] lawPo (am_XS n scr) d mLW 1958 (lwL i none none) [_] _ _
  refine gm_istore dL_law__1958 (am_lb rfl) ?_
  exact K
theorem tl_peak {d d1 n b : Nat} {scr : Nat → Int32} {i : Int32} {r : Nat × Nat} (hR : Rd n b i) {h : am_H} {M1 M2 : Mem} {w k : Int32} (g : lay h) (E : am_Ev d1 mX12_peak [.inr (54, 0), am_I (scr (b + 1))] (am_hM h M1) (.inl (some (am_I w), am_hM h M2))) (hd1 : d1 + 1 ≤ d) (ht : f_X12_thrown M2 = k) (ho : k = 0 → am_lg (h.2.2 82 0) = w.toInt64) (K : am_AtG [] lawPo (am_XS n scr) d mLW 2467 (lwL i none none) [] (am_hM h M2) r) : am_AtG [] lawPo (am_XS n scr) d mLW 1960 (lwL i (some (am_I k)) none) [] (am_hM h M1) r := by
  refine gm_aload_n dL_law__1960 rfl ?_
  refine gm_aload_n dL_law__1961 rfl ?_
  refine gm_iload dL_law__1962 rfl ?_
  refine gm_iconst 1 (v := 1) dL_law__1964 (by decide) ?_
  refine gm_iadd dL_law__1965 ?_
  refine gm_sald (b + 1) dL_law__1966 hR.r1 ?_
  refine gm_callV [_] dL_law__1967 ml_L_218 vm_X12_peak (sh_54 g) rfl (fun _ => zq _ rfl) hd1 rfl E rfl ?_
  change am_AtG [] lawPo (am_XS n scr) d mLW 1970 (lwL i (some (am_I k)) none) [_] _ _
  refine gm_istore dL_law__1970 (am_lb rfl) ?_
  refine gm_aload_n dL_law__1972 rfl ?_
  refine gm_callV [] dL_law__1973 ml_L_126 vm_X12_thrown (sh_54 g) rfl (fun _ => zq _ rfl) hd1 rfl (ef_X12_thrown (d := d1) (h := h) g (M := M2) (v := k) ht) rfl ?_
  change am_AtG [] lawPo (am_XS n scr) d mLW 1976 (lwL i (some (am_I k)) (some (am_I w))) [_] _ _
  refine gm_iload dL_law__1976 rfl ?_
  refine gm_icmp_eq (5) 1983 dL_law__1978 rfl (fun hc => ?_) (fun hc => absurd rfl hc)
  refine gm_iload dL_law__1983 rfl ?_
  have KK : am_AtG [] lawPo (am_XS n scr) d mLW 2000 (lwL i (some (am_I k)) (some (am_I w))) [] (am_hM h M2) r := by
    refine gm_goto (467) 2467 dL_law__2000 rfl ?_
    refine gm_drop 5 ?_
    refine gm_drop 6 ?_
    exact K
  refine gm_if_ne (15) 2000 dL_law__1985 rfl (fun hc => KK) (fun hc => ?_)
  refine gm_aload_n dL_law__1988 rfl ?_
  refine gm_iconst 0 (v := 0) dL_law__1989 (by decide) ?_
  refine gm_lald dL_law__1990 (sh_82 g) (am_lit rfl) ?_
  refine gm_iload dL_law__1991 rfl ?_
  refine gm_i2l dL_law__1993 ?_
  refine gm_lcmp dL_law__1994 ?_
  refine gm_if_eq (5) 2000 dL_law__1995 rfl (fun hc => KK) (fun hc2 => absurd ?_ hc2)
  show lg_cmp (am_lg (h.2.2 82 0)) w.toInt64 = 0
  rw [ho hc]
  exact lg_cmp_self _
theorem hd'_narrow {d d1 n b : Nat} {scr : Nat → Int32} {i : Int32} {r : Nat × Nat} (hR : Rd n b i) {h h1 : am_H} {M M1 : Mem} {k : Int32} {r' : Nat × Nat} (E : am_EvH d1 [(0, 10, 13, 13)] mL_narrow [.inr (0, 0), am_I (scr (b + 1)), am_I (scr (b + 2)), .inr (82, 0)] (am_hM h M) (am_I k) (am_hM h1 M1)) (hsh : h1.1 = h.1) (hd1 : d1 + 1 ≤ d) (hr1 : r'.1 + 1 ≤ r.1) (hr2 : r'.2 + 6 ≤ r.2) (hr3 : am_nc (am_hM h M) ≤ r'.1) (hr4 : am_ns (am_hM h M) ≤ r'.2) (K : am_AtG [] lawPo (am_XS n scr) d mLW 2022 (lwL i (some (am_I k)) none) [] (am_hM h1 M1) r') : am_AtG [] lawPo (am_XS n scr) d mLW 2003 (lwL i none none) [] (am_hM h M) r := by
  refine gm_aload_n dL_law__2003 rfl ?_
  refine gm_aload_n dL_law__2004 rfl ?_
  refine gm_iload dL_law__2005 rfl ?_
  refine gm_iconst 1 (v := 1) dL_law__2007 (by decide) ?_
  refine gm_iadd dL_law__2008 ?_
  refine gm_sald (b + 1) dL_law__2009 hR.r1 ?_
  refine gm_aload_n dL_law__2010 rfl ?_
  refine gm_iload dL_law__2011 rfl ?_
  refine gm_iconst 2 (v := 2) dL_law__2013 (by decide) ?_
  refine gm_iadd dL_law__2014 ?_
  refine gm_sald (b + 2) dL_law__2015 hR.r2 ?_
  refine gm_aload_n dL_law__2016 rfl ?_
  refine gm_callH [_, _, _, _] dL_law__2017 hl_narrow hd_narrow rfl (fun _ => zq _ rfl) hd1 rfl E hsh (fun _ _ _ z => z.2.2) hr1 hr2 hr3 hr4 ?_
  change am_AtG [] lawPo (am_XS n scr) d mLW 2020 (lwL i none none) [_] _ _
  refine gm_istore dL_law__2020 (am_lb rfl) ?_
  exact K
theorem tl_narrow {d d1 n b : Nat} {scr : Nat → Int32} {i : Int32} {r : Nat × Nat} (hR : Rd n b i) {h : am_H} {M1 M2 : Mem} {w k : Int32} (g : lay h) (E : am_Ev d1 mX12_narrow [.inr (54, 0), am_I (scr (b + 1)), am_I (scr (b + 2))] (am_hM h M1) (.inl (some (am_I w), am_hM h M2))) (hd1 : d1 + 1 ≤ d) (ht : f_X12_thrown M2 = k) (ho : k = 0 → am_lg (h.2.2 82 0) = w.toInt64) (K : am_AtG [] lawPo (am_XS n scr) d mLW 2467 (lwL i none none) [] (am_hM h M2) r) : am_AtG [] lawPo (am_XS n scr) d mLW 2022 (lwL i (some (am_I k)) none) [] (am_hM h M1) r := by
  refine gm_aload_n dL_law__2022 rfl ?_
  refine gm_aload_n dL_law__2023 rfl ?_
  refine gm_iload dL_law__2024 rfl ?_
  refine gm_iconst 1 (v := 1) dL_law__2026 (by decide) ?_
  refine gm_iadd dL_law__2027 ?_
  refine gm_sald (b + 1) dL_law__2028 hR.r1 ?_
  refine gm_aload_n dL_law__2029 rfl ?_
  refine gm_iload dL_law__2030 rfl ?_
  refine gm_iconst 2 (v := 2) dL_law__2032 (by decide) ?_
  refine gm_iadd dL_law__2033 ?_
  refine gm_sald (b + 2) dL_law__2034 hR.r2 ?_
  refine gm_callV [_, _] dL_law__2035 ml_L_221 vm_X12_narrow (sh_54 g) rfl (fun _ => zq _ rfl) hd1 rfl E rfl ?_
  change am_AtG [] lawPo (am_XS n scr) d mLW 2038 (lwL i (some (am_I k)) none) [_] _ _
  refine gm_istore dL_law__2038 (am_lb rfl) ?_
  refine gm_aload_n dL_law__2040 rfl ?_
  refine gm_callV [] dL_law__2041 ml_L_126 vm_X12_thrown (sh_54 g) rfl (fun _ => zq _ rfl) hd1 rfl (ef_X12_thrown (d := d1) (h := h) g (M := M2) (v := k) ht) rfl ?_
  change am_AtG [] lawPo (am_XS n scr) d mLW 2044 (lwL i (some (am_I k)) (some (am_I w))) [_] _ _
  refine gm_iload dL_law__2044 rfl ?_
  refine gm_icmp_eq (5) 2051 dL_law__2046 rfl (fun hc => ?_) (fun hc => absurd rfl hc)
  refine gm_iload dL_law__2051 rfl ?_
  have KK : am_AtG [] lawPo (am_XS n scr) d mLW 2068 (lwL i (some (am_I k)) (some (am_I w))) [] (am_hM h M2) r := by
    refine gm_goto (399) 2467 dL_law__2068 rfl ?_
    refine gm_drop 5 ?_
    refine gm_drop 6 ?_
    exact K
  refine gm_if_ne (15) 2068 dL_law__2053 rfl (fun hc => KK) (fun hc => ?_)
  refine gm_aload_n dL_law__2056 rfl ?_
  refine gm_iconst 0 (v := 0) dL_law__2057 (by decide) ?_
  refine gm_lald dL_law__2058 (sh_82 g) (am_lit rfl) ?_
  refine gm_iload dL_law__2059 rfl ?_
  refine gm_i2l dL_law__2061 ?_
  refine gm_lcmp dL_law__2062 ?_
  refine gm_if_eq (5) 2068 dL_law__2063 rfl (fun hc => KK) (fun hc2 => absurd ?_ hc2)
  show lg_cmp (am_lg (h.2.2 82 0)) w.toInt64 = 0
  rw [ho hc]
  exact lg_cmp_self _
theorem hd'_worst {d d1 n b : Nat} {scr : Nat → Int32} {i : Int32} {r : Nat × Nat} (hR : Rd n b i) {h h1 : am_H} {M M1 : Mem} {k : Int32} {r' : Nat × Nat} (E : am_EvH d1 [(0, 9, 12, 13)] mL_worst [.inr (0, 0), am_I (scr (b + 1)), .inr (82, 0)] (am_hM h M) (am_I k) (am_hM h1 M1)) (hsh : h1.1 = h.1) (hd1 : d1 + 1 ≤ d) (hr1 : r'.1 + 1 ≤ r.1) (hr2 : r'.2 + 6 ≤ r.2) (hr3 : am_nc (am_hM h M) ≤ r'.1) (hr4 : am_ns (am_hM h M) ≤ r'.2) (K : am_AtG [] lawPo (am_XS n scr) d mLW 2084 (lwL i (some (am_I k)) none) [] (am_hM h1 M1) r') : am_AtG [] lawPo (am_XS n scr) d mLW 2071 (lwL i none none) [] (am_hM h M) r := by
  refine gm_aload_n dL_law__2071 rfl ?_
  refine gm_aload_n dL_law__2072 rfl ?_
  refine gm_iload dL_law__2073 rfl ?_
  refine gm_iconst 1 (v := 1) dL_law__2075 (by decide) ?_
  refine gm_iadd dL_law__2076 ?_
  refine gm_sald (b + 1) dL_law__2077 hR.r1 ?_
  refine gm_aload_n dL_law__2078 rfl ?_
  refine gm_callH [_, _, _] dL_law__2079 hl_worst hd_worst rfl (fun _ => zq _ rfl) hd1 rfl E hsh (fun _ _ _ z => z.2.2) hr1 hr2 hr3 hr4 ?_
  change am_AtG [] lawPo (am_XS n scr) d mLW 2082 (lwL i none none) [_] _ _
  refine gm_istore dL_law__2082 (am_lb rfl) ?_
  exact K
theorem tl_worst {d d1 n b : Nat} {scr : Nat → Int32} {i : Int32} {r : Nat × Nat} (hR : Rd n b i) {h : am_H} {M1 M2 : Mem} {w k : Int32} (g : lay h) (E : am_Ev d1 mX12_worst [.inr (54, 0), am_I (scr (b + 1))] (am_hM h M1) (.inl (some (am_I w), am_hM h M2))) (hd1 : d1 + 1 ≤ d) (ht : f_X12_thrown M2 = k) (ho : k = 0 → am_lg (h.2.2 82 0) = w.toInt64) (K : am_AtG [] lawPo (am_XS n scr) d mLW 2467 (lwL i none none) [] (am_hM h M2) r) : am_AtG [] lawPo (am_XS n scr) d mLW 2084 (lwL i (some (am_I k)) none) [] (am_hM h M1) r := by
  refine gm_aload_n dL_law__2084 rfl ?_
  refine gm_aload_n dL_law__2085 rfl ?_
  refine gm_iload dL_law__2086 rfl ?_
  refine gm_iconst 1 (v := 1) dL_law__2088 (by decide) ?_
  refine gm_iadd dL_law__2089 ?_
  refine gm_sald (b + 1) dL_law__2090 hR.r1 ?_
  refine gm_callV [_] dL_law__2091 ml_L_224 vm_X12_worst (sh_54 g) rfl (fun _ => zq _ rfl) hd1 rfl E rfl ?_
  change am_AtG [] lawPo (am_XS n scr) d mLW 2094 (lwL i (some (am_I k)) none) [_] _ _
  refine gm_istore dL_law__2094 (am_lb rfl) ?_
  refine gm_aload_n dL_law__2096 rfl ?_
  refine gm_callV [] dL_law__2097 ml_L_126 vm_X12_thrown (sh_54 g) rfl (fun _ => zq _ rfl) hd1 rfl (ef_X12_thrown (d := d1) (h := h) g (M := M2) (v := k) ht) rfl ?_
  change am_AtG [] lawPo (am_XS n scr) d mLW 2100 (lwL i (some (am_I k)) (some (am_I w))) [_] _ _
  refine gm_iload dL_law__2100 rfl ?_
  refine gm_icmp_eq (5) 2107 dL_law__2102 rfl (fun hc => ?_) (fun hc => absurd rfl hc)
  refine gm_iload dL_law__2107 rfl ?_
  have KK : am_AtG [] lawPo (am_XS n scr) d mLW 2124 (lwL i (some (am_I k)) (some (am_I w))) [] (am_hM h M2) r := by
    refine gm_goto (343) 2467 dL_law__2124 rfl ?_
    refine gm_drop 5 ?_
    refine gm_drop 6 ?_
    exact K
  refine gm_if_ne (15) 2124 dL_law__2109 rfl (fun hc => KK) (fun hc => ?_)
  refine gm_aload_n dL_law__2112 rfl ?_
  refine gm_iconst 0 (v := 0) dL_law__2113 (by decide) ?_
  refine gm_lald dL_law__2114 (sh_82 g) (am_lit rfl) ?_
  refine gm_iload dL_law__2115 rfl ?_
  refine gm_i2l dL_law__2117 ?_
  refine gm_lcmp dL_law__2118 ?_
  refine gm_if_eq (5) 2124 dL_law__2119 rfl (fun hc => KK) (fun hc2 => absurd ?_ hc2)
  show lg_cmp (am_lg (h.2.2 82 0)) w.toInt64 = 0
  rw [ho hc]
  exact lg_cmp_self _
theorem hd'_ahead {d d1 n b : Nat} {scr : Nat → Int32} {i : Int32} {r : Nat × Nat} (hR : Rd n b i) {h h1 : am_H} {M M1 : Mem} {k : Int32} {r' : Nat × Nat} (E : am_EvH d1 [(0, 10, 13, 13)] mL_ahead [.inr (0, 0), am_I (scr (b + 1)), am_I (scr (b + 2)), .inr (82, 0)] (am_hM h M) (am_I k) (am_hM h1 M1)) (hsh : h1.1 = h.1) (hd1 : d1 + 1 ≤ d) (hr1 : r'.1 + 1 ≤ r.1) (hr2 : r'.2 + 6 ≤ r.2) (hr3 : am_nc (am_hM h M) ≤ r'.1) (hr4 : am_ns (am_hM h M) ≤ r'.2) (K : am_AtG [] lawPo (am_XS n scr) d mLW 2146 (lwL i (some (am_I k)) none) [] (am_hM h1 M1) r') : am_AtG [] lawPo (am_XS n scr) d mLW 2127 (lwL i none none) [] (am_hM h M) r := by
  refine gm_aload_n dL_law__2127 rfl ?_
  refine gm_aload_n dL_law__2128 rfl ?_
  refine gm_iload dL_law__2129 rfl ?_
  refine gm_iconst 1 (v := 1) dL_law__2131 (by decide) ?_
  refine gm_iadd dL_law__2132 ?_
  refine gm_sald (b + 1) dL_law__2133 hR.r1 ?_
  refine gm_aload_n dL_law__2134 rfl ?_
  refine gm_iload dL_law__2135 rfl ?_
  refine gm_iconst 2 (v := 2) dL_law__2137 (by decide) ?_
  refine gm_iadd dL_law__2138 ?_
  refine gm_sald (b + 2) dL_law__2139 hR.r2 ?_
  refine gm_aload_n dL_law__2140 rfl ?_
  refine gm_callH [_, _, _, _] dL_law__2141 hl_ahead hd_ahead rfl (fun _ => zq _ rfl) hd1 rfl E hsh (fun _ _ _ z => z.2.2) hr1 hr2 hr3 hr4 ?_
  change am_AtG [] lawPo (am_XS n scr) d mLW 2144 (lwL i none none) [_] _ _
  refine gm_istore dL_law__2144 (am_lb rfl) ?_
  exact K
theorem tl_ahead {d d1 n b : Nat} {scr : Nat → Int32} {i : Int32} {r : Nat × Nat} (hR : Rd n b i) {h : am_H} {M1 M2 : Mem} {w k : Int32} (g : lay h) (E : am_Ev d1 mX12_ahead [.inr (54, 0), am_I (scr (b + 1)), am_I (scr (b + 2))] (am_hM h M1) (.inl (some (am_I w), am_hM h M2))) (hd1 : d1 + 1 ≤ d) (ht : f_X12_thrown M2 = k) (ho : k = 0 → am_lg (h.2.2 82 0) = w.toInt64) (K : am_AtG [] lawPo (am_XS n scr) d mLW 2467 (lwL i none none) [] (am_hM h M2) r) : am_AtG [] lawPo (am_XS n scr) d mLW 2146 (lwL i (some (am_I k)) none) [] (am_hM h M1) r := by
  refine gm_aload_n dL_law__2146 rfl ?_
  refine gm_aload_n dL_law__2147 rfl ?_
  refine gm_iload dL_law__2148 rfl ?_
  refine gm_iconst 1 (v := 1) dL_law__2150 (by decide) ?_
  refine gm_iadd dL_law__2151 ?_
  refine gm_sald (b + 1) dL_law__2152 hR.r1 ?_
  refine gm_aload_n dL_law__2153 rfl ?_
  refine gm_iload dL_law__2154 rfl ?_
  refine gm_iconst 2 (v := 2) dL_law__2156 (by decide) ?_
  refine gm_iadd dL_law__2157 ?_
  refine gm_sald (b + 2) dL_law__2158 hR.r2 ?_
  refine gm_callV [_, _] dL_law__2159 ml_L_227 vm_X12_ahead (sh_54 g) rfl (fun _ => zq _ rfl) hd1 rfl E rfl ?_
  change am_AtG [] lawPo (am_XS n scr) d mLW 2162 (lwL i (some (am_I k)) none) [_] _ _
  refine gm_istore dL_law__2162 (am_lb rfl) ?_
  refine gm_aload_n dL_law__2164 rfl ?_
  refine gm_callV [] dL_law__2165 ml_L_126 vm_X12_thrown (sh_54 g) rfl (fun _ => zq _ rfl) hd1 rfl (ef_X12_thrown (d := d1) (h := h) g (M := M2) (v := k) ht) rfl ?_
  change am_AtG [] lawPo (am_XS n scr) d mLW 2168 (lwL i (some (am_I k)) (some (am_I w))) [_] _ _
  refine gm_iload dL_law__2168 rfl ?_
  refine gm_icmp_eq (5) 2175 dL_law__2170 rfl (fun hc => ?_) (fun hc => absurd rfl hc)
  refine gm_iload dL_law__2175 rfl ?_
  have KK : am_AtG [] lawPo (am_XS n scr) d mLW 2192 (lwL i (some (am_I k)) (some (am_I w))) [] (am_hM h M2) r := by
    refine gm_goto (275) 2467 dL_law__2192 rfl ?_
    refine gm_drop 5 ?_
    refine gm_drop 6 ?_
    exact K
  refine gm_if_ne (15) 2192 dL_law__2177 rfl (fun hc => KK) (fun hc => ?_)
  refine gm_aload_n dL_law__2180 rfl ?_
  refine gm_iconst 0 (v := 0) dL_law__2181 (by decide) ?_
  refine gm_lald dL_law__2182 (sh_82 g) (am_lit rfl) ?_
  refine gm_iload dL_law__2183 rfl ?_
  refine gm_i2l dL_law__2185 ?_
  refine gm_lcmp dL_law__2186 ?_
  refine gm_if_eq (5) 2192 dL_law__2187 rfl (fun hc => KK) (fun hc2 => absurd ?_ hc2)
  show lg_cmp (am_lg (h.2.2 82 0)) w.toInt64 = 0
  rw [ho hc]
  exact lg_cmp_self _
theorem hd'_winters {d d1 n b : Nat} {scr : Nat → Int32} {i : Int32} {r : Nat × Nat} (hR : Rd n b i) {h h1 : am_H} {M M1 : Mem} {k : Int32} {r' : Nat × Nat} (E : am_EvH d1 [(0, 14, 17, 13)] mL_winters [.inr (0, 0), am_I (scr (b + 1)), am_I (scr (b + 2)), am_I (scr (b + 3)), am_I (scr (b + 4)), .inr (82, 0)] (am_hM h M) (am_I k) (am_hM h1 M1)) (hsh : h1.1 = h.1) (hd1 : d1 + 1 ≤ d) (hr1 : r'.1 + 1 ≤ r.1) (hr2 : r'.2 + 6 ≤ r.2) (hr3 : am_nc (am_hM h M) ≤ r'.1) (hr4 : am_ns (am_hM h M) ≤ r'.2) (K : am_AtG [] lawPo (am_XS n scr) d mLW 2226 (lwL i (some (am_I k)) none) [] (am_hM h1 M1) r') : am_AtG [] lawPo (am_XS n scr) d mLW 2195 (lwL i none none) [] (am_hM h M) r := by
  refine gm_aload_n dL_law__2195 rfl ?_
  refine gm_aload_n dL_law__2196 rfl ?_
  refine gm_iload dL_law__2197 rfl ?_
  refine gm_iconst 1 (v := 1) dL_law__2199 (by decide) ?_
  refine gm_iadd dL_law__2200 ?_
  refine gm_sald (b + 1) dL_law__2201 hR.r1 ?_
  refine gm_aload_n dL_law__2202 rfl ?_
  refine gm_iload dL_law__2203 rfl ?_
  refine gm_iconst 2 (v := 2) dL_law__2205 (by decide) ?_
  refine gm_iadd dL_law__2206 ?_
  refine gm_sald (b + 2) dL_law__2207 hR.r2 ?_
  refine gm_aload_n dL_law__2208 rfl ?_
  refine gm_iload dL_law__2209 rfl ?_
  refine gm_iconst 3 (v := 3) dL_law__2211 (by decide) ?_
  refine gm_iadd dL_law__2212 ?_
  refine gm_sald (b + 3) dL_law__2213 hR.r3 ?_
  refine gm_aload_n dL_law__2214 rfl ?_
  refine gm_iload dL_law__2215 rfl ?_
  refine gm_iconst 4 (v := 4) dL_law__2217 (by decide) ?_
  refine gm_iadd dL_law__2218 ?_
  refine gm_sald (b + 4) dL_law__2219 hR.r4 ?_
  refine gm_aload_n dL_law__2220 rfl ?_
  refine gm_callH [_, _, _, _, _, _] dL_law__2221 hl_winters hd_winters rfl (fun _ => zq _ rfl) hd1 rfl E hsh (fun _ _ _ z => z.2.2) hr1 hr2 hr3 hr4 ?_
  change am_AtG [] lawPo (am_XS n scr) d mLW 2224 (lwL i none none) [_] _ _
  refine gm_istore dL_law__2224 (am_lb rfl) ?_
  exact K
theorem tl_winters {d d1 n b : Nat} {scr : Nat → Int32} {i : Int32} {r : Nat × Nat} (hR : Rd n b i) {h : am_H} {M1 M2 : Mem} {w k : Int32} (g : lay h) (E : am_Ev d1 mX12_winters [.inr (54, 0), am_I (scr (b + 1)), am_I (scr (b + 2)), am_I (scr (b + 3)), am_I (scr (b + 4))] (am_hM h M1) (.inl (some (am_I w), am_hM h M2))) (hd1 : d1 + 1 ≤ d) (ht : f_X12_thrown M2 = k) (ho : k = 0 → am_lg (h.2.2 82 0) = w.toInt64) (K : am_AtG [] lawPo (am_XS n scr) d mLW 2467 (lwL i none none) [] (am_hM h M2) r) : am_AtG [] lawPo (am_XS n scr) d mLW 2226 (lwL i (some (am_I k)) none) [] (am_hM h M1) r := by
  refine gm_aload_n dL_law__2226 rfl ?_
  refine gm_aload_n dL_law__2227 rfl ?_
  refine gm_iload dL_law__2228 rfl ?_
  refine gm_iconst 1 (v := 1) dL_law__2230 (by decide) ?_
  refine gm_iadd dL_law__2231 ?_
  refine gm_sald (b + 1) dL_law__2232 hR.r1 ?_
  refine gm_aload_n dL_law__2233 rfl ?_
  refine gm_iload dL_law__2234 rfl ?_
  refine gm_iconst 2 (v := 2) dL_law__2236 (by decide) ?_
  refine gm_iadd dL_law__2237 ?_
  refine gm_sald (b + 2) dL_law__2238 hR.r2 ?_
  refine gm_aload_n dL_law__2239 rfl ?_
  refine gm_iload dL_law__2240 rfl ?_
  refine gm_iconst 3 (v := 3) dL_law__2242 (by decide) ?_
  refine gm_iadd dL_law__2243 ?_
  refine gm_sald (b + 3) dL_law__2244 hR.r3 ?_
  refine gm_aload_n dL_law__2245 rfl ?_
  refine gm_iload dL_law__2246 rfl ?_
  refine gm_iconst 4 (v := 4) dL_law__2248 (by decide) ?_
  refine gm_iadd dL_law__2249 ?_
  refine gm_sald (b + 4) dL_law__2250 hR.r4 ?_
  refine gm_callV [_, _, _, _] dL_law__2251 ml_L_231 vm_X12_winters (sh_54 g) rfl (fun _ => zq _ rfl) hd1 rfl E rfl ?_
  change am_AtG [] lawPo (am_XS n scr) d mLW 2254 (lwL i (some (am_I k)) none) [_] _ _
  refine gm_istore dL_law__2254 (am_lb rfl) ?_
  refine gm_aload_n dL_law__2256 rfl ?_
  refine gm_callV [] dL_law__2257 ml_L_126 vm_X12_thrown (sh_54 g) rfl (fun _ => zq _ rfl) hd1 rfl (ef_X12_thrown (d := d1) (h := h) g (M := M2) (v := k) ht) rfl ?_
  change am_AtG [] lawPo (am_XS n scr) d mLW 2260 (lwL i (some (am_I k)) (some (am_I w))) [_] _ _
  refine gm_iload dL_law__2260 rfl ?_
  refine gm_icmp_eq (5) 2267 dL_law__2262 rfl (fun hc => ?_) (fun hc => absurd rfl hc)
  refine gm_iload dL_law__2267 rfl ?_
  have KK : am_AtG [] lawPo (am_XS n scr) d mLW 2284 (lwL i (some (am_I k)) (some (am_I w))) [] (am_hM h M2) r := by
    refine gm_goto (183) 2467 dL_law__2284 rfl ?_
    refine gm_drop 5 ?_
    refine gm_drop 6 ?_
    exact K
  refine gm_if_ne (15) 2284 dL_law__2269 rfl (fun hc => KK) (fun hc => ?_)
  refine gm_aload_n dL_law__2272 rfl ?_
  refine gm_iconst 0 (v := 0) dL_law__2273 (by decide) ?_
  refine gm_lald dL_law__2274 (sh_82 g) (am_lit rfl) ?_
  refine gm_iload dL_law__2275 rfl ?_
  refine gm_i2l dL_law__2277 ?_
  refine gm_lcmp dL_law__2278 ?_
  refine gm_if_eq (5) 2284 dL_law__2279 rfl (fun hc => KK) (fun hc2 => absurd ?_ hc2)
  show lg_cmp (am_lg (h.2.2 82 0)) w.toInt64 = 0
  rw [ho hc]
  exact lg_cmp_self _
theorem hd'_span {d d1 n b : Nat} {scr : Nat → Int32} {i : Int32} {r : Nat × Nat} (hR : Rd n b i) {h h1 : am_H} {M M1 : Mem} {k : Int32} {r' : Nat × Nat} (E : am_EvH d1 [(0, 16, 19, 13)] mL_span [.inr (0, 0), am_I (scr (b + 1)), am_I (scr (b + 2)), am_I (scr (b + 3)), am_I (scr (b + 4)), am_I (scr (b + 5)), .inr (82, 0)] (am_hM h M) (am_I k) (am_hM h1 M1)) (hsh : h1.1 = h.1) (hd1 : d1 + 1 ≤ d) (hr1 : r'.1 + 1 ≤ r.1) (hr2 : r'.2 + 6 ≤ r.2) (hr3 : am_nc (am_hM h M) ≤ r'.1) (hr4 : am_ns (am_hM h M) ≤ r'.2) (K : am_AtG [] lawPo (am_XS n scr) d mLW 2324 (lwL i (some (am_I k)) none) [] (am_hM h1 M1) r') : am_AtG [] lawPo (am_XS n scr) d mLW 2287 (lwL i none none) [] (am_hM h M) r := by
  refine gm_aload_n dL_law__2287 rfl ?_
  refine gm_aload_n dL_law__2288 rfl ?_
  refine gm_iload dL_law__2289 rfl ?_
  refine gm_iconst 1 (v := 1) dL_law__2291 (by decide) ?_
  refine gm_iadd dL_law__2292 ?_
  refine gm_sald (b + 1) dL_law__2293 hR.r1 ?_
  refine gm_aload_n dL_law__2294 rfl ?_
  refine gm_iload dL_law__2295 rfl ?_
  refine gm_iconst 2 (v := 2) dL_law__2297 (by decide) ?_
  refine gm_iadd dL_law__2298 ?_
  refine gm_sald (b + 2) dL_law__2299 hR.r2 ?_
  refine gm_aload_n dL_law__2300 rfl ?_
  refine gm_iload dL_law__2301 rfl ?_
  refine gm_iconst 3 (v := 3) dL_law__2303 (by decide) ?_
  refine gm_iadd dL_law__2304 ?_
  refine gm_sald (b + 3) dL_law__2305 hR.r3 ?_
  refine gm_aload_n dL_law__2306 rfl ?_
  refine gm_iload dL_law__2307 rfl ?_
  refine gm_iconst 4 (v := 4) dL_law__2309 (by decide) ?_
  refine gm_iadd dL_law__2310 ?_
  refine gm_sald (b + 4) dL_law__2311 hR.r4 ?_
  refine gm_aload_n dL_law__2312 rfl ?_
  refine gm_iload dL_law__2313 rfl ?_
  refine gm_iconst 5 (v := 5) dL_law__2315 (by decide) ?_
  refine gm_iadd dL_law__2316 ?_
  refine gm_sald (b + 5) dL_law__2317 hR.r5 ?_
  refine gm_aload_n dL_law__2318 rfl ?_
  refine gm_callH [_, _, _, _, _, _, _] dL_law__2319 hl_span hd_span rfl (fun _ => zq _ rfl) hd1 rfl E hsh (fun _ _ _ z => z.2.2) hr1 hr2 hr3 hr4 ?_
  change am_AtG [] lawPo (am_XS n scr) d mLW 2322 (lwL i none none) [_] _ _
  refine gm_istore dL_law__2322 (am_lb rfl) ?_
  exact K
theorem tl_span {d d1 n b : Nat} {scr : Nat → Int32} {i : Int32} {r : Nat × Nat} (hR : Rd n b i) {h : am_H} {M1 M2 : Mem} {w k : Int32} (g : lay h) (E : am_Ev d1 mX12_span [.inr (54, 0), am_I (scr (b + 1)), am_I (scr (b + 2)), am_I (scr (b + 3)), am_I (scr (b + 4)), am_I (scr (b + 5))] (am_hM h M1) (.inl (some (am_I w), am_hM h M2))) (hd1 : d1 + 1 ≤ d) (ht : f_X12_thrown M2 = k) (ho : k = 0 → am_lg (h.2.2 82 0) = w.toInt64) (K : am_AtG [] lawPo (am_XS n scr) d mLW 2467 (lwL i none none) [] (am_hM h M2) r) : am_AtG [] lawPo (am_XS n scr) d mLW 2324 (lwL i (some (am_I k)) none) [] (am_hM h M1) r := by
  refine gm_aload_n dL_law__2324 rfl ?_
  refine gm_aload_n dL_law__2325 rfl ?_
  refine gm_iload dL_law__2326 rfl ?_
  refine gm_iconst 1 (v := 1) dL_law__2328 (by decide) ?_
  refine gm_iadd dL_law__2329 ?_
  refine gm_sald (b + 1) dL_law__2330 hR.r1 ?_
  refine gm_aload_n dL_law__2331 rfl ?_
  refine gm_iload dL_law__2332 rfl ?_
  refine gm_iconst 2 (v := 2) dL_law__2334 (by decide) ?_
  refine gm_iadd dL_law__2335 ?_
  refine gm_sald (b + 2) dL_law__2336 hR.r2 ?_
  refine gm_aload_n dL_law__2337 rfl ?_
  refine gm_iload dL_law__2338 rfl ?_
  refine gm_iconst 3 (v := 3) dL_law__2340 (by decide) ?_
  refine gm_iadd dL_law__2341 ?_
  refine gm_sald (b + 3) dL_law__2342 hR.r3 ?_
  refine gm_aload_n dL_law__2343 rfl ?_
  refine gm_iload dL_law__2344 rfl ?_
  refine gm_iconst 4 (v := 4) dL_law__2346 (by decide) ?_
  refine gm_iadd dL_law__2347 ?_
  refine gm_sald (b + 4) dL_law__2348 hR.r4 ?_
  refine gm_aload_n dL_law__2349 rfl ?_
  refine gm_iload dL_law__2350 rfl ?_
  refine gm_iconst 5 (v := 5) dL_law__2352 (by decide) ?_
  refine gm_iadd dL_law__2353 ?_
  refine gm_sald (b + 5) dL_law__2354 hR.r5 ?_
  refine gm_callV [_, _, _, _, _] dL_law__2355 ml_L_235 vm_X12_span (sh_54 g) rfl (fun _ => zq _ rfl) hd1 rfl E rfl ?_
  change am_AtG [] lawPo (am_XS n scr) d mLW 2358 (lwL i (some (am_I k)) none) [_] _ _
  refine gm_istore dL_law__2358 (am_lb rfl) ?_
  refine gm_aload_n dL_law__2360 rfl ?_
  refine gm_callV [] dL_law__2361 ml_L_126 vm_X12_thrown (sh_54 g) rfl (fun _ => zq _ rfl) hd1 rfl (ef_X12_thrown (d := d1) (h := h) g (M := M2) (v := k) ht) rfl ?_
  change am_AtG [] lawPo (am_XS n scr) d mLW 2364 (lwL i (some (am_I k)) (some (am_I w))) [_] _ _
  refine gm_iload dL_law__2364 rfl ?_
  refine gm_icmp_eq (5) 2371 dL_law__2366 rfl (fun hc => ?_) (fun hc => absurd rfl hc)
  refine gm_iload dL_law__2371 rfl ?_
  have KK : am_AtG [] lawPo (am_XS n scr) d mLW 2388 (lwL i (some (am_I k)) (some (am_I w))) [] (am_hM h M2) r := by
    refine gm_goto (79) 2467 dL_law__2388 rfl ?_
    refine gm_drop 5 ?_
    refine gm_drop 6 ?_
    exact K
  refine gm_if_ne (15) 2388 dL_law__2373 rfl (fun hc => KK) (fun hc => ?_)
  refine gm_aload_n dL_law__2376 rfl ?_
  refine gm_iconst 0 (v := 0) dL_law__2377 (by decide) ?_
  refine gm_lald dL_law__2378 (sh_82 g) (am_lit rfl) ?_
  refine gm_iload dL_law__2379 rfl ?_
  refine gm_i2l dL_law__2381 ?_
  refine gm_lcmp dL_law__2382 ?_
  refine gm_if_eq (5) 2388 dL_law__2383 rfl (fun hc => KK) (fun hc2 => absurd ?_ hc2)
  show lg_cmp (am_lg (h.2.2 82 0)) w.toInt64 = 0
  rw [ho hc]
  exact lg_cmp_self _
theorem pl_image {d d1 n b : Nat} {scr : Nat → Int32} {i : Int32} {r : Nat × Nat} (hR : Rd n b i) {h : am_H} {M M1 M2 : Mem} {v : Int32} (g : lay h) (E1 : am_Ev d1 mX11_image [.inr (0, 0)] (am_hM h M) (.inl (some (am_I v), am_hM h M1))) (E2 : am_Ev d1 mX12_image [.inr (54, 0)] (am_hM h M1) (.inl (some (am_I v), am_hM h M2))) (hd1 : d1 + 1 ≤ d) (K : am_AtG [] lawPo (am_XS n scr) d mLW 2467 (lwL i none none) [] (am_hM h M2) r) : am_AtG [] lawPo (am_XS n scr) d mLW 2391 (lwL i none none) [] (am_hM h M) r := by
  refine gm_aload_n dL_law__2391 rfl ?_
  refine gm_callV [] dL_law__2392 ml_L_236 vm_X11_image (sh_0 g) rfl (fun _ => zq _ rfl) hd1 rfl E1 rfl ?_
  change am_AtG [] lawPo (am_XS n scr) d mLW 2395 (lwL i none none) [_] _ _
  refine gm_aload_n dL_law__2395 rfl ?_
  refine gm_callV [] dL_law__2396 ml_L_239 vm_X12_image (sh_54 g) rfl (fun _ => zq _ rfl) hd1 rfl E2 rfl ?_
  change am_AtG [] lawPo (am_XS n scr) d mLW 2399 (lwL i none none) [_, _] _ _
  exact gm_icmp_eq (68) 2467 dL_law__2399 rfl (fun hc => K) (fun hc => absurd rfl hc)
theorem pl_restore {d d1 n b : Nat} {scr : Nat → Int32} {i : Int32} {r : Nat × Nat} (hR : Rd n b i) {h : am_H} {M M1 M2 : Mem} {v : Int32} (g : lay h) (E1 : am_Ev d1 mX11_restore [.inr (0, 0)] (am_hM h M) (.inl (some (am_I v), am_hM h M1))) (E2 : am_Ev d1 mX12_restore [.inr (54, 0)] (am_hM h M1) (.inl (some (am_I v), am_hM h M2))) (hd1 : d1 + 1 ≤ d) (K : am_AtG [] lawPo (am_XS n scr) d mLW 2467 (lwL i none none) [] (am_hM h M2) r) : am_AtG [] lawPo (am_XS n scr) d mLW 2404 (lwL i none none) [] (am_hM h M) r := by
  refine gm_aload_n dL_law__2404 rfl ?_
  refine gm_callV [] dL_law__2405 ml_L_240 vm_X11_restore (sh_0 g) rfl (fun _ => zq _ rfl) hd1 rfl E1 rfl ?_
  change am_AtG [] lawPo (am_XS n scr) d mLW 2408 (lwL i none none) [_] _ _
  refine gm_aload_n dL_law__2408 rfl ?_
  refine gm_callV [] dL_law__2409 ml_L_243 vm_X12_restore (sh_54 g) rfl (fun _ => zq _ rfl) hd1 rfl E2 rfl ?_
  change am_AtG [] lawPo (am_XS n scr) d mLW 2412 (lwL i none none) [_, _] _ _
  exact gm_icmp_eq (55) 2467 dL_law__2412 rfl (fun hc => K) (fun hc => absurd rfl hc)
theorem pl_status {d d1 n b : Nat} {scr : Nat → Int32} {i : Int32} {r : Nat × Nat} (hR : Rd n b i) {h : am_H} {M M1 M2 : Mem} {v : Int32} (g : lay h) (E1 : am_Ev d1 mX11_status [.inr (0, 0), am_I (scr (b + 1))] (am_hM h M) (.inl (some (am_I v), am_hM h M1))) (E2 : am_Ev d1 mX12_status [.inr (54, 0), am_I (scr (b + 1))] (am_hM h M1) (.inl (some (am_I v), am_hM h M2))) (hd1 : d1 + 1 ≤ d) (K : am_AtG [] lawPo (am_XS n scr) d mLW 2467 (lwL i none none) [] (am_hM h M2) r) : am_AtG [] lawPo (am_XS n scr) d mLW 2417 (lwL i none none) [] (am_hM h M) r := by
  refine gm_aload_n dL_law__2417 rfl ?_
  refine gm_aload_n dL_law__2418 rfl ?_
  refine gm_iload dL_law__2419 rfl ?_
  refine gm_iconst 1 (v := 1) dL_law__2421 (by decide) ?_
  refine gm_iadd dL_law__2422 ?_
  refine gm_sald (b + 1) dL_law__2423 hR.r1 ?_
  refine gm_callV [_] dL_law__2424 ml_L_244 vm_X11_status (sh_0 g) rfl (fun _ => zq _ rfl) hd1 rfl E1 rfl ?_
  change am_AtG [] lawPo (am_XS n scr) d mLW 2427 (lwL i none none) [_] _ _
  refine gm_aload_n dL_law__2427 rfl ?_
  refine gm_aload_n dL_law__2428 rfl ?_
  refine gm_iload dL_law__2429 rfl ?_
  refine gm_iconst 1 (v := 1) dL_law__2431 (by decide) ?_
  refine gm_iadd dL_law__2432 ?_
  refine gm_sald (b + 1) dL_law__2433 hR.r1 ?_
  refine gm_callV [_] dL_law__2434 ml_L_247 vm_X12_status (sh_54 g) rfl (fun _ => zq _ rfl) hd1 rfl E2 rfl ?_
  change am_AtG [] lawPo (am_XS n scr) d mLW 2437 (lwL i none none) [_, _] _ _
  exact gm_icmp_eq (30) 2467 dL_law__2437 rfl (fun hc => K) (fun hc => absurd rfl hc)
theorem pl_count {d d1 n b : Nat} {scr : Nat → Int32} {i : Int32} {r : Nat × Nat} (hR : Rd n b i) {h : am_H} {M M1 M2 : Mem} {v : Int32} (g : lay h) (E1 : am_Ev d1 mX11_count [.inr (0, 0), am_I (scr (b + 1))] (am_hM h M) (.inl (some (am_I v), am_hM h M1))) (E2 : am_Ev d1 mX12_count [.inr (54, 0), am_I (scr (b + 1))] (am_hM h M1) (.inl (some (am_I v), am_hM h M2))) (hd1 : d1 + 1 ≤ d) (K : am_AtG [] lawPo (am_XS n scr) d mLW 2467 (lwL i none none) [] (am_hM h M2) r) : am_AtG [] lawPo (am_XS n scr) d mLW 2442 (lwL i none none) [] (am_hM h M) r := by
  refine gm_aload_n dL_law__2442 rfl ?_
  refine gm_aload_n dL_law__2443 rfl ?_
  refine gm_iload dL_law__2444 rfl ?_
  refine gm_iconst 1 (v := 1) dL_law__2446 (by decide) ?_
  refine gm_iadd dL_law__2447 ?_
  refine gm_sald (b + 1) dL_law__2448 hR.r1 ?_
  refine gm_callV [_] dL_law__2449 ml_L_248 vm_X11_count (sh_0 g) rfl (fun _ => zq _ rfl) hd1 rfl E1 rfl ?_
  change am_AtG [] lawPo (am_XS n scr) d mLW 2452 (lwL i none none) [_] _ _
  refine gm_aload_n dL_law__2452 rfl ?_
  refine gm_aload_n dL_law__2453 rfl ?_
  refine gm_iload dL_law__2454 rfl ?_
  refine gm_iconst 1 (v := 1) dL_law__2456 (by decide) ?_
  refine gm_iadd dL_law__2457 ?_
  refine gm_sald (b + 1) dL_law__2458 hR.r1 ?_
  refine gm_callV [_] dL_law__2459 ml_L_251 vm_X12_count (sh_54 g) rfl (fun _ => zq _ rfl) hd1 rfl E2 rfl ?_
  change am_AtG [] lawPo (am_XS n scr) d mLW 2462 (lwL i none none) [_, _] _ _
  exact gm_icmp_eq (5) 2467 dL_law__2462 rfl (fun hc => K) (fun hc => absurd rfl hc)
