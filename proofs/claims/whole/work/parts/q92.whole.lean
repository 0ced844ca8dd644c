/-! THE LAW, FROM ITS ENTRY -/
theorem LH_0 {M : Mem} : LH 25 24 46 47 (HB 83 rl_90 M) := by
  refine ⟨⟨rfl, ?_⟩, ⟨rfl, rfl⟩, ⟨rfl, rfl⟩⟩
  show ∀ q ∈ am_RF, rfR rl_90 q.1 q.2.1 = some q.2.2
  decide +kernel
theorem law_start {n : Nat} {scr : Nat → Int32} (hn : n ≤ 3072) : am_AtG [] lawPo (am_XS n scr) 202 mLW 0 [some (.inr (3000, 0)), none, none, none, none, none, none] [] (HB 0 rl_0 M00) (ncS 83 + 512, nsS 83 + 3072) := by
  obtain ⟨MU, MT, MA, hU, zU, hT, hA, hI, zA⟩ := INV_0
  have hr : ncS 83 ≤ (ncS 83 + 512, nsS 83 + 3072).1 ∧ nsS 83 ≤ (ncS 83 + 512, nsS 83 + 3072).2 := ⟨Nat.le_add_right _ _, Nat.le_add_right _ _⟩
  have z0 : am_Z 0 M00 := fun _ _ _ _ => rfl
  have zUU : am_Z 28 MU := zU
  refine hg_new (N := 83) 11 15 am_XS.st lawPo.c hr z0 dL_law__0 nd_L_8 (by decide) rfl rfl ?_
  refine gm_dup dL_law__3 (fun _ => rfl) ?_
  refine hg_callI (N := 83) [] am_XS.st lawPo.c hr dL_law__4 ml_L_112 im_X11_init rfl rfl (fun _ => zq _ rfl) (by decide) rfl (ct_X11_0 (d := 100) (am_Z.m z0 rfl) hU zUU) rfl ?_
  refine gm_astore_n dL_law__7 (am_lb rfl) ?_
  refine hg_new (N := 83) 12 50 am_XS.st lawPo.c hr (am_Z.m (am_Z.cb (am_Z.m zUU (m := 51) rfl) rfl) rfl) dL_law__8 nd_L_113 (by decide) rfl rfl ?_
  refine gm_dup dL_law__11 (fun _ => rfl) ?_
  refine hg_callI (N := 83) [] am_XS.st lawPo.c hr dL_law__12 ml_L_115 im_X12_init rfl rfl (fun _ => zq _ rfl) (by decide) rfl (ct_X12_54 (d := 100) (am_Z.m (am_Z.cb (am_Z.m zUU (m := 51) rfl) rfl) rfl) hT hA) rfl ?_
  refine gm_astore_n dL_law__15 (am_lb rfl) ?_
  refine gm_iconst 1 (v := 1) dL_law__16 (by decide) ?_
  refine hg_newl (N := 83) 1 am_XS.st lawPo.c hr zA dL_law__17 (by decide) ac_long rfl rfl ?_
  refine gm_astore_n dL_law__19 (am_lb rfl) ?_
  refine gm_iconst 0 (v := nI (6 * 0)) dL_law__20 (by decide) ?_
  refine gm_istore dL_law__21 (am_lb rfl) ?_
  exact law_loop hn 512 0 _ 25 24 46 47 (HB 83 rl_90 MA) MA (by omega) (by decide) (Nat.le_refl _) (Nat.le_refl _) LH_0 hI
theorem lw_room1 : ncS 83 + 512 ≤ 601024 := by decide +kernel
theorem lw_room2 : nsS 83 + 3072 ≤ 7293034 := by decide +kernel
