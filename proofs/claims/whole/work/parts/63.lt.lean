/-! the law's own tables -/
theorem lk_13 : Cond.classLink RL 13 lwI ∈ am_ws := am_in 3 59 (by decide +kernel) rfl
theorem lk_31 : Cond.classLink RL 31 lwN ∈ am_ws := am_in 5 40 (by decide +kernel) rfl
theorem ca_I : Cond.castable lwI lwI ∈ am_nw := am_inN 3 77 (by decide +kernel) rfl
theorem ca_N : Cond.castable lwN lwN ∈ am_nw := am_inN 5 55 (by decide +kernel) rfl
abbrev mL_river : am_M := (yL_river, cL_river, 4, some .int)
theorem hd_river : am_hd [(0, 9, 12, 13)] mL_river 3 := ⟨am_in 3 58 (by decide +kernel) rfl, am_in 1 0 (by decide +kernel) rfl, ⟨by decide +kernel, by decide +kernel, by decide +kernel⟩, by decide, am_in 3 57 (by decide +kernel) rfl⟩
theorem hl_river : Cond.methodLink RL 120 mL_river.1 ∈ am_ws := am_in 3 56 (by decide +kernel) rfl
theorem tk_river_I : am_Tk RL [(0, 9, 12, 13)] lwI 4 12 lw_Nc := ⟨[], (0, 9, 12, 13), [], lwI, rfl, rfl, rfl, by decide, lk_13, ca_I, fun z hz => absurd hz List.not_mem_nil⟩
abbrev mL_law : am_M := (yL_law, cL_law, 4, some .int)
theorem hd_law : am_hd [(0, 9, 12, 13)] mL_law 3 := ⟨am_in 4 41 (by decide +kernel) rfl, am_in 1 0 (by decide +kernel) rfl, ⟨by decide +kernel, by decide +kernel, by decide +kernel⟩, by decide, am_in 4 40 (by decide +kernel) rfl⟩
theorem hl_law : Cond.methodLink RL 130 mL_law.1 ∈ am_ws := am_in 4 39 (by decide +kernel) rfl
theorem tk_law_I : am_Tk RL [(0, 9, 12, 13)] lwI 4 12 lw_Nc := ⟨[], (0, 9, 12, 13), [], lwI, rfl, rfl, rfl, by decide, lk_13, ca_I, fun z hz => absurd hz List.not_mem_nil⟩
abbrev mL_work : am_M := (yL_work, cL_work, 4, some .int)
theorem hd_work : am_hd [(0, 9, 12, 13)] mL_work 3 := ⟨am_in 4 89 (by decide +kernel) rfl, am_in 1 0 (by decide +kernel) rfl, ⟨by decide +kernel, by decide +kernel, by decide +kernel⟩, by decide, am_in 4 88 (by decide +kernel) rfl⟩
theorem hl_work : Cond.methodLink RL 133 mL_work.1 ∈ am_ws := am_in 4 87 (by decide +kernel) rfl
theorem tk_work_I : am_Tk RL [(0, 9, 12, 13)] lwI 4 12 lw_Nc := ⟨[], (0, 9, 12, 13), [], lwI, rfl, rfl, rfl, by decide, lk_13, ca_I, fun z hz => absurd hz List.not_mem_nil⟩
abbrev mL_book : am_M := (yL_book, cL_book, 4, some .int)
theorem hd_book : am_hd [(0, 9, 12, 13)] mL_book 3 := ⟨am_in 4 220 (by decide +kernel) rfl, am_in 1 0 (by decide +kernel) rfl, ⟨by decide +kernel, by decide +kernel, by decide +kernel⟩, by decide, am_in 4 219 (by decide +kernel) rfl⟩
theorem hl_book : Cond.methodLink RL 136 mL_book.1 ∈ am_ws := am_in 4 218 (by decide +kernel) rfl
theorem tk_book_I : am_Tk RL [(0, 9, 12, 13)] lwI 4 12 lw_Nc := ⟨[], (0, 9, 12, 13), [], lwI, rfl, rfl, rfl, by decide, lk_13, ca_I, fun z hz => absurd hz List.not_mem_nil⟩
abbrev mL_told : am_M := (yL_told, cL_told, 4, some .int)
theorem hd_told : am_hd [(0, 9, 12, 13)] mL_told 3 := ⟨am_in 5 0 (by decide +kernel) rfl, am_in 1 0 (by decide +kernel) rfl, ⟨by decide +kernel, by decide +kernel, by decide +kernel⟩, by decide, am_in 4 239 (by decide +kernel) rfl⟩
theorem hl_told : Cond.methodLink RL 147 mL_told.1 ∈ am_ws := am_in 4 238 (by decide +kernel) rfl
theorem tk_told_I : am_Tk RL [(0, 9, 12, 13)] lwI 4 12 lw_Nc := ⟨[], (0, 9, 12, 13), [], lwI, rfl, rfl, rfl, by decide, lk_13, ca_I, fun z hz => absurd hz List.not_mem_nil⟩
abbrev mL_board : am_M := (yL_board, cL_board, 5, some .int)
theorem hd_board : am_hd [(0, 10, 13, 31), (0, 10, 17, 13)] mL_board 4 := ⟨am_in 5 39 (by decide +kernel) rfl, am_in 1 0 (by decide +kernel) rfl, ⟨by decide +kernel, by decide +kernel, by decide +kernel⟩, by decide, am_in 5 38 (by decide +kernel) rfl⟩
theorem hl_board : Cond.methodLink RL 150 mL_board.1 ∈ am_ws := am_in 5 37 (by decide +kernel) rfl
theorem tk_board_I : am_Tk RL [(0, 10, 13, 31), (0, 10, 17, 13)] lwI 5 17 lw_Nc := ⟨[(0, 10, 13, 31)], (0, 10, 17, 13), [], lwI, rfl, rfl, rfl, by decide, lk_13, ca_I, fun z hz => by
    rcases List.mem_cons.mp hz with e | e
    · subst e
      exact ⟨by decide, lwN, lk_31, fun s h => h⟩
    · exact absurd e List.not_mem_nil⟩
theorem tk_board_N : am_Tk RL [(0, 10, 13, 31), (0, 10, 17, 13)] lwN 5 13 lw_Nc := ⟨[], (0, 10, 13, 31), [(0, 10, 17, 13)], lwN, rfl, rfl, rfl, by decide, lk_31, ca_N, fun z hz => absurd hz List.not_mem_nil⟩
abbrev mL_barge : am_M := (yL_barge, cL_barge, 5, some .int)
theorem hd_barge : am_hd [(0, 10, 13, 31), (0, 10, 17, 13)] mL_barge 4 := ⟨am_in 5 77 (by decide +kernel) rfl, am_in 1 0 (by decide +kernel) rfl, ⟨by decide +kernel, by decide +kernel, by decide +kernel⟩, by decide, am_in 5 76 (by decide +kernel) rfl⟩
theorem hl_barge : Cond.methodLink RL 154 mL_barge.1 ∈ am_ws := am_in 5 75 (by decide +kernel) rfl
theorem tk_barge_I : am_Tk RL [(0, 10, 13, 31), (0, 10, 17, 13)] lwI 5 17 lw_Nc := ⟨[(0, 10, 13, 31)], (0, 10, 17, 13), [], lwI, rfl, rfl, rfl, by decide, lk_13, ca_I, fun z hz => by
    rcases List.mem_cons.mp hz with e | e
    · subst e
      exact ⟨by decide, lwN, lk_31, fun s h => h⟩
    · exact absurd e List.not_mem_nil⟩
theorem tk_barge_N : am_Tk RL [(0, 10, 13, 31), (0, 10, 17, 13)] lwN 5 13 lw_Nc := ⟨[], (0, 10, 13, 31), [(0, 10, 17, 13)], lwN, rfl, rfl, rfl, by decide, lk_31, ca_N, fun z hz => absurd hz List.not_mem_nil⟩
abbrev mL_street : am_M := (yL_street, cL_street, 5, some .int)
theorem hd_street : am_hd [(0, 10, 13, 31), (0, 10, 17, 13)] mL_street 4 := ⟨am_in 5 90 (by decide +kernel) rfl, am_in 1 0 (by decide +kernel) rfl, ⟨by decide +kernel, by decide +kernel, by decide +kernel⟩, by decide, am_in 5 89 (by decide +kernel) rfl⟩
theorem hl_street : Cond.methodLink RL 157 mL_street.1 ∈ am_ws := am_in 5 88 (by decide +kernel) rfl
theorem tk_street_I : am_Tk RL [(0, 10, 13, 31), (0, 10, 17, 13)] lwI 5 17 lw_Nc := ⟨[(0, 10, 13, 31)], (0, 10, 17, 13), [], lwI, rfl, rfl, rfl, by decide, lk_13, ca_I, fun z hz => by
    rcases List.mem_cons.mp hz with e | e
    · subst e
      exact ⟨by decide, lwN, lk_31, fun s h => h⟩
    · exact absurd e List.not_mem_nil⟩
theorem tk_street_N : am_Tk RL [(0, 10, 13, 31), (0, 10, 17, 13)] lwN 5 13 lw_Nc := ⟨[], (0, 10, 13, 31), [(0, 10, 17, 13)], lwN, rfl, rfl, rfl, by decide, lk_31, ca_N, fun z hz => absurd hz List.not_mem_nil⟩
abbrev mL_lawful : am_M := (yL_lawful, cL_lawful, 6, some .int)
theorem hd_lawful : am_hd [(0, 19, 22, 31), (0, 19, 26, 13)] mL_lawful 5 := ⟨am_in 5 102 (by decide +kernel) rfl, am_in 1 0 (by decide +kernel) rfl, ⟨by decide +kernel, by decide +kernel, by decide +kernel⟩, by decide, am_in 5 101 (by decide +kernel) rfl⟩
theorem hl_lawful : Cond.methodLink RL 160 mL_lawful.1 ∈ am_ws := am_in 5 100 (by decide +kernel) rfl
theorem tk_lawful_I : am_Tk RL [(0, 19, 22, 31), (0, 19, 26, 13)] lwI 7 26 lw_Nc := ⟨[(0, 19, 22, 31)], (0, 19, 26, 13), [], lwI, rfl, rfl, rfl, by decide, lk_13, ca_I, fun z hz => by
    rcases List.mem_cons.mp hz with e | e
    · subst e
      exact ⟨by decide, lwN, lk_31, fun s h => h⟩
    · exact absurd e List.not_mem_nil⟩
theorem tk_lawful_N : am_Tk RL [(0, 19, 22, 31), (0, 19, 26, 13)] lwN 7 22 lw_Nc := ⟨[], (0, 19, 22, 31), [(0, 19, 26, 13)], lwN, rfl, rfl, rfl, by decide, lk_31, ca_N, fun z hz => absurd hz List.not_mem_nil⟩
abbrev mL_opens : am_M := (yL_opens, cL_opens, 4, some .int)
theorem hd_opens : am_hd [(0, 9, 12, 31)] mL_opens 3 := ⟨am_in 5 113 (by decide +kernel) rfl, am_in 1 0 (by decide +kernel) rfl, ⟨by decide +kernel, by decide +kernel, by decide +kernel⟩, by decide, am_in 5 112 (by decide +kernel) rfl⟩
theorem hl_opens : Cond.methodLink RL 164 mL_opens.1 ∈ am_ws := am_in 5 111 (by decide +kernel) rfl
theorem tk_opens_N : am_Tk RL [(0, 9, 12, 31)] lwN 4 12 lw_Nc := ⟨[], (0, 9, 12, 31), [], lwN, rfl, rfl, rfl, by decide, lk_31, ca_N, fun z hz => absurd hz List.not_mem_nil⟩
abbrev mL_often : am_M := (yL_often, cL_often, 5, some .int)
theorem hd_often : am_hd [(0, 10, 13, 31), (0, 10, 17, 13)] mL_often 4 := ⟨am_in 5 121 (by decide +kernel) rfl, am_in 1 0 (by decide +kernel) rfl, ⟨by decide +kernel, by decide +kernel, by decide +kernel⟩, by decide, am_in 5 120 (by decide +kernel) rfl⟩
theorem hl_often : Cond.methodLink RL 167 mL_often.1 ∈ am_ws := am_in 5 119 (by decide +kernel) rfl
theorem tk_often_I : am_Tk RL [(0, 10, 13, 31), (0, 10, 17, 13)] lwI 5 17 lw_Nc := ⟨[(0, 10, 13, 31)], (0, 10, 17, 13), [], lwI, rfl, rfl, rfl, by decide, lk_13, ca_I, fun z hz => by
    rcases List.mem_cons.mp hz with e | e
    · subst e
      exact ⟨by decide, lwN, lk_31, fun s h => h⟩
    · exact absurd e List.not_mem_nil⟩
theorem tk_often_N : am_Tk RL [(0, 10, 13, 31), (0, 10, 17, 13)] lwN 5 13 lw_Nc := ⟨[], (0, 10, 13, 31), [(0, 10, 17, 13)], lwN, rfl, rfl, rfl, by decide, lk_31, ca_N, fun z hz => absurd hz List.not_mem_nil⟩
abbrev mL_trip : am_M := (yL_trip, cL_trip, 6, some .int)
theorem hd_trip : am_hd [(0, 12, 15, 13)] mL_trip 5 := ⟨am_in 5 128 (by decide +kernel) rfl, am_in 1 0 (by decide +kernel) rfl, ⟨by decide +kernel, by decide +kernel, by decide +kernel⟩, by decide, am_in 5 127 (by decide +kernel) rfl⟩
theorem hl_trip : Cond.methodLink RL 174 mL_trip.1 ∈ am_ws := am_in 5 126 (by decide +kernel) rfl
theorem tk_trip_I : am_Tk RL [(0, 12, 15, 13)] lwI 7 15 lw_Nc := ⟨[], (0, 12, 15, 13), [], lwI, rfl, rfl, rfl, by decide, lk_13, ca_I, fun z hz => absurd hz List.not_mem_nil⟩
abbrev mL_soonest : am_M := (yL_soonest, cL_soonest, 6, some .int)
theorem hd_soonest : am_hd [(0, 12, 15, 13)] mL_soonest 5 := ⟨am_in 5 151 (by decide +kernel) rfl, am_in 1 0 (by decide +kernel) rfl, ⟨by decide +kernel, by decide +kernel, by decide +kernel⟩, by decide, am_in 5 150 (by decide +kernel) rfl⟩
theorem hl_soonest : Cond.methodLink RL 177 mL_soonest.1 ∈ am_ws := am_in 5 149 (by decide +kernel) rfl
theorem tk_soonest_I : am_Tk RL [(0, 12, 15, 13)] lwI 7 15 lw_Nc := ⟨[], (0, 12, 15, 13), [], lwI, rfl, rfl, rfl, by decide, lk_13, ca_I, fun z hz => absurd hz List.not_mem_nil⟩
abbrev mL_hold : am_M := (yL_hold, cL_hold, 5, some .int)
theorem hd_hold : am_hd [(0, 10, 13, 13)] mL_hold 4 := ⟨am_in 5 158 (by decide +kernel) rfl, am_in 1 0 (by decide +kernel) rfl, ⟨by decide +kernel, by decide +kernel, by decide +kernel⟩, by decide, am_in 5 157 (by decide +kernel) rfl⟩
theorem hl_hold : Cond.methodLink RL 180 mL_hold.1 ∈ am_ws := am_in 5 156 (by decide +kernel) rfl
theorem tk_hold_I : am_Tk RL [(0, 10, 13, 13)] lwI 5 13 lw_Nc := ⟨[], (0, 10, 13, 13), [], lwI, rfl, rfl, rfl, by decide, lk_13, ca_I, fun z hz => absurd hz List.not_mem_nil⟩
abbrev mL_tallest : am_M := (yL_tallest, cL_tallest, 4, some .int)
theorem hd_tallest : am_hd [(0, 9, 12, 13)] mL_tallest 3 := ⟨am_in 5 170 (by decide +kernel) rfl, am_in 1 0 (by decide +kernel) rfl, ⟨by decide +kernel, by decide +kernel, by decide +kernel⟩, by decide, am_in 5 169 (by decide +kernel) rfl⟩
theorem hl_tallest : Cond.methodLink RL 183 mL_tallest.1 ∈ am_ws := am_in 5 168 (by decide +kernel) rfl
theorem tk_tallest_I : am_Tk RL [(0, 9, 12, 13)] lwI 4 12 lw_Nc := ⟨[], (0, 9, 12, 13), [], lwI, rfl, rfl, rfl, by decide, lk_13, ca_I, fun z hz => absurd hz List.not_mem_nil⟩
abbrev mL_letter : am_M := (yL_letter, cL_letter, 5, some .int)
theorem hd_letter : am_hd [(0, 10, 13, 31), (0, 10, 17, 13)] mL_letter 4 := ⟨am_in 5 177 (by decide +kernel) rfl, am_in 1 0 (by decide +kernel) rfl, ⟨by decide +kernel, by decide +kernel, by decide +kernel⟩, by decide, am_in 5 176 (by decide +kernel) rfl⟩
theorem hl_letter : Cond.methodLink RL 186 mL_letter.1 ∈ am_ws := am_in 5 175 (by decide +kernel) rfl
theorem tk_letter_I : am_Tk RL [(0, 10, 13, 31), (0, 10, 17, 13)] lwI 5 17 lw_Nc := ⟨[(0, 10, 13, 31)], (0, 10, 17, 13), [], lwI, rfl, rfl, rfl, by decide, lk_13, ca_I, fun z hz => by
    rcases List.mem_cons.mp hz with e | e
    · subst e
      exact ⟨by decide, lwN, lk_31, fun s h => h⟩
    · exact absurd e List.not_mem_nil⟩
theorem tk_letter_N : am_Tk RL [(0, 10, 13, 31), (0, 10, 17, 13)] lwN 5 13 lw_Nc := ⟨[], (0, 10, 13, 31), [(0, 10, 17, 13)], lwN, rfl, rfl, rfl, by decide, lk_31, ca_N, fun z hz => absurd hz List.not_mem_nil⟩
abbrev mL_flood : am_M := (yL_flood, cL_flood, 4, some .int)
theorem hd_flood : am_hd [(0, 9, 12, 13)] mL_flood 3 := ⟨am_in 5 184 (by decide +kernel) rfl, am_in 1 0 (by decide +kernel) rfl, ⟨by decide +kernel, by decide +kernel, by decide +kernel⟩, by decide, am_in 5 183 (by decide +kernel) rfl⟩
theorem hl_flood : Cond.methodLink RL 189 mL_flood.1 ∈ am_ws := am_in 5 182 (by decide +kernel) rfl
theorem tk_flood_I : am_Tk RL [(0, 9, 12, 13)] lwI 4 12 lw_Nc := ⟨[], (0, 9, 12, 13), [], lwI, rfl, rfl, rfl, by decide, lk_13, ca_I, fun z hz => absurd hz List.not_mem_nil⟩
abbrev mL_holds : am_M := (yL_holds, cL_holds, 4, some .int)
theorem hd_holds : am_hd [(0, 9, 12, 13)] mL_holds 3 := ⟨am_in 5 219 (by decide +kernel) rfl, am_in 1 0 (by decide +kernel) rfl, ⟨by decide +kernel, by decide +kernel, by decide +kernel⟩, by decide, am_in 5 218 (by decide +kernel) rfl⟩
theorem hl_holds : Cond.methodLink RL 192 mL_holds.1 ∈ am_ws := am_in 5 217 (by decide +kernel) rfl
theorem tk_holds_I : am_Tk RL [(0, 9, 12, 13)] lwI 4 12 lw_Nc := ⟨[], (0, 9, 12, 13), [], lwI, rfl, rfl, rfl, by decide, lk_13, ca_I, fun z hz => absurd hz List.not_mem_nil⟩
abbrev mL_smells : am_M := (yL_smells, cL_smells, 5, some .int)
theorem hd_smells : am_hd [(0, 10, 13, 31), (0, 10, 17, 13)] mL_smells 4 := ⟨am_in 5 226 (by decide +kernel) rfl, am_in 1 0 (by decide +kernel) rfl, ⟨by decide +kernel, by decide +kernel, by decide +kernel⟩, by decide, am_in 5 225 (by decide +kernel) rfl⟩
theorem hl_smells : Cond.methodLink RL 195 mL_smells.1 ∈ am_ws := am_in 5 224 (by decide +kernel) rfl
theorem tk_smells_I : am_Tk RL [(0, 10, 13, 31), (0, 10, 17, 13)] lwI 5 17 lw_Nc := ⟨[(0, 10, 13, 31)], (0, 10, 17, 13), [], lwI, rfl, rfl, rfl, by decide, lk_13, ca_I, fun z hz => by
    rcases List.mem_cons.mp hz with e | e
    · subst e
      exact ⟨by decide, lwN, lk_31, fun s h => h⟩
    · exact absurd e List.not_mem_nil⟩
theorem tk_smells_N : am_Tk RL [(0, 10, 13, 31), (0, 10, 17, 13)] lwN 5 13 lw_Nc := ⟨[], (0, 10, 13, 31), [(0, 10, 17, 13)], lwN, rfl, rfl, rfl, by decide, lk_31, ca_N, fun z hz => absurd hz List.not_mem_nil⟩
abbrev mL_openers : am_M := (yL_openers, cL_openers, 4, some .int)
theorem hd_openers : am_hd [(0, 9, 12, 13)] mL_openers 3 := ⟨am_in 6 5 (by decide +kernel) rfl, am_in 1 0 (by decide +kernel) rfl, ⟨by decide +kernel, by decide +kernel, by decide +kernel⟩, by decide, am_in 6 4 (by decide +kernel) rfl⟩
theorem hl_openers : Cond.methodLink RL 198 mL_openers.1 ∈ am_ws := am_in 6 3 (by decide +kernel) rfl
theorem tk_openers_I : am_Tk RL [(0, 9, 12, 13)] lwI 4 12 lw_Nc := ⟨[], (0, 9, 12, 13), [], lwI, rfl, rfl, rfl, by decide, lk_13, ca_I, fun z hz => absurd hz List.not_mem_nil⟩
abbrev mL_nose : am_M := (yL_nose, cL_nose, 4, some .int)
theorem hd_nose : am_hd [(0, 9, 12, 13)] mL_nose 3 := ⟨am_in 6 60 (by decide +kernel) rfl, am_in 1 0 (by decide +kernel) rfl, ⟨by decide +kernel, by decide +kernel, by decide +kernel⟩, by decide, am_in 6 59 (by decide +kernel) rfl⟩
theorem hl_nose : Cond.methodLink RL 201 mL_nose.1 ∈ am_ws := am_in 6 58 (by decide +kernel) rfl
theorem tk_nose_I : am_Tk RL [(0, 9, 12, 13)] lwI 4 12 lw_Nc := ⟨[], (0, 9, 12, 13), [], lwI, rfl, rfl, rfl, by decide, lk_13, ca_I, fun z hz => absurd hz List.not_mem_nil⟩
abbrev mL_anglers : am_M := (yL_anglers, cL_anglers, 5, some .int)
theorem hd_anglers : am_hd [(0, 10, 13, 13)] mL_anglers 4 := ⟨am_in 6 76 (by decide +kernel) rfl, am_in 1 0 (by decide +kernel) rfl, ⟨by decide +kernel, by decide +kernel, by decide +kernel⟩, by decide, am_in 6 75 (by decide +kernel) rfl⟩
theorem hl_anglers : Cond.methodLink RL 204 mL_anglers.1 ∈ am_ws := am_in 6 74 (by decide +kernel) rfl
theorem tk_anglers_I : am_Tk RL [(0, 10, 13, 13)] lwI 5 13 lw_Nc := ⟨[], (0, 10, 13, 13), [], lwI, rfl, rfl, rfl, by decide, lk_13, ca_I, fun z hz => absurd hz List.not_mem_nil⟩
abbrev mL_stand : am_M := (yL_stand, cL_stand, 5, some .int)
theorem hd_stand : am_hd [(0, 10, 13, 31), (0, 10, 17, 13)] mL_stand 4 := ⟨am_in 6 106 (by decide +kernel) rfl, am_in 1 0 (by decide +kernel) rfl, ⟨by decide +kernel, by decide +kernel, by decide +kernel⟩, by decide, am_in 6 105 (by decide +kernel) rfl⟩
theorem hl_stand : Cond.methodLink RL 207 mL_stand.1 ∈ am_ws := am_in 6 104 (by decide +kernel) rfl
theorem tk_stand_I : am_Tk RL [(0, 10, 13, 31), (0, 10, 17, 13)] lwI 5 17 lw_Nc := ⟨[(0, 10, 13, 31)], (0, 10, 17, 13), [], lwI, rfl, rfl, rfl, by decide, lk_13, ca_I, fun z hz => by
    rcases List.mem_cons.mp hz with e | e
    · subst e
      exact ⟨by decide, lwN, lk_31, fun s h => h⟩
    · exact absurd e List.not_mem_nil⟩
theorem tk_stand_N : am_Tk RL [(0, 10, 13, 31), (0, 10, 17, 13)] lwN 5 13 lw_Nc := ⟨[], (0, 10, 13, 31), [(0, 10, 17, 13)], lwN, rfl, rfl, rfl, by decide, lk_31, ca_N, fun z hz => absurd hz List.not_mem_nil⟩
abbrev mL_walk : am_M := (yL_walk, cL_walk, 6, some .int)
theorem hd_walk : am_hd [(0, 12, 15, 31), (0, 12, 19, 13)] mL_walk 5 := ⟨am_in 6 113 (by decide +kernel) rfl, am_in 1 0 (by decide +kernel) rfl, ⟨by decide +kernel, by decide +kernel, by decide +kernel⟩, by decide, am_in 6 112 (by decide +kernel) rfl⟩
theorem hl_walk : Cond.methodLink RL 210 mL_walk.1 ∈ am_ws := am_in 6 111 (by decide +kernel) rfl
theorem tk_walk_I : am_Tk RL [(0, 12, 15, 31), (0, 12, 19, 13)] lwI 7 19 lw_Nc := ⟨[(0, 12, 15, 31)], (0, 12, 19, 13), [], lwI, rfl, rfl, rfl, by decide, lk_13, ca_I, fun z hz => by
    rcases List.mem_cons.mp hz with e | e
    · subst e
      exact ⟨by decide, lwN, lk_31, fun s h => h⟩
    · exact absurd e List.not_mem_nil⟩
theorem tk_walk_N : am_Tk RL [(0, 12, 15, 31), (0, 12, 19, 13)] lwN 7 15 lw_Nc := ⟨[], (0, 12, 15, 31), [(0, 12, 19, 13)], lwN, rfl, rfl, rfl, by decide, lk_31, ca_N, fun z hz => absurd hz List.not_mem_nil⟩
abbrev mL_reach : am_M := (yL_reach, cL_reach, 5, some .int)
theorem hd_reach : am_hd [(0, 10, 13, 31), (0, 10, 17, 13)] mL_reach 4 := ⟨am_in 6 127 (by decide +kernel) rfl, am_in 1 0 (by decide +kernel) rfl, ⟨by decide +kernel, by decide +kernel, by decide +kernel⟩, by decide, am_in 6 126 (by decide +kernel) rfl⟩
theorem hl_reach : Cond.methodLink RL 213 mL_reach.1 ∈ am_ws := am_in 6 125 (by decide +kernel) rfl
theorem tk_reach_I : am_Tk RL [(0, 10, 13, 31), (0, 10, 17, 13)] lwI 5 17 lw_Nc := ⟨[(0, 10, 13, 31)], (0, 10, 17, 13), [], lwI, rfl, rfl, rfl, by decide, lk_13, ca_I, fun z hz => by
    rcases List.mem_cons.mp hz with e | e
    · subst e
      exact ⟨by decide, lwN, lk_31, fun s h => h⟩
    · exact absurd e List.not_mem_nil⟩
theorem tk_reach_N : am_Tk RL [(0, 10, 13, 31), (0, 10, 17, 13)] lwN 5 13 lw_Nc := ⟨[], (0, 10, 13, 31), [(0, 10, 17, 13)], lwN, rfl, rfl, rfl, by decide, lk_31, ca_N, fun z hz => absurd hz List.not_mem_nil⟩
abbrev mL_peak : am_M := (yL_peak, cL_peak, 4, some .int)
theorem hd_peak : am_hd [(0, 9, 12, 13)] mL_peak 3 := ⟨am_in 6 134 (by decide +kernel) rfl, am_in 1 0 (by decide +kernel) rfl, ⟨by decide +kernel, by decide +kernel, by decide +kernel⟩, by decide, am_in 6 133 (by decide +kernel) rfl⟩
theorem hl_peak : Cond.methodLink RL 216 mL_peak.1 ∈ am_ws := am_in 6 132 (by decide +kernel) rfl
theorem tk_peak_I : am_Tk RL [(0, 9, 12, 13)] lwI 4 12 lw_Nc := ⟨[], (0, 9, 12, 13), [], lwI, rfl, rfl, rfl, by decide, lk_13, ca_I, fun z hz => absurd hz List.not_mem_nil⟩
abbrev mL_narrow : am_M := (yL_narrow, cL_narrow, 5, some .int)
theorem hd_narrow : am_hd [(0, 10, 13, 13)] mL_narrow 4 := ⟨am_in 6 141 (by decide +kernel) rfl, am_in 1 0 (by decide +kernel) rfl, ⟨by decide +kernel, by decide +kernel, by decide +kernel⟩, by decide, am_in 6 140 (by decide +kernel) rfl⟩
theorem hl_narrow : Cond.methodLink RL 219 mL_narrow.1 ∈ am_ws := am_in 6 139 (by decide +kernel) rfl
theorem tk_narrow_I : am_Tk RL [(0, 10, 13, 13)] lwI 5 13 lw_Nc := ⟨[], (0, 10, 13, 13), [], lwI, rfl, rfl, rfl, by decide, lk_13, ca_I, fun z hz => absurd hz List.not_mem_nil⟩
abbrev mL_worst : am_M := (yL_worst, cL_worst, 4, some .int)
theorem hd_worst : am_hd [(0, 9, 12, 13)] mL_worst 3 := ⟨am_in 6 152 (by decide +kernel) rfl, am_in 1 0 (by decide +kernel) rfl, ⟨by decide +kernel, by decide +kernel, by decide +kernel⟩, by decide, am_in 6 151 (by decide +kernel) rfl⟩
theorem hl_worst : Cond.methodLink RL 222 mL_worst.1 ∈ am_ws := am_in 6 150 (by decide +kernel) rfl
theorem tk_worst_I : am_Tk RL [(0, 9, 12, 13)] lwI 4 12 lw_Nc := ⟨[], (0, 9, 12, 13), [], lwI, rfl, rfl, rfl, by decide, lk_13, ca_I, fun z hz => absurd hz List.not_mem_nil⟩
abbrev mL_ahead : am_M := (yL_ahead, cL_ahead, 5, some .int)
theorem hd_ahead : am_hd [(0, 10, 13, 13)] mL_ahead 4 := ⟨am_in 6 159 (by decide +kernel) rfl, am_in 1 0 (by decide +kernel) rfl, ⟨by decide +kernel, by decide +kernel, by decide +kernel⟩, by decide, am_in 6 158 (by decide +kernel) rfl⟩
theorem hl_ahead : Cond.methodLink RL 225 mL_ahead.1 ∈ am_ws := am_in 6 157 (by decide +kernel) rfl
theorem tk_ahead_I : am_Tk RL [(0, 10, 13, 13)] lwI 5 13 lw_Nc := ⟨[], (0, 10, 13, 13), [], lwI, rfl, rfl, rfl, by decide, lk_13, ca_I, fun z hz => absurd hz List.not_mem_nil⟩
abbrev mL_winters : am_M := (yL_winters, cL_winters, 7, some .int)
theorem hd_winters : am_hd [(0, 14, 17, 13)] mL_winters 6 := ⟨am_in 6 192 (by decide +kernel) rfl, am_in 1 0 (by decide +kernel) rfl, ⟨by decide +kernel, by decide +kernel, by decide +kernel⟩, by decide, am_in 6 191 (by decide +kernel) rfl⟩
theorem hl_winters : Cond.methodLink RL 228 mL_winters.1 ∈ am_ws := am_in 6 190 (by decide +kernel) rfl
theorem tk_winters_I : am_Tk RL [(0, 14, 17, 13)] lwI 9 17 lw_Nc := ⟨[], (0, 14, 17, 13), [], lwI, rfl, rfl, rfl, by decide, lk_13, ca_I, fun z hz => absurd hz List.not_mem_nil⟩
abbrev mL_span : am_M := (yL_span, cL_span, 8, some .int)
theorem hd_span : am_hd [(0, 16, 19, 13)] mL_span 7 := ⟨am_in 6 214 (by decide +kernel) rfl, am_in 1 0 (by decide +kernel) rfl, ⟨by decide +kernel, by decide +kernel, by decide +kernel⟩, by decide, am_in 6 213 (by decide +kernel) rfl⟩
theorem hl_span : Cond.methodLink RL 232 mL_span.1 ∈ am_ws := am_in 6 212 (by decide +kernel) rfl
theorem tk_span_I : am_Tk RL [(0, 16, 19, 13)] lwI 11 19 lw_Nc := ⟨[], (0, 16, 19, 13), [], lwI, rfl, rfl, rfl, by decide, lk_13, ca_I, fun z hz => absurd hz List.not_mem_nil⟩
