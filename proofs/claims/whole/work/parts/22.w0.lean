/-! Words that every place may lean on. -/
theorem words0_ok : words0 := ⟨wat_in (q := (1, 25)) (by decide +kernel), wat_in (q := (1, 26)) (by decide +kernel), wat_in (q := (3, 187)) (by decide +kernel), wat_in (q := (1, 16)) (by decide +kernel), wat_in (q := (3, 188)) (by decide +kernel), wat_in (q := (1, 65)) (by decide +kernel), wat_in (q := (3, 138)) (by decide +kernel), wat_in (q := (6, 162)) (by decide +kernel)⟩
theorem parts_lays : Cond.laysStatic "HoleDesk" "PARTS" "[I" ∈ lw_tbl := tabs_in (j := 1) (List.mem_of_getElem? (i := 86) (by decide +kernel))
theorem parts_init : Cond.initialized "HoleDesk" ∈ lw_tbl := tabs_in (j := 1) (List.mem_of_getElem? (i := 1) (by decide +kernel))
