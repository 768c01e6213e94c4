/-! The texts that were there (printed by wip/gen/words.py). -/
theorem text_0 {s : State} {args : Array Value} (hts : ∀ w ∈ lw_tbl, w.before args s = true) (hs : ∀ w ∈ flatC (Jvm.Cond.and given_1 narrow_1), w.before args s = true) : ∃ q : Nat, vk_R "HoleDesk$Kinds" 50 "?wtfp" q s ∧ txF s.heap.size q 5 (fun j => ([63, 119, 116, 102, 112] : List Int32).getD j 0) s := by
  have hA : ∀ a : Nat, a < s.heap.size → ¬ s.heap.size ≤ a := fun a h => Nat.not_le.mpr h
  obtain ⟨adK, adV, h1, h2⟩ := vk_Sof (args := args) (s := s) (N := 1) (tm := fun _ => (.string "HoleDesk$Kinds" 50)) (len := [5]) (byt := [[63, 119, 116, 102, 112]]) (A := fun q => s.heap.size ≤ q)
    (fun i hi => by obtain rfl : i = 0 := by omega
                    decide)
    (fun i hi => hs (Cond.exactly (.string "HoleDesk$Kinds" 50) "java/lang/String") (by first | exact List.mem_of_getElem? (i := 28) rfl | decide +kernel))
    (fun i hi => hs (Cond.eq (.field (.string "HoleDesk$Kinds" 50) "java/lang/String" "coder" "B") (.int 0)) (by first | exact List.mem_of_getElem? (i := 29) rfl | decide +kernel))
    (fun i hi => hs (Cond.arrayOf (.field (.string "HoleDesk$Kinds" 50) "java/lang/String" "value" "[B") .byte) (by first | exact List.mem_of_getElem? (i := 30) rfl | decide +kernel))
    (fun i hi => by obtain rfl : i = 0 := by omega
                    exact hs (Cond.eq (.length (.field (.string "HoleDesk$Kinds" 50) "java/lang/String" "value" "[B")) (.int 5)) (by first | exact List.mem_of_getElem? (i := 31) rfl | decide +kernel))
    (fun i hi j hj => by
      obtain rfl : i = 0 := by omega
      have hj : j < 5 := hj
      rcases (show j = 0 ∨ j = 1 ∨ j = 2 ∨ j = 3 ∨ j = 4 by omega) with rfl | rfl | rfl | rfl | rfl
      · exact hs (Cond.eq (.elem (.field (.string "HoleDesk$Kinds" 50) "java/lang/String" "value" "[B") (.int 0)) (.int 63)) (by first | exact List.mem_of_getElem? (i := 32) rfl | decide +kernel)
      · exact hs (Cond.eq (.elem (.field (.string "HoleDesk$Kinds" 50) "java/lang/String" "value" "[B") (.int 1)) (.int 119)) (by first | exact List.mem_of_getElem? (i := 33) rfl | decide +kernel)
      · exact hs (Cond.eq (.elem (.field (.string "HoleDesk$Kinds" 50) "java/lang/String" "value" "[B") (.int 2)) (.int 116)) (by first | exact List.mem_of_getElem? (i := 34) rfl | decide +kernel)
      · exact hs (Cond.eq (.elem (.field (.string "HoleDesk$Kinds" 50) "java/lang/String" "value" "[B") (.int 3)) (.int 102)) (by first | exact List.mem_of_getElem? (i := 35) rfl | decide +kernel)
      · exact hs (Cond.eq (.elem (.field (.string "HoleDesk$Kinds" 50) "java/lang/String" "value" "[B") (.int 4)) (.int 112)) (by first | exact List.mem_of_getElem? (i := 36) rfl | decide +kernel))
    (fun i j hi hj hij => absurd (show i = j by omega) hij) hA
  obtain ⟨x1, x2, x3, x4⟩ := h1.1 0 (by decide)
  exact ⟨adK 0, vk_R.of (hts _ tref_0) (h2 0 (by decide)), adV 0, x1, x2, x3, x4⟩
theorem text_1 {s : State} {args : Array Value} (hts : ∀ w ∈ lw_tbl, w.before args s = true) (hs : ∀ w ∈ flatC (Jvm.Cond.and given_1 narrow_1), w.before args s = true) : ∃ q : Nat, vk_R "HoleDesk$Writer" 74 "yes" q s ∧ txF s.heap.size q 3 (fun j => ([121, 101, 115] : List Int32).getD j 0) s := by
  have hA : ∀ a : Nat, a < s.heap.size → ¬ s.heap.size ≤ a := fun a h => Nat.not_le.mpr h
  obtain ⟨adK, adV, h1, h2⟩ := vk_Sof (args := args) (s := s) (N := 1) (tm := fun _ => (.string "HoleDesk$Writer" 74)) (len := [3]) (byt := [[121, 101, 115]]) (A := fun q => s.heap.size ≤ q)
    (fun i hi => by obtain rfl : i = 0 := by omega
                    decide)
    (fun i hi => hs (Cond.exactly (.string "HoleDesk$Writer" 74) "java/lang/String") (by first | exact List.mem_of_getElem? (i := 37) rfl | decide +kernel))
    (fun i hi => hs (Cond.eq (.field (.string "HoleDesk$Writer" 74) "java/lang/String" "coder" "B") (.int 0)) (by first | exact List.mem_of_getElem? (i := 38) rfl | decide +kernel))
    (fun i hi => hs (Cond.arrayOf (.field (.string "HoleDesk$Writer" 74) "java/lang/String" "value" "[B") .byte) (by first | exact List.mem_of_getElem? (i := 39) rfl | decide +kernel))
    (fun i hi => by obtain rfl : i = 0 := by omega
                    exact hs (Cond.eq (.length (.field (.string "HoleDesk$Writer" 74) "java/lang/String" "value" "[B")) (.int 3)) (by first | exact List.mem_of_getElem? (i := 40) rfl | decide +kernel))
    (fun i hi j hj => by
      obtain rfl : i = 0 := by omega
      have hj : j < 3 := hj
      rcases (show j = 0 ∨ j = 1 ∨ j = 2 by omega) with rfl | rfl | rfl
      · exact hs (Cond.eq (.elem (.field (.string "HoleDesk$Writer" 74) "java/lang/String" "value" "[B") (.int 0)) (.int 121)) (by first | exact List.mem_of_getElem? (i := 41) rfl | decide +kernel)
      · exact hs (Cond.eq (.elem (.field (.string "HoleDesk$Writer" 74) "java/lang/String" "value" "[B") (.int 1)) (.int 101)) (by first | exact List.mem_of_getElem? (i := 42) rfl | decide +kernel)
      · exact hs (Cond.eq (.elem (.field (.string "HoleDesk$Writer" 74) "java/lang/String" "value" "[B") (.int 2)) (.int 115)) (by first | exact List.mem_of_getElem? (i := 43) rfl | decide +kernel))
    (fun i j hi hj hij => absurd (show i = j by omega) hij) hA
  obtain ⟨x1, x2, x3, x4⟩ := h1.1 0 (by decide)
  exact ⟨adK 0, vk_R.of (hts _ tref_1) (h2 0 (by decide)), adV 0, x1, x2, x3, x4⟩
theorem text_2 {s : State} {args : Array Value} (hts : ∀ w ∈ lw_tbl, w.before args s = true) (hs : ∀ w ∈ flatC (Jvm.Cond.and given_1 narrow_1), w.before args s = true) : ∃ q : Nat, vk_R "HoleDesk$Writer" 76 "no" q s ∧ txF s.heap.size q 2 (fun j => ([110, 111] : List Int32).getD j 0) s := by
  have hA : ∀ a : Nat, a < s.heap.size → ¬ s.heap.size ≤ a := fun a h => Nat.not_le.mpr h
  obtain ⟨adK, adV, h1, h2⟩ := vk_Sof (args := args) (s := s) (N := 1) (tm := fun _ => (.string "HoleDesk$Writer" 76)) (len := [2]) (byt := [[110, 111]]) (A := fun q => s.heap.size ≤ q)
    (fun i hi => by obtain rfl : i = 0 := by omega
                    decide)
    (fun i hi => hs (Cond.exactly (.string "HoleDesk$Writer" 76) "java/lang/String") (by first | exact List.mem_of_getElem? (i := 45) rfl | decide +kernel))
    (fun i hi => hs (Cond.eq (.field (.string "HoleDesk$Writer" 76) "java/lang/String" "coder" "B") (.int 0)) (by first | exact List.mem_of_getElem? (i := 46) rfl | decide +kernel))
    (fun i hi => hs (Cond.arrayOf (.field (.string "HoleDesk$Writer" 76) "java/lang/String" "value" "[B") .byte) (by first | exact List.mem_of_getElem? (i := 47) rfl | decide +kernel))
    (fun i hi => by obtain rfl : i = 0 := by omega
                    exact hs (Cond.eq (.length (.field (.string "HoleDesk$Writer" 76) "java/lang/String" "value" "[B")) (.int 2)) (by first | exact List.mem_of_getElem? (i := 48) rfl | decide +kernel))
    (fun i hi j hj => by
      obtain rfl : i = 0 := by omega
      have hj : j < 2 := hj
      rcases (show j = 0 ∨ j = 1 by omega) with rfl | rfl
      · exact hs (Cond.eq (.elem (.field (.string "HoleDesk$Writer" 76) "java/lang/String" "value" "[B") (.int 0)) (.int 110)) (by first | exact List.mem_of_getElem? (i := 49) rfl | decide +kernel)
      · exact hs (Cond.eq (.elem (.field (.string "HoleDesk$Writer" 76) "java/lang/String" "value" "[B") (.int 1)) (.int 111)) (by first | exact List.mem_of_getElem? (i := 50) rfl | decide +kernel))
    (fun i j hi hj hij => absurd (show i = j by omega) hij) hA
  obtain ⟨x1, x2, x3, x4⟩ := h1.1 0 (by decide)
  exact ⟨adK 0, vk_R.of (hts _ tref_2) (h2 0 (by decide)), adV 0, x1, x2, x3, x4⟩
theorem text_3 {s : State} {args : Array Value} (hts : ∀ w ∈ lw_tbl, w.before args s = true) (hs : ∀ w ∈ flatC (Jvm.Cond.and given_1 narrow_1), w.before args s = true) : ∃ q : Nat, vk_R "HoleDesk$Writer" 108 "+" q s ∧ txF s.heap.size q 1 (fun j => ([43] : List Int32).getD j 0) s := by
  have hA : ∀ a : Nat, a < s.heap.size → ¬ s.heap.size ≤ a := fun a h => Nat.not_le.mpr h
  obtain ⟨adK, adV, h1, h2⟩ := vk_Sof (args := args) (s := s) (N := 1) (tm := fun _ => (.string "HoleDesk$Writer" 108)) (len := [1]) (byt := [[43]]) (A := fun q => s.heap.size ≤ q)
    (fun i hi => by obtain rfl : i = 0 := by omega
                    decide)
    (fun i hi => hs (Cond.exactly (.string "HoleDesk$Writer" 108) "java/lang/String") (by first | exact List.mem_of_getElem? (i := 53) rfl | decide +kernel))
    (fun i hi => hs (Cond.eq (.field (.string "HoleDesk$Writer" 108) "java/lang/String" "coder" "B") (.int 0)) (by first | exact List.mem_of_getElem? (i := 54) rfl | decide +kernel))
    (fun i hi => hs (Cond.arrayOf (.field (.string "HoleDesk$Writer" 108) "java/lang/String" "value" "[B") .byte) (by first | exact List.mem_of_getElem? (i := 55) rfl | decide +kernel))
    (fun i hi => by obtain rfl : i = 0 := by omega
                    exact hs (Cond.eq (.length (.field (.string "HoleDesk$Writer" 108) "java/lang/String" "value" "[B")) (.int 1)) (by first | exact List.mem_of_getElem? (i := 56) rfl | decide +kernel))
    (fun i hi j hj => by
      obtain rfl : i = 0 := by omega
      have hj : j < 1 := hj
      rcases (show j = 0 by omega) with rfl
      · exact hs (Cond.eq (.elem (.field (.string "HoleDesk$Writer" 108) "java/lang/String" "value" "[B") (.int 0)) (.int 43)) (by first | exact List.mem_of_getElem? (i := 57) rfl | decide +kernel))
    (fun i j hi hj hij => absurd (show i = j by omega) hij) hA
  obtain ⟨x1, x2, x3, x4⟩ := h1.1 0 (by decide)
  exact ⟨adK 0, vk_R.of (hts _ tref_3) (h2 0 (by decide)), adV 0, x1, x2, x3, x4⟩
theorem text_4 {s : State} {args : Array Value} (hts : ∀ w ∈ lw_tbl, w.before args s = true) (hs : ∀ w ∈ flatC (Jvm.Cond.and given_1 narrow_1), w.before args s = true) : ∃ q : Nat, vk_R "HoleDesk$Writer" 110 "*" q s ∧ txF s.heap.size q 1 (fun j => ([42] : List Int32).getD j 0) s := by
  have hA : ∀ a : Nat, a < s.heap.size → ¬ s.heap.size ≤ a := fun a h => Nat.not_le.mpr h
  obtain ⟨adK, adV, h1, h2⟩ := vk_Sof (args := args) (s := s) (N := 1) (tm := fun _ => (.string "HoleDesk$Writer" 110)) (len := [1]) (byt := [[42]]) (A := fun q => s.heap.size ≤ q)
    (fun i hi => by obtain rfl : i = 0 := by omega
                    decide)
    (fun i hi => hs (Cond.exactly (.string "HoleDesk$Writer" 110) "java/lang/String") (by first | exact List.mem_of_getElem? (i := 61) rfl | decide +kernel))
    (fun i hi => hs (Cond.eq (.field (.string "HoleDesk$Writer" 110) "java/lang/String" "coder" "B") (.int 0)) (by first | exact List.mem_of_getElem? (i := 62) rfl | decide +kernel))
    (fun i hi => hs (Cond.arrayOf (.field (.string "HoleDesk$Writer" 110) "java/lang/String" "value" "[B") .byte) (by first | exact List.mem_of_getElem? (i := 63) rfl | decide +kernel))
    (fun i hi => by obtain rfl : i = 0 := by omega
                    exact hs (Cond.eq (.length (.field (.string "HoleDesk$Writer" 110) "java/lang/String" "value" "[B")) (.int 1)) (by first | exact List.mem_of_getElem? (i := 64) rfl | decide +kernel))
    (fun i hi j hj => by
      obtain rfl : i = 0 := by omega
      have hj : j < 1 := hj
      rcases (show j = 0 by omega) with rfl
      · exact hs (Cond.eq (.elem (.field (.string "HoleDesk$Writer" 110) "java/lang/String" "value" "[B") (.int 0)) (.int 42)) (by first | exact List.mem_of_getElem? (i := 65) rfl | decide +kernel))
    (fun i j hi hj hij => absurd (show i = j by omega) hij) hA
  obtain ⟨x1, x2, x3, x4⟩ := h1.1 0 (by decide)
  exact ⟨adK 0, vk_R.of (hts _ tref_4) (h2 0 (by decide)), adV 0, x1, x2, x3, x4⟩
theorem text_5 {s : State} {args : Array Value} (hts : ∀ w ∈ lw_tbl, w.before args s = true) (hs : ∀ w ∈ flatC (Jvm.Cond.and given_1 narrow_1), w.before args s = true) : ∃ q : Nat, vk_R "HoleDesk$Writer" 112 "/" q s ∧ txF s.heap.size q 1 (fun j => ([47] : List Int32).getD j 0) s := by
  have hA : ∀ a : Nat, a < s.heap.size → ¬ s.heap.size ≤ a := fun a h => Nat.not_le.mpr h
  obtain ⟨adK, adV, h1, h2⟩ := vk_Sof (args := args) (s := s) (N := 1) (tm := fun _ => (.string "HoleDesk$Writer" 112)) (len := [1]) (byt := [[47]]) (A := fun q => s.heap.size ≤ q)
    (fun i hi => by obtain rfl : i = 0 := by omega
                    decide)
    (fun i hi => hs (Cond.exactly (.string "HoleDesk$Writer" 112) "java/lang/String") (by first | exact List.mem_of_getElem? (i := 70) rfl | decide +kernel))
    (fun i hi => hs (Cond.eq (.field (.string "HoleDesk$Writer" 112) "java/lang/String" "coder" "B") (.int 0)) (by first | exact List.mem_of_getElem? (i := 71) rfl | decide +kernel))
    (fun i hi => hs (Cond.arrayOf (.field (.string "HoleDesk$Writer" 112) "java/lang/String" "value" "[B") .byte) (by first | exact List.mem_of_getElem? (i := 72) rfl | decide +kernel))
    (fun i hi => by obtain rfl : i = 0 := by omega
                    exact hs (Cond.eq (.length (.field (.string "HoleDesk$Writer" 112) "java/lang/String" "value" "[B")) (.int 1)) (by first | exact List.mem_of_getElem? (i := 73) rfl | decide +kernel))
    (fun i hi j hj => by
      obtain rfl : i = 0 := by omega
      have hj : j < 1 := hj
      rcases (show j = 0 by omega) with rfl
      · exact hs (Cond.eq (.elem (.field (.string "HoleDesk$Writer" 112) "java/lang/String" "value" "[B") (.int 0)) (.int 47)) (by first | exact List.mem_of_getElem? (i := 74) rfl | decide +kernel))
    (fun i j hi hj hij => absurd (show i = j by omega) hij) hA
  obtain ⟨x1, x2, x3, x4⟩ := h1.1 0 (by decide)
  exact ⟨adK 0, vk_R.of (hts _ tref_5) (h2 0 (by decide)), adV 0, x1, x2, x3, x4⟩
theorem text_6 {s : State} {args : Array Value} (hts : ∀ w ∈ lw_tbl, w.before args s = true) (hs : ∀ w ∈ flatC (Jvm.Cond.and given_1 narrow_1), w.before args s = true) : ∃ q : Nat, vk_R "HoleDesk$Writer" 114 "<" q s ∧ txF s.heap.size q 1 (fun j => ([60] : List Int32).getD j 0) s := by
  have hA : ∀ a : Nat, a < s.heap.size → ¬ s.heap.size ≤ a := fun a h => Nat.not_le.mpr h
  obtain ⟨adK, adV, h1, h2⟩ := vk_Sof (args := args) (s := s) (N := 1) (tm := fun _ => (.string "HoleDesk$Writer" 114)) (len := [1]) (byt := [[60]]) (A := fun q => s.heap.size ≤ q)
    (fun i hi => by obtain rfl : i = 0 := by omega
                    decide)
    (fun i hi => hs (Cond.exactly (.string "HoleDesk$Writer" 114) "java/lang/String") (by first | exact List.mem_of_getElem? (i := 80) rfl | decide +kernel))
    (fun i hi => hs (Cond.eq (.field (.string "HoleDesk$Writer" 114) "java/lang/String" "coder" "B") (.int 0)) (by first | exact List.mem_of_getElem? (i := 81) rfl | decide +kernel))
    (fun i hi => hs (Cond.arrayOf (.field (.string "HoleDesk$Writer" 114) "java/lang/String" "value" "[B") .byte) (by first | exact List.mem_of_getElem? (i := 82) rfl | decide +kernel))
    (fun i hi => by obtain rfl : i = 0 := by omega
                    exact hs (Cond.eq (.length (.field (.string "HoleDesk$Writer" 114) "java/lang/String" "value" "[B")) (.int 1)) (by first | exact List.mem_of_getElem? (i := 83) rfl | decide +kernel))
    (fun i hi j hj => by
      obtain rfl : i = 0 := by omega
      have hj : j < 1 := hj
      rcases (show j = 0 by omega) with rfl
      · exact hs (Cond.eq (.elem (.field (.string "HoleDesk$Writer" 114) "java/lang/String" "value" "[B") (.int 0)) (.int 60)) (by first | exact List.mem_of_getElem? (i := 84) rfl | decide +kernel))
    (fun i j hi hj hij => absurd (show i = j by omega) hij) hA
  obtain ⟨x1, x2, x3, x4⟩ := h1.1 0 (by decide)
  exact ⟨adK 0, vk_R.of (hts _ tref_6) (h2 0 (by decide)), adV 0, x1, x2, x3, x4⟩
theorem text_7 {s : State} {args : Array Value} (hts : ∀ w ∈ lw_tbl, w.before args s = true) (hs : ∀ w ∈ flatC (Jvm.Cond.and given_1 narrow_1), w.before args s = true) : ∃ q : Nat, vk_R "HoleDesk$Writer" 116 "use" q s ∧ txF s.heap.size q 3 (fun j => ([117, 115, 101] : List Int32).getD j 0) s := by
  have hA : ∀ a : Nat, a < s.heap.size → ¬ s.heap.size ≤ a := fun a h => Nat.not_le.mpr h
  obtain ⟨adK, adV, h1, h2⟩ := vk_Sof (args := args) (s := s) (N := 1) (tm := fun _ => (.string "HoleDesk$Writer" 116)) (len := [3]) (byt := [[117, 115, 101]]) (A := fun q => s.heap.size ≤ q)
    (fun i hi => by obtain rfl : i = 0 := by omega
                    decide)
    (fun i hi => hs (Cond.exactly (.string "HoleDesk$Writer" 116) "java/lang/String") (by first | exact List.mem_of_getElem? (i := 91) rfl | decide +kernel))
    (fun i hi => hs (Cond.eq (.field (.string "HoleDesk$Writer" 116) "java/lang/String" "coder" "B") (.int 0)) (by first | exact List.mem_of_getElem? (i := 92) rfl | decide +kernel))
    (fun i hi => hs (Cond.arrayOf (.field (.string "HoleDesk$Writer" 116) "java/lang/String" "value" "[B") .byte) (by first | exact List.mem_of_getElem? (i := 93) rfl | decide +kernel))
    (fun i hi => by obtain rfl : i = 0 := by omega
                    exact hs (Cond.eq (.length (.field (.string "HoleDesk$Writer" 116) "java/lang/String" "value" "[B")) (.int 3)) (by first | exact List.mem_of_getElem? (i := 94) rfl | decide +kernel))
    (fun i hi j hj => by
      obtain rfl : i = 0 := by omega
      have hj : j < 3 := hj
      rcases (show j = 0 ∨ j = 1 ∨ j = 2 by omega) with rfl | rfl | rfl
      · exact hs (Cond.eq (.elem (.field (.string "HoleDesk$Writer" 116) "java/lang/String" "value" "[B") (.int 0)) (.int 117)) (by first | exact List.mem_of_getElem? (i := 95) rfl | decide +kernel)
      · exact hs (Cond.eq (.elem (.field (.string "HoleDesk$Writer" 116) "java/lang/String" "value" "[B") (.int 1)) (.int 115)) (by first | exact List.mem_of_getElem? (i := 96) rfl | decide +kernel)
      · exact hs (Cond.eq (.elem (.field (.string "HoleDesk$Writer" 116) "java/lang/String" "value" "[B") (.int 2)) (.int 101)) (by first | exact List.mem_of_getElem? (i := 97) rfl | decide +kernel))
    (fun i j hi hj hij => absurd (show i = j by omega) hij) hA
  obtain ⟨x1, x2, x3, x4⟩ := h1.1 0 (by decide)
  exact ⟨adK 0, vk_R.of (hts _ tref_7) (h2 0 (by decide)), adV 0, x1, x2, x3, x4⟩
theorem text_8 {s : State} {args : Array Value} (hts : ∀ w ∈ lw_tbl, w.before args s = true) (hs : ∀ w ∈ flatC (Jvm.Cond.and given_1 narrow_1), w.before args s = true) : ∃ q : Nat, vk_R "HoleDesk$Writer" 118 "pick" q s ∧ txF s.heap.size q 4 (fun j => ([112, 105, 99, 107] : List Int32).getD j 0) s := by
  have hA : ∀ a : Nat, a < s.heap.size → ¬ s.heap.size ≤ a := fun a h => Nat.not_le.mpr h
  obtain ⟨adK, adV, h1, h2⟩ := vk_Sof (args := args) (s := s) (N := 1) (tm := fun _ => (.string "HoleDesk$Writer" 118)) (len := [4]) (byt := [[112, 105, 99, 107]]) (A := fun q => s.heap.size ≤ q)
    (fun i hi => by obtain rfl : i = 0 := by omega
                    decide)
    (fun i hi => hs (Cond.exactly (.string "HoleDesk$Writer" 118) "java/lang/String") (by first | exact List.mem_of_getElem? (i := 105) rfl | decide +kernel))
    (fun i hi => hs (Cond.eq (.field (.string "HoleDesk$Writer" 118) "java/lang/String" "coder" "B") (.int 0)) (by first | exact List.mem_of_getElem? (i := 106) rfl | decide +kernel))
    (fun i hi => hs (Cond.arrayOf (.field (.string "HoleDesk$Writer" 118) "java/lang/String" "value" "[B") .byte) (by first | exact List.mem_of_getElem? (i := 107) rfl | decide +kernel))
    (fun i hi => by obtain rfl : i = 0 := by omega
                    exact hs (Cond.eq (.length (.field (.string "HoleDesk$Writer" 118) "java/lang/String" "value" "[B")) (.int 4)) (by first | exact List.mem_of_getElem? (i := 108) rfl | decide +kernel))
    (fun i hi j hj => by
      obtain rfl : i = 0 := by omega
      have hj : j < 4 := hj
      rcases (show j = 0 ∨ j = 1 ∨ j = 2 ∨ j = 3 by omega) with rfl | rfl | rfl | rfl
      · exact hs (Cond.eq (.elem (.field (.string "HoleDesk$Writer" 118) "java/lang/String" "value" "[B") (.int 0)) (.int 112)) (by first | exact List.mem_of_getElem? (i := 109) rfl | decide +kernel)
      · exact hs (Cond.eq (.elem (.field (.string "HoleDesk$Writer" 118) "java/lang/String" "value" "[B") (.int 1)) (.int 105)) (by first | exact List.mem_of_getElem? (i := 110) rfl | decide +kernel)
      · exact hs (Cond.eq (.elem (.field (.string "HoleDesk$Writer" 118) "java/lang/String" "value" "[B") (.int 2)) (.int 99)) (by first | exact List.mem_of_getElem? (i := 111) rfl | decide +kernel)
      · exact hs (Cond.eq (.elem (.field (.string "HoleDesk$Writer" 118) "java/lang/String" "value" "[B") (.int 3)) (.int 107)) (by first | exact List.mem_of_getElem? (i := 112) rfl | decide +kernel))
    (fun i j hi hj hij => absurd (show i = j by omega) hij) hA
  obtain ⟨x1, x2, x3, x4⟩ := h1.1 0 (by decide)
  exact ⟨adK 0, vk_R.of (hts _ tref_8) (h2 0 (by decide)), adV 0, x1, x2, x3, x4⟩
theorem text_9 {s : State} {args : Array Value} (hts : ∀ w ∈ lw_tbl, w.before args s = true) (hs : ∀ w ∈ flatC (Jvm.Cond.and given_1 narrow_1), w.before args s = true) : ∃ q : Nat, vk_R "HoleDesk$Writer" 120 "first" q s ∧ txF s.heap.size q 5 (fun j => ([102, 105, 114, 115, 116] : List Int32).getD j 0) s := by
  have hA : ∀ a : Nat, a < s.heap.size → ¬ s.heap.size ≤ a := fun a h => Nat.not_le.mpr h
  obtain ⟨adK, adV, h1, h2⟩ := vk_Sof (args := args) (s := s) (N := 1) (tm := fun _ => (.string "HoleDesk$Writer" 120)) (len := [5]) (byt := [[102, 105, 114, 115, 116]]) (A := fun q => s.heap.size ≤ q)
    (fun i hi => by obtain rfl : i = 0 := by omega
                    decide)
    (fun i hi => hs (Cond.exactly (.string "HoleDesk$Writer" 120) "java/lang/String") (by first | exact List.mem_of_getElem? (i := 121) rfl | decide +kernel))
    (fun i hi => hs (Cond.eq (.field (.string "HoleDesk$Writer" 120) "java/lang/String" "coder" "B") (.int 0)) (by first | exact List.mem_of_getElem? (i := 122) rfl | decide +kernel))
    (fun i hi => hs (Cond.arrayOf (.field (.string "HoleDesk$Writer" 120) "java/lang/String" "value" "[B") .byte) (by first | exact List.mem_of_getElem? (i := 123) rfl | decide +kernel))
    (fun i hi => by obtain rfl : i = 0 := by omega
                    exact hs (Cond.eq (.length (.field (.string "HoleDesk$Writer" 120) "java/lang/String" "value" "[B")) (.int 5)) (by first | exact List.mem_of_getElem? (i := 124) rfl | decide +kernel))
    (fun i hi j hj => by
      obtain rfl : i = 0 := by omega
      have hj : j < 5 := hj
      rcases (show j = 0 ∨ j = 1 ∨ j = 2 ∨ j = 3 ∨ j = 4 by omega) with rfl | rfl | rfl | rfl | rfl
      · exact hs (Cond.eq (.elem (.field (.string "HoleDesk$Writer" 120) "java/lang/String" "value" "[B") (.int 0)) (.int 102)) (by first | exact List.mem_of_getElem? (i := 125) rfl | decide +kernel)
      · exact hs (Cond.eq (.elem (.field (.string "HoleDesk$Writer" 120) "java/lang/String" "value" "[B") (.int 1)) (.int 105)) (by first | exact List.mem_of_getElem? (i := 126) rfl | decide +kernel)
      · exact hs (Cond.eq (.elem (.field (.string "HoleDesk$Writer" 120) "java/lang/String" "value" "[B") (.int 2)) (.int 114)) (by first | exact List.mem_of_getElem? (i := 127) rfl | decide +kernel)
      · exact hs (Cond.eq (.elem (.field (.string "HoleDesk$Writer" 120) "java/lang/String" "value" "[B") (.int 3)) (.int 115)) (by first | exact List.mem_of_getElem? (i := 128) rfl | decide +kernel)
      · exact hs (Cond.eq (.elem (.field (.string "HoleDesk$Writer" 120) "java/lang/String" "value" "[B") (.int 4)) (.int 116)) (by first | exact List.mem_of_getElem? (i := 129) rfl | decide +kernel))
    (fun i j hi hj hij => absurd (show i = j by omega) hij) hA
  obtain ⟨x1, x2, x3, x4⟩ := h1.1 0 (by decide)
  exact ⟨adK 0, vk_R.of (hts _ tref_9) (h2 0 (by decide)), adV 0, x1, x2, x3, x4⟩
theorem text_10 {s : State} {args : Array Value} (hts : ∀ w ∈ lw_tbl, w.before args s = true) (hs : ∀ w ∈ flatC (Jvm.Cond.and given_1 narrow_1), w.before args s = true) : ∃ q : Nat, vk_R "HoleDesk$Writer" 122 "second" q s ∧ txF s.heap.size q 6 (fun j => ([115, 101, 99, 111, 110, 100] : List Int32).getD j 0) s := by
  have hA : ∀ a : Nat, a < s.heap.size → ¬ s.heap.size ≤ a := fun a h => Nat.not_le.mpr h
  obtain ⟨adK, adV, h1, h2⟩ := vk_Sof (args := args) (s := s) (N := 1) (tm := fun _ => (.string "HoleDesk$Writer" 122)) (len := [6]) (byt := [[115, 101, 99, 111, 110, 100]]) (A := fun q => s.heap.size ≤ q)
    (fun i hi => by obtain rfl : i = 0 := by omega
                    decide)
    (fun i hi => hs (Cond.exactly (.string "HoleDesk$Writer" 122) "java/lang/String") (by first | exact List.mem_of_getElem? (i := 139) rfl | decide +kernel))
    (fun i hi => hs (Cond.eq (.field (.string "HoleDesk$Writer" 122) "java/lang/String" "coder" "B") (.int 0)) (by first | exact List.mem_of_getElem? (i := 140) rfl | decide +kernel))
    (fun i hi => hs (Cond.arrayOf (.field (.string "HoleDesk$Writer" 122) "java/lang/String" "value" "[B") .byte) (by first | exact List.mem_of_getElem? (i := 141) rfl | decide +kernel))
    (fun i hi => by obtain rfl : i = 0 := by omega
                    exact hs (Cond.eq (.length (.field (.string "HoleDesk$Writer" 122) "java/lang/String" "value" "[B")) (.int 6)) (by first | exact List.mem_of_getElem? (i := 142) rfl | decide +kernel))
    (fun i hi j hj => by
      obtain rfl : i = 0 := by omega
      have hj : j < 6 := hj
      rcases (show j = 0 ∨ j = 1 ∨ j = 2 ∨ j = 3 ∨ j = 4 ∨ j = 5 by omega) with rfl | rfl | rfl | rfl | rfl | rfl
      · exact hs (Cond.eq (.elem (.field (.string "HoleDesk$Writer" 122) "java/lang/String" "value" "[B") (.int 0)) (.int 115)) (by first | exact List.mem_of_getElem? (i := 143) rfl | decide +kernel)
      · exact hs (Cond.eq (.elem (.field (.string "HoleDesk$Writer" 122) "java/lang/String" "value" "[B") (.int 1)) (.int 101)) (by first | exact List.mem_of_getElem? (i := 144) rfl | decide +kernel)
      · exact hs (Cond.eq (.elem (.field (.string "HoleDesk$Writer" 122) "java/lang/String" "value" "[B") (.int 2)) (.int 99)) (by first | exact List.mem_of_getElem? (i := 145) rfl | decide +kernel)
      · exact hs (Cond.eq (.elem (.field (.string "HoleDesk$Writer" 122) "java/lang/String" "value" "[B") (.int 3)) (.int 111)) (by first | exact List.mem_of_getElem? (i := 146) rfl | decide +kernel)
      · exact hs (Cond.eq (.elem (.field (.string "HoleDesk$Writer" 122) "java/lang/String" "value" "[B") (.int 4)) (.int 110)) (by first | exact List.mem_of_getElem? (i := 147) rfl | decide +kernel)
      · exact hs (Cond.eq (.elem (.field (.string "HoleDesk$Writer" 122) "java/lang/String" "value" "[B") (.int 5)) (.int 100)) (by first | exact List.mem_of_getElem? (i := 148) rfl | decide +kernel))
    (fun i j hi hj hij => absurd (show i = j by omega) hij) hA
  obtain ⟨x1, x2, x3, x4⟩ := h1.1 0 (by decide)
  exact ⟨adK 0, vk_R.of (hts _ tref_10) (h2 0 (by decide)), adV 0, x1, x2, x3, x4⟩
theorem text_11 {s : State} {args : Array Value} (hts : ∀ w ∈ lw_tbl, w.before args s = true) (hs : ∀ w ∈ flatC (Jvm.Cond.and given_1 narrow_1), w.before args s = true) : ∃ q : Nat, vk_R "HoleDeskModel" 439 "yes" q s ∧ txF s.heap.size q 3 (fun j => ([121, 101, 115] : List Int32).getD j 0) s := by
  have hA : ∀ a : Nat, a < s.heap.size → ¬ s.heap.size ≤ a := fun a h => Nat.not_le.mpr h
  obtain ⟨adK, adV, h1, h2⟩ := vk_Sof (args := args) (s := s) (N := 1) (tm := fun _ => (.string "HoleDeskModel" 439)) (len := [3]) (byt := [[121, 101, 115]]) (A := fun q => s.heap.size ≤ q)
    (fun i hi => by obtain rfl : i = 0 := by omega
                    decide)
    (fun i hi => hs (Cond.exactly (.string "HoleDeskModel" 439) "java/lang/String") (by first | exact List.mem_of_getElem? (i := 159) rfl | decide +kernel))
    (fun i hi => hs (Cond.eq (.field (.string "HoleDeskModel" 439) "java/lang/String" "coder" "B") (.int 0)) (by first | exact List.mem_of_getElem? (i := 160) rfl | decide +kernel))
    (fun i hi => hs (Cond.arrayOf (.field (.string "HoleDeskModel" 439) "java/lang/String" "value" "[B") .byte) (by first | exact List.mem_of_getElem? (i := 161) rfl | decide +kernel))
    (fun i hi => by obtain rfl : i = 0 := by omega
                    exact hs (Cond.eq (.length (.field (.string "HoleDeskModel" 439) "java/lang/String" "value" "[B")) (.int 3)) (by first | exact List.mem_of_getElem? (i := 162) rfl | decide +kernel))
    (fun i hi j hj => by
      obtain rfl : i = 0 := by omega
      have hj : j < 3 := hj
      rcases (show j = 0 ∨ j = 1 ∨ j = 2 by omega) with rfl | rfl | rfl
      · exact hs (Cond.eq (.elem (.field (.string "HoleDeskModel" 439) "java/lang/String" "value" "[B") (.int 0)) (.int 121)) (by first | exact List.mem_of_getElem? (i := 163) rfl | decide +kernel)
      · exact hs (Cond.eq (.elem (.field (.string "HoleDeskModel" 439) "java/lang/String" "value" "[B") (.int 1)) (.int 101)) (by first | exact List.mem_of_getElem? (i := 164) rfl | decide +kernel)
      · exact hs (Cond.eq (.elem (.field (.string "HoleDeskModel" 439) "java/lang/String" "value" "[B") (.int 2)) (.int 115)) (by first | exact List.mem_of_getElem? (i := 165) rfl | decide +kernel))
    (fun i j hi hj hij => absurd (show i = j by omega) hij) hA
  obtain ⟨x1, x2, x3, x4⟩ := h1.1 0 (by decide)
  exact ⟨adK 0, vk_R.of (hts _ tref_11) (h2 0 (by decide)), adV 0, x1, x2, x3, x4⟩
theorem text_12 {s : State} {args : Array Value} (hts : ∀ w ∈ lw_tbl, w.before args s = true) (hs : ∀ w ∈ flatC (Jvm.Cond.and given_1 narrow_1), w.before args s = true) : ∃ q : Nat, vk_R "HoleDeskModel" 441 "no" q s ∧ txF s.heap.size q 2 (fun j => ([110, 111] : List Int32).getD j 0) s := by
  have hA : ∀ a : Nat, a < s.heap.size → ¬ s.heap.size ≤ a := fun a h => Nat.not_le.mpr h
  obtain ⟨adK, adV, h1, h2⟩ := vk_Sof (args := args) (s := s) (N := 1) (tm := fun _ => (.string "HoleDeskModel" 441)) (len := [2]) (byt := [[110, 111]]) (A := fun q => s.heap.size ≤ q)
    (fun i hi => by obtain rfl : i = 0 := by omega
                    decide)
    (fun i hi => hs (Cond.exactly (.string "HoleDeskModel" 441) "java/lang/String") (by first | exact List.mem_of_getElem? (i := 177) rfl | decide +kernel))
    (fun i hi => hs (Cond.eq (.field (.string "HoleDeskModel" 441) "java/lang/String" "coder" "B") (.int 0)) (by first | exact List.mem_of_getElem? (i := 178) rfl | decide +kernel))
    (fun i hi => hs (Cond.arrayOf (.field (.string "HoleDeskModel" 441) "java/lang/String" "value" "[B") .byte) (by first | exact List.mem_of_getElem? (i := 179) rfl | decide +kernel))
    (fun i hi => by obtain rfl : i = 0 := by omega
                    exact hs (Cond.eq (.length (.field (.string "HoleDeskModel" 441) "java/lang/String" "value" "[B")) (.int 2)) (by first | exact List.mem_of_getElem? (i := 180) rfl | decide +kernel))
    (fun i hi j hj => by
      obtain rfl : i = 0 := by omega
      have hj : j < 2 := hj
      rcases (show j = 0 ∨ j = 1 by omega) with rfl | rfl
      · exact hs (Cond.eq (.elem (.field (.string "HoleDeskModel" 441) "java/lang/String" "value" "[B") (.int 0)) (.int 110)) (by first | exact List.mem_of_getElem? (i := 181) rfl | decide +kernel)
      · exact hs (Cond.eq (.elem (.field (.string "HoleDeskModel" 441) "java/lang/String" "value" "[B") (.int 1)) (.int 111)) (by first | exact List.mem_of_getElem? (i := 182) rfl | decide +kernel))
    (fun i j hi hj hij => absurd (show i = j by omega) hij) hA
  obtain ⟨x1, x2, x3, x4⟩ := h1.1 0 (by decide)
  exact ⟨adK 0, vk_R.of (hts _ tref_12) (h2 0 (by decide)), adV 0, x1, x2, x3, x4⟩
theorem text_13 {s : State} {args : Array Value} (hts : ∀ w ∈ lw_tbl, w.before args s = true) (hs : ∀ w ∈ flatC (Jvm.Cond.and given_1 narrow_1), w.before args s = true) : ∃ q : Nat, vk_R "HoleDeskModel" 420 "+" q s ∧ txF s.heap.size q 1 (fun j => ([43] : List Int32).getD j 0) s := by
  have hA : ∀ a : Nat, a < s.heap.size → ¬ s.heap.size ≤ a := fun a h => Nat.not_le.mpr h
  obtain ⟨adK, adV, h1, h2⟩ := vk_Sof (args := args) (s := s) (N := 1) (tm := fun _ => (.string "HoleDeskModel" 420)) (len := [1]) (byt := [[43]]) (A := fun q => s.heap.size ≤ q)
    (fun i hi => by obtain rfl : i = 0 := by omega
                    decide)
    (fun i hi => hs (Cond.exactly (.string "HoleDeskModel" 420) "java/lang/String") (by first | exact List.mem_of_getElem? (i := 195) rfl | decide +kernel))
    (fun i hi => hs (Cond.eq (.field (.string "HoleDeskModel" 420) "java/lang/String" "coder" "B") (.int 0)) (by first | exact List.mem_of_getElem? (i := 196) rfl | decide +kernel))
    (fun i hi => hs (Cond.arrayOf (.field (.string "HoleDeskModel" 420) "java/lang/String" "value" "[B") .byte) (by first | exact List.mem_of_getElem? (i := 197) rfl | decide +kernel))
    (fun i hi => by obtain rfl : i = 0 := by omega
                    exact hs (Cond.eq (.length (.field (.string "HoleDeskModel" 420) "java/lang/String" "value" "[B")) (.int 1)) (by first | exact List.mem_of_getElem? (i := 198) rfl | decide +kernel))
    (fun i hi j hj => by
      obtain rfl : i = 0 := by omega
      have hj : j < 1 := hj
      rcases (show j = 0 by omega) with rfl
      · exact hs (Cond.eq (.elem (.field (.string "HoleDeskModel" 420) "java/lang/String" "value" "[B") (.int 0)) (.int 43)) (by first | exact List.mem_of_getElem? (i := 199) rfl | decide +kernel))
    (fun i j hi hj hij => absurd (show i = j by omega) hij) hA
  obtain ⟨x1, x2, x3, x4⟩ := h1.1 0 (by decide)
  exact ⟨adK 0, vk_R.of (hts _ tref_13) (h2 0 (by decide)), adV 0, x1, x2, x3, x4⟩
theorem text_14 {s : State} {args : Array Value} (hts : ∀ w ∈ lw_tbl, w.before args s = true) (hs : ∀ w ∈ flatC (Jvm.Cond.and given_1 narrow_1), w.before args s = true) : ∃ q : Nat, vk_R "HoleDeskModel" 422 "*" q s ∧ txF s.heap.size q 1 (fun j => ([42] : List Int32).getD j 0) s := by
  have hA : ∀ a : Nat, a < s.heap.size → ¬ s.heap.size ≤ a := fun a h => Nat.not_le.mpr h
  obtain ⟨adK, adV, h1, h2⟩ := vk_Sof (args := args) (s := s) (N := 1) (tm := fun _ => (.string "HoleDeskModel" 422)) (len := [1]) (byt := [[42]]) (A := fun q => s.heap.size ≤ q)
    (fun i hi => by obtain rfl : i = 0 := by omega
                    decide)
    (fun i hi => hs (Cond.exactly (.string "HoleDeskModel" 422) "java/lang/String") (by first | exact List.mem_of_getElem? (i := 213) rfl | decide +kernel))
    (fun i hi => hs (Cond.eq (.field (.string "HoleDeskModel" 422) "java/lang/String" "coder" "B") (.int 0)) (by first | exact List.mem_of_getElem? (i := 214) rfl | decide +kernel))
    (fun i hi => hs (Cond.arrayOf (.field (.string "HoleDeskModel" 422) "java/lang/String" "value" "[B") .byte) (by first | exact List.mem_of_getElem? (i := 215) rfl | decide +kernel))
    (fun i hi => by obtain rfl : i = 0 := by omega
                    exact hs (Cond.eq (.length (.field (.string "HoleDeskModel" 422) "java/lang/String" "value" "[B")) (.int 1)) (by first | exact List.mem_of_getElem? (i := 216) rfl | decide +kernel))
    (fun i hi j hj => by
      obtain rfl : i = 0 := by omega
      have hj : j < 1 := hj
      rcases (show j = 0 by omega) with rfl
      · exact hs (Cond.eq (.elem (.field (.string "HoleDeskModel" 422) "java/lang/String" "value" "[B") (.int 0)) (.int 42)) (by first | exact List.mem_of_getElem? (i := 217) rfl | decide +kernel))
    (fun i j hi hj hij => absurd (show i = j by omega) hij) hA
  obtain ⟨x1, x2, x3, x4⟩ := h1.1 0 (by decide)
  exact ⟨adK 0, vk_R.of (hts _ tref_14) (h2 0 (by decide)), adV 0, x1, x2, x3, x4⟩
theorem text_15 {s : State} {args : Array Value} (hts : ∀ w ∈ lw_tbl, w.before args s = true) (hs : ∀ w ∈ flatC (Jvm.Cond.and given_1 narrow_1), w.before args s = true) : ∃ q : Nat, vk_R "HoleDeskModel" 424 "/" q s ∧ txF s.heap.size q 1 (fun j => ([47] : List Int32).getD j 0) s := by
  have hA : ∀ a : Nat, a < s.heap.size → ¬ s.heap.size ≤ a := fun a h => Nat.not_le.mpr h
  obtain ⟨adK, adV, h1, h2⟩ := vk_Sof (args := args) (s := s) (N := 1) (tm := fun _ => (.string "HoleDeskModel" 424)) (len := [1]) (byt := [[47]]) (A := fun q => s.heap.size ≤ q)
    (fun i hi => by obtain rfl : i = 0 := by omega
                    decide)
    (fun i hi => hs (Cond.exactly (.string "HoleDeskModel" 424) "java/lang/String") (by first | exact List.mem_of_getElem? (i := 232) rfl | decide +kernel))
    (fun i hi => hs (Cond.eq (.field (.string "HoleDeskModel" 424) "java/lang/String" "coder" "B") (.int 0)) (by first | exact List.mem_of_getElem? (i := 233) rfl | decide +kernel))
    (fun i hi => hs (Cond.arrayOf (.field (.string "HoleDeskModel" 424) "java/lang/String" "value" "[B") .byte) (by first | exact List.mem_of_getElem? (i := 234) rfl | decide +kernel))
    (fun i hi => by obtain rfl : i = 0 := by omega
                    exact hs (Cond.eq (.length (.field (.string "HoleDeskModel" 424) "java/lang/String" "value" "[B")) (.int 1)) (by first | exact List.mem_of_getElem? (i := 235) rfl | decide +kernel))
    (fun i hi j hj => by
      obtain rfl : i = 0 := by omega
      have hj : j < 1 := hj
      rcases (show j = 0 by omega) with rfl
      · exact hs (Cond.eq (.elem (.field (.string "HoleDeskModel" 424) "java/lang/String" "value" "[B") (.int 0)) (.int 47)) (by first | exact List.mem_of_getElem? (i := 236) rfl | decide +kernel))
    (fun i j hi hj hij => absurd (show i = j by omega) hij) hA
  obtain ⟨x1, x2, x3, x4⟩ := h1.1 0 (by decide)
  exact ⟨adK 0, vk_R.of (hts _ tref_15) (h2 0 (by decide)), adV 0, x1, x2, x3, x4⟩
theorem text_16 {s : State} {args : Array Value} (hts : ∀ w ∈ lw_tbl, w.before args s = true) (hs : ∀ w ∈ flatC (Jvm.Cond.and given_1 narrow_1), w.before args s = true) : ∃ q : Nat, vk_R "HoleDeskModel" 426 "<" q s ∧ txF s.heap.size q 1 (fun j => ([60] : List Int32).getD j 0) s := by
  have hA : ∀ a : Nat, a < s.heap.size → ¬ s.heap.size ≤ a := fun a h => Nat.not_le.mpr h
  obtain ⟨adK, adV, h1, h2⟩ := vk_Sof (args := args) (s := s) (N := 1) (tm := fun _ => (.string "HoleDeskModel" 426)) (len := [1]) (byt := [[60]]) (A := fun q => s.heap.size ≤ q)
    (fun i hi => by obtain rfl : i = 0 := by omega
                    decide)
    (fun i hi => hs (Cond.exactly (.string "HoleDeskModel" 426) "java/lang/String") (by first | exact List.mem_of_getElem? (i := 252) rfl | decide +kernel))
    (fun i hi => hs (Cond.eq (.field (.string "HoleDeskModel" 426) "java/lang/String" "coder" "B") (.int 0)) (by first | exact List.mem_of_getElem? (i := 253) rfl | decide +kernel))
    (fun i hi => hs (Cond.arrayOf (.field (.string "HoleDeskModel" 426) "java/lang/String" "value" "[B") .byte) (by first | exact List.mem_of_getElem? (i := 254) rfl | decide +kernel))
    (fun i hi => by obtain rfl : i = 0 := by omega
                    exact hs (Cond.eq (.length (.field (.string "HoleDeskModel" 426) "java/lang/String" "value" "[B")) (.int 1)) (by first | exact List.mem_of_getElem? (i := 255) rfl | decide +kernel))
    (fun i hi j hj => by
      obtain rfl : i = 0 := by omega
      have hj : j < 1 := hj
      rcases (show j = 0 by omega) with rfl
      · exact hs (Cond.eq (.elem (.field (.string "HoleDeskModel" 426) "java/lang/String" "value" "[B") (.int 0)) (.int 60)) (by first | exact List.mem_of_getElem? (i := 256) rfl | decide +kernel))
    (fun i j hi hj hij => absurd (show i = j by omega) hij) hA
  obtain ⟨x1, x2, x3, x4⟩ := h1.1 0 (by decide)
  exact ⟨adK 0, vk_R.of (hts _ tref_16) (h2 0 (by decide)), adV 0, x1, x2, x3, x4⟩
theorem text_17 {s : State} {args : Array Value} (hts : ∀ w ∈ lw_tbl, w.before args s = true) (hs : ∀ w ∈ flatC (Jvm.Cond.and given_1 narrow_1), w.before args s = true) : ∃ q : Nat, vk_R "HoleDeskModel" 428 "use" q s ∧ txF s.heap.size q 3 (fun j => ([117, 115, 101] : List Int32).getD j 0) s := by
  have hA : ∀ a : Nat, a < s.heap.size → ¬ s.heap.size ≤ a := fun a h => Nat.not_le.mpr h
  obtain ⟨adK, adV, h1, h2⟩ := vk_Sof (args := args) (s := s) (N := 1) (tm := fun _ => (.string "HoleDeskModel" 428)) (len := [3]) (byt := [[117, 115, 101]]) (A := fun q => s.heap.size ≤ q)
    (fun i hi => by obtain rfl : i = 0 := by omega
                    decide)
    (fun i hi => hs (Cond.exactly (.string "HoleDeskModel" 428) "java/lang/String") (by first | exact List.mem_of_getElem? (i := 273) rfl | decide +kernel))
    (fun i hi => hs (Cond.eq (.field (.string "HoleDeskModel" 428) "java/lang/String" "coder" "B") (.int 0)) (by first | exact List.mem_of_getElem? (i := 274) rfl | decide +kernel))
    (fun i hi => hs (Cond.arrayOf (.field (.string "HoleDeskModel" 428) "java/lang/String" "value" "[B") .byte) (by first | exact List.mem_of_getElem? (i := 275) rfl | decide +kernel))
    (fun i hi => by obtain rfl : i = 0 := by omega
                    exact hs (Cond.eq (.length (.field (.string "HoleDeskModel" 428) "java/lang/String" "value" "[B")) (.int 3)) (by first | exact List.mem_of_getElem? (i := 276) rfl | decide +kernel))
    (fun i hi j hj => by
      obtain rfl : i = 0 := by omega
      have hj : j < 3 := hj
      rcases (show j = 0 ∨ j = 1 ∨ j = 2 by omega) with rfl | rfl | rfl
      · exact hs (Cond.eq (.elem (.field (.string "HoleDeskModel" 428) "java/lang/String" "value" "[B") (.int 0)) (.int 117)) (by first | exact List.mem_of_getElem? (i := 277) rfl | decide +kernel)
      · exact hs (Cond.eq (.elem (.field (.string "HoleDeskModel" 428) "java/lang/String" "value" "[B") (.int 1)) (.int 115)) (by first | exact List.mem_of_getElem? (i := 278) rfl | decide +kernel)
      · exact hs (Cond.eq (.elem (.field (.string "HoleDeskModel" 428) "java/lang/String" "value" "[B") (.int 2)) (.int 101)) (by first | exact List.mem_of_getElem? (i := 279) rfl | decide +kernel))
    (fun i j hi hj hij => absurd (show i = j by omega) hij) hA
  obtain ⟨x1, x2, x3, x4⟩ := h1.1 0 (by decide)
  exact ⟨adK 0, vk_R.of (hts _ tref_17) (h2 0 (by decide)), adV 0, x1, x2, x3, x4⟩
theorem text_18 {s : State} {args : Array Value} (hts : ∀ w ∈ lw_tbl, w.before args s = true) (hs : ∀ w ∈ flatC (Jvm.Cond.and given_1 narrow_1), w.before args s = true) : ∃ q : Nat, vk_R "HoleDeskModel" 430 "pick" q s ∧ txF s.heap.size q 4 (fun j => ([112, 105, 99, 107] : List Int32).getD j 0) s := by
  have hA : ∀ a : Nat, a < s.heap.size → ¬ s.heap.size ≤ a := fun a h => Nat.not_le.mpr h
  obtain ⟨adK, adV, h1, h2⟩ := vk_Sof (args := args) (s := s) (N := 1) (tm := fun _ => (.string "HoleDeskModel" 430)) (len := [4]) (byt := [[112, 105, 99, 107]]) (A := fun q => s.heap.size ≤ q)
    (fun i hi => by obtain rfl : i = 0 := by omega
                    decide)
    (fun i hi => hs (Cond.exactly (.string "HoleDeskModel" 430) "java/lang/String") (by first | exact List.mem_of_getElem? (i := 297) rfl | decide +kernel))
    (fun i hi => hs (Cond.eq (.field (.string "HoleDeskModel" 430) "java/lang/String" "coder" "B") (.int 0)) (by first | exact List.mem_of_getElem? (i := 298) rfl | decide +kernel))
    (fun i hi => hs (Cond.arrayOf (.field (.string "HoleDeskModel" 430) "java/lang/String" "value" "[B") .byte) (by first | exact List.mem_of_getElem? (i := 299) rfl | decide +kernel))
    (fun i hi => by obtain rfl : i = 0 := by omega
                    exact hs (Cond.eq (.length (.field (.string "HoleDeskModel" 430) "java/lang/String" "value" "[B")) (.int 4)) (by first | exact List.mem_of_getElem? (i := 300) rfl | decide +kernel))
    (fun i hi j hj => by
      obtain rfl : i = 0 := by omega
      have hj : j < 4 := hj
      rcases (show j = 0 ∨ j = 1 ∨ j = 2 ∨ j = 3 by omega) with rfl | rfl | rfl | rfl
      · exact hs (Cond.eq (.elem (.field (.string "HoleDeskModel" 430) "java/lang/String" "value" "[B") (.int 0)) (.int 112)) (by first | exact List.mem_of_getElem? (i := 301) rfl | decide +kernel)
      · exact hs (Cond.eq (.elem (.field (.string "HoleDeskModel" 430) "java/lang/String" "value" "[B") (.int 1)) (.int 105)) (by first | exact List.mem_of_getElem? (i := 302) rfl | decide +kernel)
      · exact hs (Cond.eq (.elem (.field (.string "HoleDeskModel" 430) "java/lang/String" "value" "[B") (.int 2)) (.int 99)) (by first | exact List.mem_of_getElem? (i := 303) rfl | decide +kernel)
      · exact hs (Cond.eq (.elem (.field (.string "HoleDeskModel" 430) "java/lang/String" "value" "[B") (.int 3)) (.int 107)) (by first | exact List.mem_of_getElem? (i := 304) rfl | decide +kernel))
    (fun i j hi hj hij => absurd (show i = j by omega) hij) hA
  obtain ⟨x1, x2, x3, x4⟩ := h1.1 0 (by decide)
  exact ⟨adK 0, vk_R.of (hts _ tref_18) (h2 0 (by decide)), adV 0, x1, x2, x3, x4⟩
theorem text_19 {s : State} {args : Array Value} (hts : ∀ w ∈ lw_tbl, w.before args s = true) (hs : ∀ w ∈ flatC (Jvm.Cond.and given_1 narrow_1), w.before args s = true) : ∃ q : Nat, vk_R "HoleDeskModel" 432 "first" q s ∧ txF s.heap.size q 5 (fun j => ([102, 105, 114, 115, 116] : List Int32).getD j 0) s := by
  have hA : ∀ a : Nat, a < s.heap.size → ¬ s.heap.size ≤ a := fun a h => Nat.not_le.mpr h
  obtain ⟨adK, adV, h1, h2⟩ := vk_Sof (args := args) (s := s) (N := 1) (tm := fun _ => (.string "HoleDeskModel" 432)) (len := [5]) (byt := [[102, 105, 114, 115, 116]]) (A := fun q => s.heap.size ≤ q)
    (fun i hi => by obtain rfl : i = 0 := by omega
                    decide)
    (fun i hi => hs (Cond.exactly (.string "HoleDeskModel" 432) "java/lang/String") (by first | exact List.mem_of_getElem? (i := 323) rfl | decide +kernel))
    (fun i hi => hs (Cond.eq (.field (.string "HoleDeskModel" 432) "java/lang/String" "coder" "B") (.int 0)) (by first | exact List.mem_of_getElem? (i := 324) rfl | decide +kernel))
    (fun i hi => hs (Cond.arrayOf (.field (.string "HoleDeskModel" 432) "java/lang/String" "value" "[B") .byte) (by first | exact List.mem_of_getElem? (i := 325) rfl | decide +kernel))
    (fun i hi => by obtain rfl : i = 0 := by omega
                    exact hs (Cond.eq (.length (.field (.string "HoleDeskModel" 432) "java/lang/String" "value" "[B")) (.int 5)) (by first | exact List.mem_of_getElem? (i := 326) rfl | decide +kernel))
    (fun i hi j hj => by
      obtain rfl : i = 0 := by omega
      have hj : j < 5 := hj
      rcases (show j = 0 ∨ j = 1 ∨ j = 2 ∨ j = 3 ∨ j = 4 by omega) with rfl | rfl | rfl | rfl | rfl
      · exact hs (Cond.eq (.elem (.field (.string "HoleDeskModel" 432) "java/lang/String" "value" "[B") (.int 0)) (.int 102)) (by first | exact List.mem_of_getElem? (i := 327) rfl | decide +kernel)
      · exact hs (Cond.eq (.elem (.field (.string "HoleDeskModel" 432) "java/lang/String" "value" "[B") (.int 1)) (.int 105)) (by first | exact List.mem_of_getElem? (i := 328) rfl | decide +kernel)
      · exact hs (Cond.eq (.elem (.field (.string "HoleDeskModel" 432) "java/lang/String" "value" "[B") (.int 2)) (.int 114)) (by first | exact List.mem_of_getElem? (i := 329) rfl | decide +kernel)
      · exact hs (Cond.eq (.elem (.field (.string "HoleDeskModel" 432) "java/lang/String" "value" "[B") (.int 3)) (.int 115)) (by first | exact List.mem_of_getElem? (i := 330) rfl | decide +kernel)
      · exact hs (Cond.eq (.elem (.field (.string "HoleDeskModel" 432) "java/lang/String" "value" "[B") (.int 4)) (.int 116)) (by first | exact List.mem_of_getElem? (i := 331) rfl | decide +kernel))
    (fun i j hi hj hij => absurd (show i = j by omega) hij) hA
  obtain ⟨x1, x2, x3, x4⟩ := h1.1 0 (by decide)
  exact ⟨adK 0, vk_R.of (hts _ tref_19) (h2 0 (by decide)), adV 0, x1, x2, x3, x4⟩
theorem text_20 {s : State} {args : Array Value} (hts : ∀ w ∈ lw_tbl, w.before args s = true) (hs : ∀ w ∈ flatC (Jvm.Cond.and given_1 narrow_1), w.before args s = true) : ∃ q : Nat, vk_R "HoleDeskModel" 434 "second" q s ∧ txF s.heap.size q 6 (fun j => ([115, 101, 99, 111, 110, 100] : List Int32).getD j 0) s := by
  have hA : ∀ a : Nat, a < s.heap.size → ¬ s.heap.size ≤ a := fun a h => Nat.not_le.mpr h
  obtain ⟨adK, adV, h1, h2⟩ := vk_Sof (args := args) (s := s) (N := 1) (tm := fun _ => (.string "HoleDeskModel" 434)) (len := [6]) (byt := [[115, 101, 99, 111, 110, 100]]) (A := fun q => s.heap.size ≤ q)
    (fun i hi => by obtain rfl : i = 0 := by omega
                    decide)
    (fun i hi => hs (Cond.exactly (.string "HoleDeskModel" 434) "java/lang/String") (by first | exact List.mem_of_getElem? (i := 351) rfl | decide +kernel))
    (fun i hi => hs (Cond.eq (.field (.string "HoleDeskModel" 434) "java/lang/String" "coder" "B") (.int 0)) (by first | exact List.mem_of_getElem? (i := 352) rfl | decide +kernel))
    (fun i hi => hs (Cond.arrayOf (.field (.string "HoleDeskModel" 434) "java/lang/String" "value" "[B") .byte) (by first | exact List.mem_of_getElem? (i := 353) rfl | decide +kernel))
    (fun i hi => by obtain rfl : i = 0 := by omega
                    exact hs (Cond.eq (.length (.field (.string "HoleDeskModel" 434) "java/lang/String" "value" "[B")) (.int 6)) (by first | exact List.mem_of_getElem? (i := 354) rfl | decide +kernel))
    (fun i hi j hj => by
      obtain rfl : i = 0 := by omega
      have hj : j < 6 := hj
      rcases (show j = 0 ∨ j = 1 ∨ j = 2 ∨ j = 3 ∨ j = 4 ∨ j = 5 by omega) with rfl | rfl | rfl | rfl | rfl | rfl
      · exact hs (Cond.eq (.elem (.field (.string "HoleDeskModel" 434) "java/lang/String" "value" "[B") (.int 0)) (.int 115)) (by first | exact List.mem_of_getElem? (i := 355) rfl | decide +kernel)
      · exact hs (Cond.eq (.elem (.field (.string "HoleDeskModel" 434) "java/lang/String" "value" "[B") (.int 1)) (.int 101)) (by first | exact List.mem_of_getElem? (i := 356) rfl | decide +kernel)
      · exact hs (Cond.eq (.elem (.field (.string "HoleDeskModel" 434) "java/lang/String" "value" "[B") (.int 2)) (.int 99)) (by first | exact List.mem_of_getElem? (i := 357) rfl | decide +kernel)
      · exact hs (Cond.eq (.elem (.field (.string "HoleDeskModel" 434) "java/lang/String" "value" "[B") (.int 3)) (.int 111)) (by first | exact List.mem_of_getElem? (i := 358) rfl | decide +kernel)
      · exact hs (Cond.eq (.elem (.field (.string "HoleDeskModel" 434) "java/lang/String" "value" "[B") (.int 4)) (.int 110)) (by first | exact List.mem_of_getElem? (i := 359) rfl | decide +kernel)
      · exact hs (Cond.eq (.elem (.field (.string "HoleDeskModel" 434) "java/lang/String" "value" "[B") (.int 5)) (.int 100)) (by first | exact List.mem_of_getElem? (i := 360) rfl | decide +kernel))
    (fun i j hi hj hij => absurd (show i = j by omega) hij) hA
  obtain ⟨x1, x2, x3, x4⟩ := h1.1 0 (by decide)
  exact ⟨adK 0, vk_R.of (hts _ tref_20) (h2 0 (by decide)), adV 0, x1, x2, x3, x4⟩
def SN0 : List (String × Nat × String) := [("HoleDesk$Kinds", 50, "?wtfp"), ("HoleDesk$Writer", 74, "yes"), ("HoleDesk$Writer", 76, "no"), ("HoleDesk$Writer", 108, "+"), ("HoleDesk$Writer", 110, "*"), ("HoleDesk$Writer", 112, "/"), ("HoleDesk$Writer", 114, "<"), ("HoleDesk$Writer", 116, "use"), ("HoleDesk$Writer", 118, "pick"), ("HoleDesk$Writer", 120, "first"), ("HoleDesk$Writer", 122, "second"), ("HoleDeskModel", 439, "yes"), ("HoleDeskModel", 441, "no"), ("HoleDeskModel", 420, "+"), ("HoleDeskModel", 422, "*"), ("HoleDeskModel", 424, "/"), ("HoleDeskModel", 426, "<"), ("HoleDeskModel", 428, "use"), ("HoleDeskModel", 430, "pick"), ("HoleDeskModel", 432, "first"), ("HoleDeskModel", 434, "second")]
theorem texts_of {s : State} {args : Array Value} (hts : ∀ w ∈ lw_tbl, w.before args s = true) (hgv : (Jvm.Cond.and given_1 narrow_1).before args s = true) : ∀ k : Nat, ∃ q : Nat, k < 21 → vk_R (SN0.getD k ("", 0, "")).1 (SN0.getD k ("", 0, "")).2.1 (SN0.getD k ("", 0, "")).2.2 q s ∧ txF s.heap.size q (sstr.getD k []).length (fun j => (sstr.getD k []).getD j 0) s := by
  have hs := flat_of_before _ hgv
  intro k
  match k with
  | 0 => obtain ⟨q, h1, h2⟩ := text_0 hts hs; exact ⟨q, fun _ => ⟨h1, h2⟩⟩
  | 1 => obtain ⟨q, h1, h2⟩ := text_1 hts hs; exact ⟨q, fun _ => ⟨h1, h2⟩⟩
  | 2 => obtain ⟨q, h1, h2⟩ := text_2 hts hs; exact ⟨q, fun _ => ⟨h1, h2⟩⟩
  | 3 => obtain ⟨q, h1, h2⟩ := text_3 hts hs; exact ⟨q, fun _ => ⟨h1, h2⟩⟩
  | 4 => obtain ⟨q, h1, h2⟩ := text_4 hts hs; exact ⟨q, fun _ => ⟨h1, h2⟩⟩
  | 5 => obtain ⟨q, h1, h2⟩ := text_5 hts hs; exact ⟨q, fun _ => ⟨h1, h2⟩⟩
  | 6 => obtain ⟨q, h1, h2⟩ := text_6 hts hs; exact ⟨q, fun _ => ⟨h1, h2⟩⟩
  | 7 => obtain ⟨q, h1, h2⟩ := text_7 hts hs; exact ⟨q, fun _ => ⟨h1, h2⟩⟩
  | 8 => obtain ⟨q, h1, h2⟩ := text_8 hts hs; exact ⟨q, fun _ => ⟨h1, h2⟩⟩
  | 9 => obtain ⟨q, h1, h2⟩ := text_9 hts hs; exact ⟨q, fun _ => ⟨h1, h2⟩⟩
  | 10 => obtain ⟨q, h1, h2⟩ := text_10 hts hs; exact ⟨q, fun _ => ⟨h1, h2⟩⟩
  | 11 => obtain ⟨q, h1, h2⟩ := text_11 hts hs; exact ⟨q, fun _ => ⟨h1, h2⟩⟩
  | 12 => obtain ⟨q, h1, h2⟩ := text_12 hts hs; exact ⟨q, fun _ => ⟨h1, h2⟩⟩
  | 13 => obtain ⟨q, h1, h2⟩ := text_13 hts hs; exact ⟨q, fun _ => ⟨h1, h2⟩⟩
  | 14 => obtain ⟨q, h1, h2⟩ := text_14 hts hs; exact ⟨q, fun _ => ⟨h1, h2⟩⟩
  | 15 => obtain ⟨q, h1, h2⟩ := text_15 hts hs; exact ⟨q, fun _ => ⟨h1, h2⟩⟩
  | 16 => obtain ⟨q, h1, h2⟩ := text_16 hts hs; exact ⟨q, fun _ => ⟨h1, h2⟩⟩
  | 17 => obtain ⟨q, h1, h2⟩ := text_17 hts hs; exact ⟨q, fun _ => ⟨h1, h2⟩⟩
  | 18 => obtain ⟨q, h1, h2⟩ := text_18 hts hs; exact ⟨q, fun _ => ⟨h1, h2⟩⟩
  | 19 => obtain ⟨q, h1, h2⟩ := text_19 hts hs; exact ⟨q, fun _ => ⟨h1, h2⟩⟩
  | 20 => obtain ⟨q, h1, h2⟩ := text_20 hts hs; exact ⟨q, fun _ => ⟨h1, h2⟩⟩
  | n + 21 => exact ⟨0, fun h => absurd h (by omega)⟩
theorem sstr_at : ∀ k, k < 21 → sstr[k]? = some (sstr.getD k []) ∧ (sstr.getD k []).length < 2 ^ 31 ∧ ∀ j, j < (sstr.getD k []).length → (sstr.getD k []).getD j 0 &&& 255 = (sstr.getD k []).getD j 0 := by
  have h1 : (List.range 21).all (fun k => decide (sstr[k]? = some (sstr.getD k [])) && (decide ((sstr.getD k []).length < 2 ^ 31) && (List.range (sstr.getD k []).length).all (fun j => decide ((sstr.getD k []).getD j 0 &&& 255 = (sstr.getD k []).getD j 0)))) = true := by decide +kernel
  intro k hk
  have h2 := List.all_eq_true.mp h1 k (List.mem_range.mpr hk)
  simp only [Bool.and_eq_true, decide_eq_true_eq] at h2
  exact ⟨h2.1, h2.2.1, fun j hj => of_decide_eq_true (List.all_eq_true.mp h2.2.2 j (List.mem_range.mpr hj))⟩
theorem SS0_at : ∀ q ∈ SS0, ∃ k, k < 21 ∧ q = ((SN0.getD k ("", 0, "")).1, (SN0.getD k ("", 0, "")).2.1, (SN0.getD k ("", 0, "")).2.2, 8 + k) := by
  intro q hq
  simp only [SS0, List.mem_cons, List.not_mem_nil, or_false] at hq
  rcases hq with rfl | rfl | rfl | rfl | rfl | rfl | rfl | rfl | rfl | rfl | rfl | rfl | rfl | rfl | rfl | rfl | rfl | rfl | rfl | rfl | rfl
  · exact ⟨0, by decide, rfl⟩
  · exact ⟨1, by decide, rfl⟩
  · exact ⟨2, by decide, rfl⟩
  · exact ⟨3, by decide, rfl⟩
  · exact ⟨4, by decide, rfl⟩
  · exact ⟨5, by decide, rfl⟩
  · exact ⟨6, by decide, rfl⟩
  · exact ⟨7, by decide, rfl⟩
  · exact ⟨8, by decide, rfl⟩
  · exact ⟨9, by decide, rfl⟩
  · exact ⟨10, by decide, rfl⟩
  · exact ⟨11, by decide, rfl⟩
  · exact ⟨12, by decide, rfl⟩
  · exact ⟨13, by decide, rfl⟩
  · exact ⟨14, by decide, rfl⟩
  · exact ⟨15, by decide, rfl⟩
  · exact ⟨16, by decide, rfl⟩
  · exact ⟨17, by decide, rfl⟩
  · exact ⟨18, by decide, rfl⟩
  · exact ⟨19, by decide, rfl⟩
  · exact ⟨20, by decide, rfl⟩
