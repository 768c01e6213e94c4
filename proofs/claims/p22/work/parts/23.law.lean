/-! The law's run: from the claim's start to a run of the small machine. -/
theorem hE0 {L : Nat} {xs : Nat → Int32} (M pc : Nat) (i : Instr) (nx x y : Nat) (h : (mG L xs).1 M pc = some (i, nx, x, y)) (hk : ¬ ikd i = 4) : EOK Ts0 NW0 cl0 tyL0 (mG L xs) YB0 M pc i nx x y := by
  have h1 : (match l2 cds M with
    | some t => l2 t pc
    | none => none) = some (i, nx, x, y) := h
  cases ht : l2 cds M with
  | none => rw [ht] at h1; cases h1
  | some t =>
    rw [ht] at h1
    exact chkE_ok words0_ok (chkT_at (cds_at ht) h1) hk
theorem NW0_of {s : State} {args : Array Value} (hts : ∀ w ∈ lw_tbl, w.before args s = true) : ∀ w ∈ NW0, va_Nw w s := by
  intro w hw
  have h := hts _ (NW0_in w hw)
  rcases NW0_nst w hw with ⟨a, i, b, n, d, hh, rfl⟩ | ⟨a, i, x, hh, rfl⟩ | ⟨C, rfl⟩
  · exact va_Nw.of rfl h
  · exact va_Nw.of rfl h
  · exact va_AO.of h
theorem cls_of {s : State} {args : Array Value} (hts : ∀ w ∈ Ts0, w.before args s = true) : ∃ D : va_G, ∀ (k : Nat) (q : vw_C), cl0[k]? = some q → u_Kn s q.1 q.2.1 q.2.2 (D.1 k) (D.2 k) := by
  have h1 : ∀ k : Nat, ∃ w : ClassId × (Nat → Nat), ∀ q : vw_C, cl0[k]? = some q → u_Kn s q.1 q.2.1 q.2.2 w.1 w.2 := by
    intro k
    cases hk : cl0[k]? with
    | none => exact ⟨(0, fun _ => 0), fun q h => by cases h⟩
    | some q =>
      obtain ⟨C, T, N⟩ := q
      have hkl := kl_all (L := 0) (xs := fun _ => 0) k C T N hk
      obtain ⟨cC, iS, h⟩ := u_known hts hkl.2.1 (hts _ hkl.2.2.2.2.2.2.2.1)
      exact ⟨(cC, iS), fun q hq => by cases hq; exact h⟩
  exact ⟨(fun k => (Classical.choose (h1 k)).1, fun k => (Classical.choose (h1 k)).2), fun k q hq => Classical.choose_spec (h1 k) q hq⟩
theorem prim_of {s : State} {args : Array Value} {ty : FieldType} (hnot : ∀ C, ty ≠ .object C) (h : (Cond.arrayClass ty).before args s = true) : ∃ cA : ClassId, ArrOfT s cA ty ∧ va_RA s cA ty := by
  obtain ⟨c, k, comp, h1, h2, h3⟩ := Cond.arrayClass_spec h
  refine ⟨c, fun n z => ⟨fun k h => (by cases h), k, h2, comp, h3⟩, ?_⟩
  cases ty with
  | object C => exact absurd rfl (hnot C)
  | _ => exact h1
theorem obj_of {s : State} {C : String} (h : va_Nw (.arrayOver (.object C)) s) : ∃ cA : ClassId, ArrOfT s cA (.object C) ∧ va_RA s cA (.object C) := by
  obtain ⟨comp, c, k, h1, -, h2, h3, h4⟩ := Cond.arrayOver_spec (show (Cond.arrayOver (.object C)).before #[] s = true from h)
  exact ⟨c, fun n z => ⟨fun k h => (by cases h), k, h2, comp, h3⟩, k, comp, h2, h3, h1, h4⟩
theorem tys_of {s : State} {args : Array Value} (hts : ∀ w ∈ Ts0, w.before args s = true) (hnw : ∀ w ∈ NW0, va_Nw w s) : ∃ dA : Nat → ClassId, ∀ (k : Nat) (ty : FieldType), tyL0[k]? = some ty → ArrOfT s (dA k) ty ∧ va_RA s (dA k) ty := by
  have h1 : ∀ k : Nat, ∃ cA : ClassId, ∀ ty : FieldType, tyL0[k]? = some ty → ArrOfT s cA ty ∧ va_RA s cA ty := by
    intro k
    cases hk : tyL0[k]? with
    | none => exact ⟨0, fun q h => by cases h⟩
    | some t =>
      have key : ∃ cA : ClassId, ArrOfT s cA t ∧ va_RA s cA t := by
        match k, hk with
        | 0, hk => cases hk; exact prim_of (fun C h => by cases h) (hts _ words0_ok.2.2.2.2.2.1)
        | 1, hk => cases hk; exact prim_of (fun C h => by cases h) (hts _ words0_ok.2.2.2.2.2.2.1)
        | 2, hk => cases hk; exact prim_of (fun C h => by cases h) (hts _ words0_ok.2.2.2.2.2.2.2.1)
        | 3, hk => cases hk; exact obj_of (hnw _ (any_in (P := fun w => decide (w = .arrayOver (.object "HoleDesk$Node"))) (fun v hv => of_decide_eq_true hv) (by decide +kernel)))
        | 4, hk => cases hk; exact obj_of (hnw _ (any_in (P := fun w => decide (w = .arrayOver (.object "HoleDesk$Snapshot"))) (fun v hv => of_decide_eq_true hv) (by decide +kernel)))
        | 5, hk => cases hk; exact obj_of (hnw _ (any_in (P := fun w => decide (w = .arrayOver (.object "HoleDesk$Copy"))) (fun v hv => of_decide_eq_true hv) (by decide +kernel)))
        | 6, hk => cases hk; exact obj_of (hnw _ (any_in (P := fun w => decide (w = .arrayOver (.object "HoleDesk$Value"))) (fun v hv => of_decide_eq_true hv) (by decide +kernel)))
        | 7, hk => cases hk; exact obj_of (hnw _ (any_in (P := fun w => decide (w = .arrayOver (.object "HoleDesk$Seen"))) (fun v hv => of_decide_eq_true hv) (by decide +kernel)))
        | _ + 8, hk => cases hk
      obtain ⟨cA, h⟩ := key
      exact ⟨cA, fun ty hq => by cases hq; exact h⟩
  exact ⟨fun k => Classical.choose (h1 k), fun k ty hq => Classical.choose_spec (h1 k) ty hq⟩
theorem parts_of {s : State} {args : Array Value} (hts : ∀ w ∈ lw_tbl, w.before args s = true) (hgv : (Jvm.Cond.and given_1 narrow_1).before args s = true) : ∃ t : Nat, va_T .int t 16 (fun j => .int (partsA.getD j 0)) (fun q => s.heap.size ≤ q) s s.heap ∧ va_Z "HoleDesk" "PARTS" "[I" (.ref t) (fun q => s.heap.size ≤ q) s s.heap := by
  have hs := flat_of_before _ hgv
  have hA : ∀ a : Nat, a < s.heap.size → ¬ s.heap.size ≤ a := fun a h => Nat.not_le.mpr h
  obtain ⟨t, h1, h2⟩ := va_Tof (args := args) (s := s) (tm := .static "HoleDesk" "PARTS" "[I") (ty := .int) (N := 16) (f := fun j => .int (partsA.getD j 0)) (A := fun q => s.heap.size ≤ q) (by decide) (hs _ (by decide +kernel)) (va_eqt (hs (Cond.eq (.length (.static "HoleDesk" "PARTS" "[I")) (.int 16)) (by decide +kernel))) (fun j hj => by
    rcases (show j = 0 ∨ j = 1 ∨ j = 2 ∨ j = 3 ∨ j = 4 ∨ j = 5 ∨ j = 6 ∨ j = 7 ∨ j = 8 ∨ j = 9 ∨ j = 10 ∨ j = 11 ∨ j = 12 ∨ j = 13 ∨ j = 14 ∨ j = 15 by omega) with rfl | rfl | rfl | rfl | rfl | rfl | rfl | rfl | rfl | rfl | rfl | rfl | rfl | rfl | rfl | rfl
    · exact va_eqt (hs (Cond.eq (.elem (.static "HoleDesk" "PARTS" "[I") (.int 0)) (.int 0)) (by decide +kernel))
    · exact va_eqt (hs (Cond.eq (.elem (.static "HoleDesk" "PARTS" "[I") (.int 1)) (.int 0)) (by decide +kernel))
    · exact va_eqt (hs (Cond.eq (.elem (.static "HoleDesk" "PARTS" "[I") (.int 2)) (.int 0)) (by decide +kernel))
    · exact va_eqt (hs (Cond.eq (.elem (.static "HoleDesk" "PARTS" "[I") (.int 3)) (.int 0)) (by decide +kernel))
    · exact va_eqt (hs (Cond.eq (.elem (.static "HoleDesk" "PARTS" "[I") (.int 4)) (.int 2)) (by decide +kernel))
    · exact va_eqt (hs (Cond.eq (.elem (.static "HoleDesk" "PARTS" "[I") (.int 5)) (.int 2)) (by decide +kernel))
    · exact va_eqt (hs (Cond.eq (.elem (.static "HoleDesk" "PARTS" "[I") (.int 6)) (.int 2)) (by decide +kernel))
    · exact va_eqt (hs (Cond.eq (.elem (.static "HoleDesk" "PARTS" "[I") (.int 7)) (.int 2)) (by decide +kernel))
    · exact va_eqt (hs (Cond.eq (.elem (.static "HoleDesk" "PARTS" "[I") (.int 8)) (.int 1)) (by decide +kernel))
    · exact va_eqt (hs (Cond.eq (.elem (.static "HoleDesk" "PARTS" "[I") (.int 9)) (.int 2)) (by decide +kernel))
    · exact va_eqt (hs (Cond.eq (.elem (.static "HoleDesk" "PARTS" "[I") (.int 10)) (.int 2)) (by decide +kernel))
    · exact va_eqt (hs (Cond.eq (.elem (.static "HoleDesk" "PARTS" "[I") (.int 11)) (.int 3)) (by decide +kernel))
    · exact va_eqt (hs (Cond.eq (.elem (.static "HoleDesk" "PARTS" "[I") (.int 12)) (.int 2)) (by decide +kernel))
    · exact va_eqt (hs (Cond.eq (.elem (.static "HoleDesk" "PARTS" "[I") (.int 13)) (.int 1)) (by decide +kernel))
    · exact va_eqt (hs (Cond.eq (.elem (.static "HoleDesk" "PARTS" "[I") (.int 14)) (.int 1)) (by decide +kernel))
    · exact va_eqt (hs (Cond.eq (.elem (.static "HoleDesk" "PARTS" "[I") (.int 15)) (.int 1)) (by decide +kernel))) hA
  exact ⟨t, h2, va_Zof (hts _ parts_lays) (hts _ parts_init) h1 hA⟩
theorem zq_of {s : State} {args : Array Value} (hts : ∀ w ∈ lw_tbl, w.before args s = true) (hgv : (Jvm.Cond.and given_1 narrow_1).before args s = true) : zqS s.heap.size s :=
  va_Zqof (hts _ sioobe_lays) (hts _ precond_init) (flat_of_before _ hgv (Cond.isRef (.static "jdk/internal/util/Preconditions" "SIOOBE_FORMATTER" "Ljava/util/function/BiFunction;")) (by decide +kernel)) (fun a h => Nat.not_le.mpr h)
theorem cs_of {s : State} {args : Array Value} (hts : ∀ w ∈ lw_tbl, w.before args s = true) (hgv : (Jvm.Cond.and given_1 narrow_1).before args s = true) : csF s.heap.size s :=
  va_Zof (hts _ compact_lays) (hts _ string_init) (va_eqt (flat_of_before _ hgv (Cond.eq (.static "java/lang/String" "COMPACT_STRINGS" "Z") (.int 1)) (by decide +kernel))) (fun a h => Nat.not_le.mpr h)
theorem room_le {s : State} {pl : Platform} {r r' : Room} (h : s.hasRoom pl r = true) (h1 : r'.frames ≤ r.frames) (h2 : r'.cells ≤ r.cells) (h3 : r'.slots ≤ r.slots) (h4 : r'.locals ≤ r.locals) : s.hasRoom pl r' = true := by
  simp only [State.hasRoom, Bool.and_eq_true, decide_eq_true_eq] at h ⊢
  obtain ⟨⟨⟨⟨a1, a2, a3, a4, a5, a6⟩, a7⟩, a8⟩, a9⟩ := h
  exact ⟨⟨⟨⟨by omega, by omega, by omega, by omega, by omega, a6⟩, by omega⟩, by omega⟩, a9⟩
