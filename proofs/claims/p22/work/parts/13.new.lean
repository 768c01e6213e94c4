/-! New cells, constants, a static, two calls of the library: a step of the small machine is a step of the machine. -/
section SO
variable {p : Program} {l : Launch} {e : Env} {R : Room} {s : State} {m : MethodId} {args : Array Value} {below : List Frame} {meth : Method} {c : Code} {Q : State → Prop}
variable {D : va_G} {cl : List vw_C} {dA : Nat → ClassId} {pre : Nat → Nat} {base : Nat} {ρ : Nat → Int32} {tyL : List FieldType} {Ts : List Cond} {G : GI} {cc : ByteArray} {own : String} {nL : Nat} {iv : List (Int × Int)}
variable {M pc nx x y : Nat} {ls : ML} {st : List Value} {h : MH} {cells slots : Nat} {z : Nat × ML × List Value × MH × Nat × Nat}
theorem mSz1 {H H1 : Heap} {locs : List Loc} {g : JFrame} {n : Nat} (hZ : s.heap.size + cells = H.size) (k : H1.size ≤ H.size + 1 → W p l e R s m args below meth c H1 locs (cells + 1) n Q g) : W p l e R s m args below meth c H1 locs (cells + 1) n Q g := by
  intro T hT X
  have h1 := X.heapSize
  rw [hT] at h1
  exact k (by omega) T hT X
/-- where a new cell lies: behind all -/
theorem mNew {H H1 : Heap} {q : Nat} {w : va_E} {ex : ME} (hR : mR D cl dA pre base ρ h H) (hP : va_P D cl (mws dA pre base ρ h ++ [(q, w)]) H1) (hD : va_D (fun q => base ≤ q) (mws dA pre base ρ h ++ [(q, w)])) (hle : H1.size ≤ H.size + 1) (hw : w = emE dA pre base ρ ex) :
    q = mad pre base h.1 ∧ H1.size = H.size + 1 ∧ mR D cl dA pre base ρ (mpush h ex) H1 := by
  have hlen : List.length (mws dA pre base ρ h) = h.2.length := by simp [mws]
  have hl : (mws dA pre base ρ h ++ [(q, w)])[h.2.length]? = some (q, w) := by
    rw [List.getElem?_append_right (by omega), hlen, Nat.sub_self]
    rfl
  have h1 : q < H1.size := (hP _ _ hl).lt
  have h2 : base ≤ q := hD.2 _ _ hl
  have h3 : ¬ q < base + h.2.length := fun hlt => by
    have h4 : (mws dA pre base ρ h ++ [(q, w)])[q - base]? = some (base + (q - base), ((mws dA pre base ρ h)[q - base]'(by omega)).2) := by
      rw [List.getElem?_append_left (by omega), List.getElem?_eq_getElem (by omega)]
      have h5 := mws_at (dA := dA) (pre := pre) (base := base) (ρ := ρ) h (q - base)
      rw [List.getElem?_eq_getElem (show q - base < List.length (mws dA pre base ρ h) by omega)] at h5
      obtain ⟨e1, -, h6⟩ := Option.map_eq_some_iff.mp h5.symm
      rw [← h6]
    have h7 := hD.1 _ _ _ _ h4 hl (by simp only; omega)
    omega
  have hs := hR.2.2
  have hq : q = base + h.2.length := by omega
  refine ⟨?_, by omega, ?_⟩
  · unfold mad
    rw [hR.1, if_neg (by omega)]
    omega
  · refine ⟨by have := hR.1; simp only [mpush, List.length_cons]; omega, ?_, by simp only [mpush, List.length_cons]; omega⟩
    rw [mws_push, ← hq, ← hw]
    exact hP
theorem so_newI  (X : mCx p s m args c D cl dA pre base ρ tyL Ts G cc own nL) (hd : decode cc pc = .ok (.newarray .int, 2)) (hnx : nx = pc + 2) (harr : Cond.arrayClass .int ∈ Ts) (hty : tyL[x]? = some .int) (hc : cells + z.2.2.2.2.1 ≤ R.cells) (hn : slots + z.2.2.2.2.2 ≤ R.slots) (hz : stepI iv G M pc (.newarray .int) nx x y ls st h = some (.inl z)) (kk : mGo p l e R s m args below meth c Q D cl dA pre base ρ nL z.1 z.2.1 z.2.2.1 z.2.2.2.1 (cells + z.2.2.2.2.1) (slots + z.2.2.2.2.2)) : mGo p l e R s m args below meth c Q D cl dA pre base ρ nL pc ls st h cells slots := by
  obtain ⟨k, r, rfl, hz1⟩ := s1i_ok hz
  clear hz
  obtain ⟨hv, hz2⟩ := if_ok hz1
  simp only [Bool.and_eq_true, decide_eq_true_eq] at hv
  cases hz2
  subst hnx
  intro lsA H locs hL hR hS hZ
  refine va_newa (atype := .int) (ty := .int) (a0 := (k.toNatClampNeg, .inl (fun _ => 0))) X.1 X.2.1 (X.2.2.2.2.1 _ harr) rfl X.2.2.2.2.2.1 hR.2.1 (mws_D h) (mS_rf hS) (fun q hq => by have := hR.2.2; show base ≤ q; omega) (fun cA => rfl) (Int32.not_lt.mpr hv.1) rfl (by simp only [componentBytes]; omega) hc hn hd (fun q cA H1 gK g1 g2 g3 => ?_)
  refine mSz1 hZ fun hle => ?_
  have hcA : cA = dA x := by
    have q1 := (gK.2 (mty dA tyL).length (cA, .int) (by simp)).2
    have q2 := (X.2.2.2.2.2.1.2 x (dA x, .int) (mty_at hty)).2
    simp only [va_RA] at q1 q2
    exact Option.some.inj (q1.symm.trans q2)
  subst hcA
  obtain ⟨f1, f2, f3⟩ := mNew (ex := .inl (x, k.toNatClampNeg, .inl [])) hR g1 g2 hle rfl
  subst f1
  exact kk lsA H1 locs hL f3 (mS_tr hS g3) (by show s.heap.size + (cells + 1) = H1.size; omega)
theorem so_newB  (X : mCx p s m args c D cl dA pre base ρ tyL Ts G cc own nL) (hd : decode cc pc = .ok (.newarray .byte, 2)) (hnx : nx = pc + 2) (harr : Cond.arrayClass .byte ∈ Ts) (hty : tyL[x]? = some .byte) (hc : cells + z.2.2.2.2.1 ≤ R.cells) (hn : slots + z.2.2.2.2.2 ≤ R.slots) (hz : stepI iv G M pc (.newarray .byte) nx x y ls st h = some (.inl z)) (kk : mGo p l e R s m args below meth c Q D cl dA pre base ρ nL z.1 z.2.1 z.2.2.1 z.2.2.2.1 (cells + z.2.2.2.2.1) (slots + z.2.2.2.2.2)) : mGo p l e R s m args below meth c Q D cl dA pre base ρ nL pc ls st h cells slots := by
  obtain ⟨k, r, rfl, hz1⟩ := s1i_ok hz
  clear hz
  obtain ⟨hv, hz2⟩ := if_ok hz1
  simp only [Bool.and_eq_true, decide_eq_true_eq] at hv
  cases hz2
  subst hnx
  intro lsA H locs hL hR hS hZ
  refine va_newa (atype := .byte) (ty := .byte) (a0 := (k.toNatClampNeg, .inl (fun _ => 0))) X.1 X.2.1 (X.2.2.2.2.1 _ harr) rfl X.2.2.2.2.2.1 hR.2.1 (mws_D h) (mS_rf hS) (fun q hq => by have := hR.2.2; show base ≤ q; omega) (fun cA => rfl) (Int32.not_lt.mpr hv.1) rfl (by simp only [componentBytes]; omega) hc hn hd (fun q cA H1 gK g1 g2 g3 => ?_)
  refine mSz1 hZ fun hle => ?_
  have hcA : cA = dA x := by
    have q1 := (gK.2 (mty dA tyL).length (cA, .byte) (by simp)).2
    have q2 := (X.2.2.2.2.2.1.2 x (dA x, .byte) (mty_at hty)).2
    simp only [va_RA] at q1 q2
    exact Option.some.inj (q1.symm.trans q2)
  subst hcA
  obtain ⟨f1, f2, f3⟩ := mNew (ex := .inl (x, k.toNatClampNeg, .inl [])) hR g1 g2 hle rfl
  subst f1
  exact kk lsA H1 locs hL f3 (mS_tr hS g3) (by show s.heap.size + (cells + 1) = H1.size; omega)
theorem so_newZ  (X : mCx p s m args c D cl dA pre base ρ tyL Ts G cc own nL) (hd : decode cc pc = .ok (.newarray .boolean, 2)) (hnx : nx = pc + 2) (harr : Cond.arrayClass .boolean ∈ Ts) (hty : tyL[x]? = some .boolean) (hc : cells + z.2.2.2.2.1 ≤ R.cells) (hn : slots + z.2.2.2.2.2 ≤ R.slots) (hz : stepI iv G M pc (.newarray .boolean) nx x y ls st h = some (.inl z)) (kk : mGo p l e R s m args below meth c Q D cl dA pre base ρ nL z.1 z.2.1 z.2.2.1 z.2.2.2.1 (cells + z.2.2.2.2.1) (slots + z.2.2.2.2.2)) : mGo p l e R s m args below meth c Q D cl dA pre base ρ nL pc ls st h cells slots := by
  obtain ⟨k, r, rfl, hz1⟩ := s1i_ok hz
  clear hz
  obtain ⟨hv, hz2⟩ := if_ok hz1
  simp only [Bool.and_eq_true, decide_eq_true_eq] at hv
  cases hz2
  subst hnx
  intro lsA H locs hL hR hS hZ
  refine va_newa (atype := .boolean) (ty := .boolean) (a0 := (k.toNatClampNeg, .inl (fun _ => 0))) X.1 X.2.1 (X.2.2.2.2.1 _ harr) rfl X.2.2.2.2.2.1 hR.2.1 (mws_D h) (mS_rf hS) (fun q hq => by have := hR.2.2; show base ≤ q; omega) (fun cA => rfl) (Int32.not_lt.mpr hv.1) rfl (by simp only [componentBytes]; omega) hc hn hd (fun q cA H1 gK g1 g2 g3 => ?_)
  refine mSz1 hZ fun hle => ?_
  have hcA : cA = dA x := by
    have q1 := (gK.2 (mty dA tyL).length (cA, .boolean) (by simp)).2
    have q2 := (X.2.2.2.2.2.1.2 x (dA x, .boolean) (mty_at hty)).2
    simp only [va_RA] at q1 q2
    exact Option.some.inj (q1.symm.trans q2)
  subst hcA
  obtain ⟨f1, f2, f3⟩ := mNew (ex := .inl (x, k.toNatClampNeg, .inl [])) hR g1 g2 hle rfl
  subst f1
  exact kk lsA H1 locs hL f3 (mS_tr hS g3) (by show s.heap.size + (cells + 1) = H1.size; omega)
theorem so_anewarray {idx : Nat} {C : String} (X : mCx p s m args c D cl dA pre base ρ tyL Ts G cc own nL) (hd : decode cc pc = .ok (.anewarray idx, 3)) (hnx : nx = pc + 3) (hcl : Cond.classLink own idx C ∈ Ts) (hover : va_AO C s) (hty : tyL[x]? = some (.object C)) (hc : cells + z.2.2.2.2.1 ≤ R.cells) (hn : slots + z.2.2.2.2.2 ≤ R.slots) (hz : stepI iv G M pc (.anewarray idx) nx x y ls st h = some (.inl z)) (kk : mGo p l e R s m args below meth c Q D cl dA pre base ρ nL z.1 z.2.1 z.2.2.1 z.2.2.2.1 (cells + z.2.2.2.2.1) (slots + z.2.2.2.2.2)) : mGo p l e R s m args below meth c Q D cl dA pre base ρ nL pc ls st h cells slots := by
  obtain ⟨k, r, rfl, hz1⟩ := s1i_ok hz
  clear hz
  obtain ⟨hv, hz2⟩ := if_ok hz1
  simp only [Bool.and_eq_true, decide_eq_true_eq] at hv
  cases hz2
  subst hnx
  intro lsA H locs hL hR hS hZ
  refine va_newq (C := C) X.1 X.2.1 X.2.2.2.1 (X.2.2.2.2.1 _ hcl) hover X.2.2.2.2.2.1 hR.2.1 (mws_D h) (mS_rf hS) (fun q hq => by have := hR.2.2; show base ≤ q; omega) (Int32.not_lt.mpr hv.1) rfl (by omega) hc hn hd (fun q cA H1 gK g1 g2 g3 => ?_)
  refine mSz1 hZ fun hle => ?_
  have hcA : cA = dA x := by
    obtain ⟨_, _, -, -, -, q1⟩ := (gK.2 (mty dA tyL).length (cA, .object C) (by simp)).2
    obtain ⟨_, _, -, -, -, q2⟩ := (X.2.2.2.2.2.1.2 x (dA x, .object C) (mty_at hty)).2
    exact Option.some.inj (q1.symm.trans q2)
  subst hcA
  obtain ⟨f1, f2, f3⟩ := mNew (ex := .inl (x, k.toNatClampNeg, .inr [])) hR g1 g2 hle rfl
  subst f1
  exact kk lsA H1 locs hL f3 (mS_tr hS g3) (by show s.heap.size + (cells + 1) = H1.size; omega)
theorem so_new {idx N : Nat} {C : String} {T : u_T} (X : mCx p s m args c D cl dA pre base ρ tyL Ts G cc own nL) (hd : decode cc pc = .ok (.new idx, 3)) (hnx : nx = pc + 3) (hk : mKl cl Ts G x C T N) (hcl : Cond.classLink own idx C ∈ Ts) (hc : cells + z.2.2.2.2.1 ≤ R.cells) (hn : slots + z.2.2.2.2.2 ≤ R.slots) (hz : stepI iv G M pc (.new idx) nx x y ls st h = some (.inl z)) (kk : mGo p l e R s m args below meth c Q D cl dA pre base ρ nL z.1 z.2.1 z.2.2.1 z.2.2.2.1 (cells + z.2.2.2.2.1) (slots + z.2.2.2.2.2)) : mGo p l e R s m args below meth c Q D cl dA pre base ρ nL pc ls st h cells slots := by
  cases hz
  subst hnx
  intro lsA H locs hL hR hS hZ
  have hmap : (G.2.2.2.1 x).map (emv pre base ρ) = G.2.2.2.1 x := by
    have q : (G.2.2.2.1 x).map (emv pre base ρ) = (G.2.2.2.1 x).map id := List.map_congr_left (fun v hv => emv_nr (hk.2.2.2.2.2.2.1 v hv))
    rw [q, List.map_id]
  refine va_new (C := C) (T := T) (N := N) (ci := x) (fs := G.2.2.2.1 x) X.1 X.2.1 X.2.2.2.2.1 hk.2.1 (G.2.2.2.2.1 x) (fun k q => (hk.2.2.1 k q).2) X.2.2.2.1 (X.2.2.2.2.1 _ hcl) (X.2.2.2.2.1 _ hk.2.2.2.2.2.2.2.1) (X.2.2.2.2.1 _ hk.2.2.2.2.2.2.2.2) X.2.2.2.2.2.1 hR.2.1 (mws_D h) (mS_rf hS) (fun q hq => by have := hR.2.2; show base ≤ q; omega) hk.1 hk.2.2.2.2.2.1 hc (by rw [← hk.2.2.2.2.1]; exact hn) hd (fun q H1 g1 g2 g3 => ?_)
  rw [← hk.2.2.2.2.1]
  refine mSz1 hZ fun hle => ?_
  obtain ⟨f1, f2, f3⟩ := mNew (ex := .inr (x, G.2.2.2.1 x)) hR g1 g2 hle (by simp only [emE, hmap])
  subst f1
  exact kk lsA H1 locs hL f3 (mS_tr hS g3) (by show s.heap.size + (cells + 1) = H1.size; omega)
theorem so_ldc {idx : Nat} (X : mCx p s m args c D cl dA pre base ρ tyL Ts G cc own nL) (hd : decode cc pc = .ok (.ldc idx, 2)) (hnx : nx = pc + 2) (hy : y = 0) (hk : Cond.constant own idx (Int32.ofNat x) ∈ Ts) (hz : stepI iv G M pc (.ldc idx) nx x y ls st h = some (.inl z)) (kk : mGo p l e R s m args below meth c Q D cl dA pre base ρ nL z.1 z.2.1 z.2.2.1 z.2.2.2.1 (cells + z.2.2.2.2.1) (slots + z.2.2.2.2.2)) : mGo p l e R s m args below meth c Q D cl dA pre base ρ nL pc ls st h cells slots := by
  obtain ⟨-, hz1⟩ : y = 0 ∧ okk nx ls (.int (Int32.ofNat x) :: st) h = some (.inl z) := ⟨hy, by have q : stepI iv G M pc (.ldc idx) nx x y ls st h = (if y = 0 then okk nx ls (.int (Int32.ofNat x) :: st) h else okk nx ls (.ref x :: st) h) := rfl; rw [q, if_pos hy] at hz; exact hz⟩
  cases okk_ok hz1
  subst hnx
  intro lsA H locs hL hR hS hZ
  exact lv_ldc X.1 X.2.1 X.2.2.2.1 (X.2.2.2.2.1 _ hk) hd (kk lsA H locs hL hR hS hZ)
theorem so_ldcS {idx : Nat} {tx : String} (X : mCx p s m args c D cl dA pre base ρ tyL Ts G cc own nL) (hd : decode cc pc = .ok (.ldc idx, 2)) (hnx : nx = pc + 2) (hy : y = 1) (hx8 : x < 64) (hv : vk_R own idx tx (pre x) s) (hz : stepI iv G M pc (.ldc idx) nx x y ls st h = some (.inl z)) (kk : mGo p l e R s m args below meth c Q D cl dA pre base ρ nL z.1 z.2.1 z.2.2.1 z.2.2.2.1 (cells + z.2.2.2.2.1) (slots + z.2.2.2.2.2)) : mGo p l e R s m args below meth c Q D cl dA pre base ρ nL pc ls st h cells slots := by
  have q : stepI iv G M pc (.ldc idx) nx x y ls st h = (if y = 0 then okk nx ls (.int (Int32.ofNat x) :: st) h else okk nx ls (.ref x :: st) h) := rfl
  rw [q, if_neg (by rw [hy]; decide)] at hz
  clear q
  cases okk_ok hz
  subst hnx
  intro lsA H locs hL hR hS hZ
  have hm : mad pre base x = pre x := by unfold mad; rw [if_pos hx8]
  have k2 := kk lsA H locs hL hR hS hZ
  rw [List.map_cons, show emv pre base ρ (.ref x) = .ref (pre x) from congrArg Value.ref hm] at k2
  exact va_ldcS X.1 X.2.1 X.2.2.2.1 hv hd k2
theorem so_ldc_w {idx : Nat} (X : mCx p s m args c D cl dA pre base ρ tyL Ts G cc own nL) (hd : decode cc pc = .ok (.ldc_w idx, 3)) (hnx : nx = pc + 3) (hy : y = 0) (hk : Cond.constant own idx (Int32.ofNat x) ∈ Ts) (hz : stepI iv G M pc (.ldc_w idx) nx x y ls st h = some (.inl z)) (kk : mGo p l e R s m args below meth c Q D cl dA pre base ρ nL z.1 z.2.1 z.2.2.1 z.2.2.2.1 (cells + z.2.2.2.2.1) (slots + z.2.2.2.2.2)) : mGo p l e R s m args below meth c Q D cl dA pre base ρ nL pc ls st h cells slots := by
  obtain ⟨-, hz1⟩ : y = 0 ∧ okk nx ls (.int (Int32.ofNat x) :: st) h = some (.inl z) := ⟨hy, by have q : stepI iv G M pc (.ldc_w idx) nx x y ls st h = (if y = 0 then okk nx ls (.int (Int32.ofNat x) :: st) h else okk nx ls (.ref x :: st) h) := rfl; rw [q, if_pos hy] at hz; exact hz⟩
  cases okk_ok hz1
  subst hnx
  intro lsA H locs hL hR hS hZ
  exact lv_ldcw X.1 X.2.1 X.2.2.2.1 (X.2.2.2.2.1 _ hk) hd (kk lsA H locs hL hR hS hZ)
theorem so_ldc_wS {idx : Nat} {tx : String} (X : mCx p s m args c D cl dA pre base ρ tyL Ts G cc own nL) (hd : decode cc pc = .ok (.ldc_w idx, 3)) (hnx : nx = pc + 3) (hy : y = 1) (hx8 : x < 64) (hv : vk_R own idx tx (pre x) s) (hz : stepI iv G M pc (.ldc_w idx) nx x y ls st h = some (.inl z)) (kk : mGo p l e R s m args below meth c Q D cl dA pre base ρ nL z.1 z.2.1 z.2.2.1 z.2.2.2.1 (cells + z.2.2.2.2.1) (slots + z.2.2.2.2.2)) : mGo p l e R s m args below meth c Q D cl dA pre base ρ nL pc ls st h cells slots := by
  have q : stepI iv G M pc (.ldc_w idx) nx x y ls st h = (if y = 0 then okk nx ls (.int (Int32.ofNat x) :: st) h else okk nx ls (.ref x :: st) h) := rfl
  rw [q, if_neg (by rw [hy]; decide)] at hz
  clear q
  cases okk_ok hz
  subst hnx
  intro lsA H locs hL hR hS hZ
  have hm : mad pre base x = pre x := by unfold mad; rw [if_pos hx8]
  have k2 := kk lsA H locs hL hR hS hZ
  rw [List.map_cons, show emv pre base ρ (.ref x) = .ref (pre x) from congrArg Value.ref hm] at k2
  exact sl_ldcwS X.1 X.2.1 X.2.2.2.1 hv hd k2
theorem so_ldc2_w {idx : Nat} (X : mCx p s m args c D cl dA pre base ρ tyL Ts G cc own nL) (hd : decode cc pc = .ok (.ldc2_w idx, 3)) (hnx : nx = pc + 3) (hk : Cond.constantLong own idx (Int64.ofNat x) ∈ Ts) (hz : stepI iv G M pc (.ldc2_w idx) nx x y ls st h = some (.inl z)) (kk : mGo p l e R s m args below meth c Q D cl dA pre base ρ nL z.1 z.2.1 z.2.2.1 z.2.2.2.1 (cells + z.2.2.2.2.1) (slots + z.2.2.2.2.2)) : mGo p l e R s m args below meth c Q D cl dA pre base ρ nL pc ls st h cells slots := by
  cases okk_ok hz
  subst hnx
  intro lsA H locs hL hR hS hZ
  exact lv_ldc2 X.1 X.2.1 X.2.2.2.1 (X.2.2.2.2.1 _ hk) hd (kk lsA H locs hL hR hS hZ)
theorem so_gets {idx : Nat} {C n d host : String} (X : mCx p s m args c D cl dA pre base ρ tyL Ts G cc own nL) (hd : decode cc pc = .ok (.getstatic idx, 3)) (hnx : nx = pc + 3) (hk : Cond.fieldLink own idx C n d ∈ Ts) (hx8 : x < 64) (hZs : va_Z C n d (.ref (pre x)) (fun q => base ≤ q) s s.heap) (hz : stepI iv G M pc (.getstatic idx) nx x y ls st h = some (.inl z)) (kk : mGo p l e R s m args below meth c Q D cl dA pre base ρ nL z.1 z.2.1 z.2.2.1 z.2.2.2.1 (cells + z.2.2.2.2.1) (slots + z.2.2.2.2.2)) : mGo p l e R s m args below meth c Q D cl dA pre base ρ nL pc ls st h cells slots := by
  cases okk_ok hz
  subst hnx
  intro lsA H locs hL hR hS hZ
  have hm : mad pre base x = pre x := by unfold mad; rw [if_pos hx8]
  have k2 := kk lsA H locs hL hR hS hZ
  rw [List.map_cons, show emv pre base ρ (.ref x) = .ref (pre x) from congrArg Value.ref hm] at k2
  exact va_gets X.1 X.2.1 hZs hS X.2.2.2.1 (X.2.2.2.2.1 _ hk) (fun q hq => hq) hd k2
theorem so_getsN {idx : Nat} {C n d host : String} (X : mCx p s m args c D cl dA pre base ρ tyL Ts G cc own nL) (hd : decode cc pc = .ok (.getstatic idx, 3)) (hnx : nx = pc + 3) (hk : va_Nw (Cond.fieldLinkNest own idx C n d host) s) (hx8 : x < 64) (hZs : va_Z C n d (.ref (pre x)) (fun q => base ≤ q) s s.heap) (hz : stepI iv G M pc (.getstatic idx) nx x y ls st h = some (.inl z)) (kk : mGo p l e R s m args below meth c Q D cl dA pre base ρ nL z.1 z.2.1 z.2.2.1 z.2.2.2.1 (cells + z.2.2.2.2.1) (slots + z.2.2.2.2.2)) : mGo p l e R s m args below meth c Q D cl dA pre base ρ nL pc ls st h cells slots := by
  cases okk_ok hz
  subst hnx
  intro lsA H locs hL hR hS hZ
  have hm : mad pre base x = pre x := by unfold mad; rw [if_pos hx8]
  have k2 := kk lsA H locs hL hR hS hZ
  rw [List.map_cons, show emv pre base ρ (.ref x) = .ref (pre x) from congrArg Value.ref hm] at k2
  exact va_getsN X.1 X.2.1 hZs hS X.2.2.2.1 (hk.use rfl) (fun q hq => hq) hd k2
theorem mwid_map (pre : Nat → Nat) (base : Nat) (ρ : Nat → Int32) (r : List Value) : ((r.map (emv pre base ρ)).map fun v => v.category).sum = mwid r := by
  unfold mwid
  rw [List.map_map]
  congr 1
  apply List.map_congr_left
  intro v _
  exact emv_cat pre base ρ v
theorem so_objInit {idx : Nat} (X : mCx p s m args c D cl dA pre base ρ tyL Ts G cc own nL) (hd : decode cc pc = .ok (.invokespecial idx, 3)) (hnx : nx = pc + 3) (hx : x = 0) (h1 : Cond.methodLink own idx Lib.objectInit ∈ Ts) (h2 : Cond.instanceMethod Lib.objectInit ∈ Ts) (h3 : Cond.code Lib.objectInit ⟨#[0xb1]⟩ 1 none ∈ Ts) (hRf : 1 ≤ R.frames) (hRl : 20 ≤ R.locals) (hz : stepI iv G M pc (.invokespecial idx) nx x y ls st h = some (.inl z)) (kk : mGo p l e R s m args below meth c Q D cl dA pre base ρ nL z.1 z.2.1 z.2.2.1 z.2.2.2.1 (cells + z.2.2.2.2.1) (slots + z.2.2.2.2.2)) : mGo p l e R s m args below meth c Q D cl dA pre base ρ nL pc ls st h cells slots := by
  have q : stepI iv G M pc (.invokespecial idx) nx x y ls st h = (s1r st fun _ r => if mwid r ≤ 8 then okk nx ls r h else none) := by show (if x = 0 then _ else _) = _; rw [if_pos hx]
  rw [q] at hz
  clear q
  obtain ⟨a, r, rfl, hz1⟩ := s1r_ok hz
  clear hz
  obtain ⟨hw, hz2⟩ := if_ok hz1
  cases okk_ok hz2
  subst hnx
  intro lsA H locs hL hR hS hZ
  have hm := mwid_map pre base ρ r
  exact W.objInit X.1 X.2.1 X.2.2.2.1 (X.2.2.2.2.1 _ h1) (X.2.2.2.2.1 _ h2) (X.2.2.2.2.1 _ h3) rfl (by rw [X.2.2.1]; exact hL.1) rfl hd hRf (by show 2 * 0 + _ + 12 ≤ _; omega) (kk lsA H locs hL hR hS hZ)
theorem so_mmin {idx : Nat} (X : mCx p s m args c D cl dA pre base ρ tyL Ts G cc own nL) (hd : decode cc pc = .ok (.invokestatic idx, 3)) (hnx : nx = pc + 3) (hx : x = 9000) (h1 : Cond.methodLink own idx Lib.Math.min.name ∈ Ts) (h2 : Cond.static Lib.Math.min.name ∈ Ts) (h3 : Cond.initialized "java/lang/Math" ∈ Ts) (h4 : Cond.code Lib.Math.min.name Lib.Math.min.code 2 (some .int) ∈ Ts) (hRf : 1 ≤ R.frames) (hRl : 21 ≤ R.locals) (hc : cells + z.2.2.2.2.1 ≤ R.cells) (hn : slots + z.2.2.2.2.2 ≤ R.slots) (hz : stepI iv G M pc (.invokestatic idx) nx x y ls st h = some (.inl z)) (kk : mGo p l e R s m args below meth c Q D cl dA pre base ρ nL z.1 z.2.1 z.2.2.1 z.2.2.2.1 (cells + z.2.2.2.2.1) (slots + z.2.2.2.2.2)) : mGo p l e R s m args below meth c Q D cl dA pre base ρ nL pc ls st h cells slots := by
  have q : stepI iv G M pc (.invokestatic idx) nx x y ls st h = (s2i st fun a b r => if mwid r ≤ 8 then okk nx ls (.int (if b < a then b else a) :: r) h else none) := by show (if x = 9000 then _ else _) = _; rw [if_pos hx]
  rw [q] at hz
  clear q
  obtain ⟨a, b, r, rfl, hz1⟩ := s2i_ok hz
  clear hz
  obtain ⟨hw, hz2⟩ := if_ok hz1
  cases okk_ok hz2
  subst hnx
  intro lsA H locs hL hR hS hZ
  have hm := mwid_map pre base ρ r
  exact va_mmin X.1 X.2.1 (by rw [X.2.2.1]; exact hL.1.symm) X.2.2.2.1 (X.2.2.2.2.1 _ h1) (X.2.2.2.2.1 _ h2) (X.2.2.2.2.1 _ h3) (X.2.2.2.2.1 _ h4) hRf (by omega) hc hn hd (kk lsA H locs hL hR hS hZ)
end SO
