/-! Fields, rows, new cells: a step of the small machine is a step of the machine. -/
def mKl (cl : List vw_C) (Ts : List Cond) (G : GI) (x : Nat) (C : String) (T : u_T) (N : Nat) : Prop :=
  cl[x]? = some (C, T, N) ∧ (∀ w ∈ u_ws C T N, w ∈ Ts) ∧ (∀ k, k < N → (T k).1 = C ∧ parseFieldDescriptor (T k).2.2.1 = some (G.2.2.2.2.1 x k)) ∧ (∀ a, a < N → ∀ b, b < N → a ≠ b → (T a).2.1 ≠ (T b).2.1) ∧
  (G.2.2.2.1 x).length = N ∧ (∀ j, j < N → defaultValue (G.2.2.2.2.1 x j) = vp_V (G.2.2.2.1 x) j) ∧ (∀ v ∈ G.2.2.2.1 x, (∀ a, v ≠ .ref a) ∧ ∀ j, v ≠ .retAddr j) ∧ Cond.instantiable C N ∈ Ts ∧ Cond.initialized C ∈ Ts
theorem mR_put {D : va_G} {cl : List vw_C} {dA : Nat → ClassId} {pre : Nat → Nat} {base : Nat} {ρ : Nat → Int32} {h : MH} {H H1 : Heap} (hR : mR D cl dA pre base ρ h H) {a : Nat} {e0 e : ME} (hg : mget h a = some e0) (hP : va_P D cl ((mws dA pre base ρ h).set (a - 64) (mad pre base a, emE dA pre base ρ e)) H1) (z : H1.size = H.size) : mR D cl dA pre base ρ (mput h a e) H1 := by
  refine ⟨mput_ok hR.1 a e, by rw [mws_put hR.1 hg]; exact hP, ?_⟩
  rw [z, hR.2.2]
  simp [mput]
theorem emv_nr {pre : Nat → Nat} {base : Nat} {ρ : Nat → Int32} {v : Value} (h : (∀ a, v ≠ .ref a) ∧ ∀ j, v ≠ .retAddr j) : emv pre base ρ v = v := by
  cases v with
  | ref a => exact absurd rfl (h.1 a)
  | retAddr j => exact absurd rfl (h.2 j)
  | _ => rfl
section SO
variable {p : Program} {l : Launch} {e : Env} {R : Room} {s : State} {m : MethodId} {args : Array Value} {below : List Frame} {meth : Method} {c : Code} {Q : State → Prop}
variable {D : va_G} {cl : List vw_C} {dA : Nat → ClassId} {pre : Nat → Nat} {base : Nat} {ρ : Nat → Int32} {tyL : List FieldType} {Ts : List Cond} {G : GI} {cc : ByteArray} {own : String} {nL : Nat} {iv : List (Int × Int)}
variable {M pc nx x y : Nat} {ls : ML} {st : List Value} {h : MH} {cells slots : Nat} {z : Nat × ML × List Value × MH × Nat × Nat}
/-- behind a row that changes a cell: the heap is as large as before, by what the machine counts -/
theorem mSz {H H1 : Heap} {locs : List Loc} {g : JFrame} (hZ : s.heap.size + cells = H.size) (hle : H.size ≤ H1.size) (k : H1.size = H.size → W p l e R s m args below meth c H1 locs cells slots Q g) : W p l e R s m args below meth c H1 locs cells slots Q g := by
  intro T hT X
  have h1 := X.heapSize
  rw [hT] at h1
  exact k (by omega) T hT X
/-- what isn't ours stays, told from where we are -/
theorem mS_tr {A : Nat → Prop} {H0 H H1 : Heap} {locs locs1 : List Loc} (h : va_S A H0 H locs) (h1 : va_S A H H1 locs1) : va_S A H0 H1 locs1 :=
  ⟨Nat.le_trans h.1 h1.1, fun q a b => (h1.2.1 q (Nat.lt_of_lt_of_le a h.1) b).trans (h.2.1 q a b), h1.2.2⟩
theorem mS_rf {A : Nat → Prop} {H0 H : Heap} {locs : List Loc} (h : va_S A H0 H locs) : va_S A H H locs := ⟨Nat.le_refl _, fun _ _ _ => rfl, h.2.2⟩
theorem so_getfield {idx N : Nat} {C : String} {T : u_T} (X : mCx p s m args c D cl dA pre base ρ tyL Ts G cc own nL) (hd : decode cc pc = .ok (.getfield idx, 3)) (hnx : nx = pc + 3) (hk : mKl cl Ts G x C T N) (hy : y < N) (hlink : Cond.fieldLink own idx C (T y).2.1 (T y).2.2.1 ∈ Ts) (hz : stepI iv G M pc (.getfield idx) nx x y ls st h = some (.inl z)) (kk : mGo p l e R s m args below meth c Q D cl dA pre base ρ nL z.1 z.2.1 z.2.2.1 z.2.2.2.1 (cells + z.2.2.2.2.1) (slots + z.2.2.2.2.2)) : mGo p l e R s m args below meth c Q D cl dA pre base ρ nL pc ls st h cells slots := by
  obtain ⟨a, r, rfl, hz1⟩ := s1r_ok hz
  clear hz
  cases hg : mget h a with
  | none => rw [hg] at hz1; cases hz1
  | some w =>
    rw [hg] at hz1
    rcases w with w | ⟨ci, fs⟩
    · cases hz1
    · obtain ⟨hc, hz2⟩ := if_ok hz1
      subst hc
      cases hv : fs[y]? with
      | none => rw [hv] at hz2; cases hz2
      | some v =>
        rw [hv] at hz2
        cases okk_ok hz2
        subst hnx
        intro lsA H locs hL hR hS hZ
        exact va_get X.1 X.2.1 X.2.2.2.2.1 hk.2.1 X.2.2.2.1 X.2.2.2.2.2.1 hR.2.1 (a - 64) (mws_get hR.1 hg) hk.1 y hy (X.2.2.2.2.1 _ hlink) (fun q hq => by rw [(hk.2.2.1 y hy).1] at hq; exact hq) (v := emv pre base ρ v) (by rw [List.getElem?_map, hv]; rfl) hd (kk lsA H locs hL hR hS hZ)
theorem so_putfield {idx N : Nat} {C : String} {T : u_T} (X : mCx p s m args c D cl dA pre base ρ tyL Ts G cc own nL) (hd : decode cc pc = .ok (.putfield idx, 3)) (hnx : nx = pc + 3) (hk : mKl cl Ts G x C T N) (hy : y < N) (hlink : Cond.fieldLink own idx C (T y).2.1 (T y).2.2.1 ∈ Ts) (hfin : (T y).2.2.2 = false ∨ ((T y).2.2.2 = true ∧ meth.name = "<init>" ∧ C = own)) (hz : stepI iv G M pc (.putfield idx) nx x y ls st h = some (.inl z)) (kk : mGo p l e R s m args below meth c Q D cl dA pre base ρ nL z.1 z.2.1 z.2.2.1 z.2.2.2.1 (cells + z.2.2.2.2.1) (slots + z.2.2.2.2.2)) : mGo p l e R s m args below meth c Q D cl dA pre base ρ nL pc ls st h cells slots := by
  obtain ⟨v, r1, rfl, hz1⟩ := s1_ok hz
  obtain ⟨a, r, rfl, hz2⟩ := s1r_ok hz1
  clear hz hz1
  cases hg : mget h a with
  | none => rw [hg] at hz2; cases hz2
  | some w =>
    rw [hg] at hz2
    rcases w with w | ⟨ci, fs⟩
    · cases hz2
    · obtain ⟨hc, hz3⟩ := if_ok hz2
      simp only [Bool.and_eq_true, decide_eq_true_eq] at hc
      obtain ⟨⟨hci, hfit⟩, hlt⟩ := hc
      subst hci
      cases okk_ok hz3
      subst hnx
      intro lsA H locs hL hR hS hZ
      obtain ⟨hn, hf⟩ := fitB_ok (pre := pre) (base := base) (ρ := ρ) hfit
      have hSH := mS_rf hS
      have fin : ∀ (H1 : Heap) (locs1 : List Loc), va_P D cl ((mws dA pre base ρ h).set (a - 64) (mad pre base a, .inr (ci, (fs.map (emv pre base ρ)).set y (emv pre base ρ v)))) H1 → va_D (fun q => base ≤ q) ((mws dA pre base ρ h).set (a - 64) (mad pre base a, .inr (ci, (fs.map (emv pre base ρ)).set y (emv pre base ρ v)))) → va_S (fun q => base ≤ q) H H1 locs1 → W p l e R s m args below meth c H1 locs1 cells slots Q (F0 m (pc + 3) lsA (r.map (emv pre base ρ))) := fun H1 locs1 g1 g2 g3 => mSz hZ g3.1 fun z => kk lsA H1 locs1 hL (mR_put hR hg (by rw [show emE dA pre base ρ (.inr (ci, fs.set y v)) = .inr (ci, (fs.map (emv pre base ρ)).set y (emv pre base ρ v)) from congrArg (fun q => Sum.inr (ci, q)) List.map_set]; exact g1) z) (mS_tr hS g3) (by rw [z]; exact hZ)
      rcases hfin with hfin | ⟨hfin, hin2, hown2⟩
      · exact va_put X.1 X.2.1 X.2.2.2.2.1 hk.2.1 (G.2.2.2.2.1 ci) (fun k q => (hk.2.2.1 k q).2) hk.2.2.2.1 X.2.2.2.1 X.2.2.2.2.2.1 hR.2.1 (mws_D h) hSH (a - 64) (mws_get hR.1 hg) hk.1 y hy (X.2.2.2.2.1 _ hlink) (fun q hq => by rw [(hk.2.2.1 y hy).1] at hq; exact hq) hfin (hk.2.2.1 y hy).2 hn hf (by rw [List.length_map]; exact hlt) hd fin
      · exact va_putF X.1 X.2.1 X.2.2.2.2.1 hk.2.1 (G.2.2.2.2.1 ci) (fun k q => (hk.2.2.1 k q).2) hk.2.2.2.1 X.2.2.2.1 X.2.2.2.2.2.1 hR.2.1 (mws_D h) hSH (a - 64) (mws_get hR.1 hg) hk.1 y hy (X.2.2.2.2.1 _ hlink) (fun q hq => by rw [(hk.2.2.1 y hy).1] at hq; exact hq) hfin hin2 ((hk.2.2.1 y hy).1.trans hown2) (hk.2.2.1 y hy).2 hn hf (by rw [List.length_map]; exact hlt) hd fin
theorem irow_ok {iv : List (Int × Int)} {G : GI} {h : MH} {a t n : Nat} {f : Nat → Value} (e : irow iv G h a t = some (n, f)) : (a < 8 ∧ t = 0 ∧ ∃ g : Nat → Int32, G.2.2.1 a = some (n, g) ∧ f = fun j => if a = 0 then symv iv j else .int (g j)) ∨ (∃ g, mget h a = some (.inl (t, n, .inl g)) ∧ f = rdI g) := by
  unfold irow at e
  by_cases h8 : a < 8
  · rw [if_pos h8] at e
    obtain ⟨h1, h2⟩ := if_ok e
    cases hg : G.2.2.1 a with
    | none => rw [hg] at h2; cases h2
    | some w =>
      rw [hg] at h2
      cases h2
      exact Or.inl ⟨h8, h1, w.2, rfl, rfl⟩
  · rw [if_neg h8] at e
    cases hg : mget h a with
    | none => rw [hg] at e; cases e
    | some w =>
      rw [hg] at e
      rcases w with ⟨ti, n', f' | f'⟩ | w
      · obtain ⟨h1, h2⟩ := if_ok e
        subst h1
        cases h2
        exact Or.inr ⟨_, rfl, rfl⟩
      · cases e
      · cases e
theorem ext_em {pre : Nat → Nat} {base : Nat} {ρ : Nat → Int32} {iv : List (Int × Int)} (hI : ivP ρ iv) (a j : Nat) (g : Nat → Int32) : emv pre base ρ (if a = 0 then symv iv j else .int (g j)) = .int (if a = 0 then ρ j else g j) := by
  by_cases h : a = 0
  · rw [if_pos h, if_pos h, isI_em (by unfold symv; cases iv[j]? with
      | none => rfl
      | some p => obtain ⟨u, w⟩ := p; simp only; split <;> rfl), symv_ok hI]
  · rw [if_neg h, if_neg h]
    rfl
theorem so_iaload  (X : mCx p s m args c D cl dA pre base ρ tyL Ts G cc own nL) (hd : decode cc pc = .ok (.iaload, 1)) (hnx : nx = pc + 1) (hI : ivP ρ iv) (hty : tyL[0]? = some .int) (hz : stepI iv G M pc (.iaload) nx x y ls st h = some (.inl z)) (kk : mGo p l e R s m args below meth c Q D cl dA pre base ρ nL z.1 z.2.1 z.2.2.1 z.2.2.2.1 (cells + z.2.2.2.2.1) (slots + z.2.2.2.2.2)) : mGo p l e R s m args below meth c Q D cl dA pre base ρ nL pc ls st h cells slots := by
  obtain ⟨i, r1, rfl, hz1⟩ := s1i_ok hz
  obtain ⟨a, r, rfl, hz2⟩ := s1r_ok hz1
  clear hz hz1
  cases hg : irow iv G h a 0 with
  | none => rw [hg] at hz2; cases hz2
  | some w =>
    obtain ⟨n, f⟩ := w
    rw [hg] at hz2
    obtain ⟨hv, hz3⟩ := if_ok hz2
    simp only [Bool.and_eq_true] at hv
    cases okk_ok hz3
    subst hnx
    intro lsA H locs hL hR hS hZ
    have k2 := kk lsA H locs hL hR hS hZ
    rcases irow_ok hg with ⟨h8, -, g, he, rfl⟩ | ⟨g, hg2, rfl⟩
    · have g1 := X.2.2.2.2.2.2.2 a n g he h8
      have hm : mad pre base a = pre a := by unfold mad; rw [if_pos (Nat.lt_of_lt_of_le h8 (by decide))]
      rw [List.map_cons, ext_em hI] at k2
      show W _ _ _ _ _ _ _ _ _ _ _ _ _ _ _ (F0 m pc lsA (.int i :: .ref (mad pre base a) :: r.map (emv pre base ρ)))
      rw [hm]
      exact va_ti X.1 X.2.1 g1 hS (vin_ok hv.1) rfl hd k2
    · rw [List.map_cons, isI_em hv.2] at k2
      exact va_iald X.1 X.2.1 X.2.2.2.2.2.1 hR.2.1 (a - 64) 0 (mws_get hR.1 hg2) (mty_at hty) (vin_ok hv.1) hd k2
theorem so_bald  (X : mCx p s m args c D cl dA pre base ρ tyL Ts G cc own nL) (hd : decode cc pc = .ok (.baload, 1)) (hnx : nx = pc + 1) (hx0 : ¬ x = 0) (hty : tyL[x]? = some .byte) (hz : stepI iv G M pc (.baload) nx x y ls st h = some (.inl z)) (kk : mGo p l e R s m args below meth c Q D cl dA pre base ρ nL z.1 z.2.1 z.2.2.1 z.2.2.2.1 (cells + z.2.2.2.2.1) (slots + z.2.2.2.2.2)) : mGo p l e R s m args below meth c Q D cl dA pre base ρ nL pc ls st h cells slots := by
  obtain ⟨i, r1, rfl, hz1⟩ := s1i_ok hz
  obtain ⟨a, r, rfl, hz2⟩ := s1r_ok hz1
  clear hz hz1
  cases hg : irow iv G h a x with
  | none => rw [hg] at hz2; cases hz2
  | some w =>
    obtain ⟨n, f⟩ := w
    rw [hg] at hz2
    obtain ⟨hv, hz3⟩ := if_ok hz2
    simp only [Bool.and_eq_true] at hv
    cases okk_ok hz3
    subst hnx
    intro lsA H locs hL hR hS hZ
    have k2 := kk lsA H locs hL hR hS hZ
    rcases irow_ok hg with ⟨-, h0, -⟩ | ⟨g, hg2, rfl⟩
    · exact absurd h0 hx0
    · rw [List.map_cons, isI_em hv.2] at k2
      exact va_bald X.1 X.2.1 X.2.2.2.2.2.1 hR.2.1 (a - 64) x (mws_get hR.1 hg2) (mty_at hty) (vin_ok hv.1) hd k2
theorem so_zald  (X : mCx p s m args c D cl dA pre base ρ tyL Ts G cc own nL) (hd : decode cc pc = .ok (.baload, 1)) (hnx : nx = pc + 1) (hx0 : ¬ x = 0) (hty : tyL[x]? = some .boolean) (hz : stepI iv G M pc (.baload) nx x y ls st h = some (.inl z)) (kk : mGo p l e R s m args below meth c Q D cl dA pre base ρ nL z.1 z.2.1 z.2.2.1 z.2.2.2.1 (cells + z.2.2.2.2.1) (slots + z.2.2.2.2.2)) : mGo p l e R s m args below meth c Q D cl dA pre base ρ nL pc ls st h cells slots := by
  obtain ⟨i, r1, rfl, hz1⟩ := s1i_ok hz
  obtain ⟨a, r, rfl, hz2⟩ := s1r_ok hz1
  clear hz hz1
  cases hg : irow iv G h a x with
  | none => rw [hg] at hz2; cases hz2
  | some w =>
    obtain ⟨n, f⟩ := w
    rw [hg] at hz2
    obtain ⟨hv, hz3⟩ := if_ok hz2
    simp only [Bool.and_eq_true] at hv
    cases okk_ok hz3
    subst hnx
    intro lsA H locs hL hR hS hZ
    have k2 := kk lsA H locs hL hR hS hZ
    rcases irow_ok hg with ⟨-, h0, -⟩ | ⟨g, hg2, rfl⟩
    · exact absurd h0 hx0
    · rw [List.map_cons, isI_em hv.2] at k2
      exact va_zald X.1 X.2.1 X.2.2.2.2.2.1 hR.2.1 (a - 64) x (mws_get hR.1 hg2) (mty_at hty) (vin_ok hv.1) hd k2
def mTL (tyL : List FieldType) : Prop := tyL[0]? = some .int ∧ tyL[1]? = some .byte ∧ tyL[2]? = some .boolean ∧ ∀ ti, 3 ≤ ti → ti < 8 → ∃ C, tyL[ti]? = some (.object C)
theorem mTL_at {tyL : List FieldType} (h : mTL tyL) {ti : Nat} (h8 : ti < 8) : ∃ ty, tyL[ti]? = some ty := by
  by_cases h3 : 3 ≤ ti
  · obtain ⟨C, hC⟩ := h.2.2.2 ti h3 h8
    exact ⟨_, hC⟩
  · rcases (show ti = 0 ∨ ti = 1 ∨ ti = 2 by omega) with rfl | rfl | rfl
    · exact ⟨_, h.1⟩
    · exact ⟨_, h.2.1⟩
    · exact ⟨_, h.2.2.1⟩
theorem so_aaload  (X : mCx p s m args c D cl dA pre base ρ tyL Ts G cc own nL) (hd : decode cc pc = .ok (.aaload, 1)) (hnx : nx = pc + 1) (hTL : mTL tyL) (hz : stepI iv G M pc (.aaload) nx x y ls st h = some (.inl z)) (kk : mGo p l e R s m args below meth c Q D cl dA pre base ρ nL z.1 z.2.1 z.2.2.1 z.2.2.2.1 (cells + z.2.2.2.2.1) (slots + z.2.2.2.2.2)) : mGo p l e R s m args below meth c Q D cl dA pre base ρ nL pc ls st h cells slots := by
  obtain ⟨i, r1, rfl, hz1⟩ := s1i_ok hz
  obtain ⟨a, r, rfl, hz2⟩ := s1r_ok hz1
  clear hz hz1
  cases hg : mget h a with
  | none => rw [hg] at hz2; cases hz2
  | some w =>
    rw [hg] at hz2
    rcases w with ⟨ti, n, f | f⟩ | w
    · cases hz2
    · obtain ⟨hv, hz3⟩ := if_ok hz2
      simp only [Bool.and_eq_true, decide_eq_true_eq] at hv
      cases okk_ok hz3
      subst hnx
      intro lsA H locs hL hR hS hZ
      have he := mws_get (dA := dA) (pre := pre) (base := base) (ρ := ρ) hR.1 hg
      have k2 := kk lsA H locs hL hR hS hZ
      obtain ⟨C, hC⟩ := hTL.2.2.2 ti hv.2.1 hv.2.2
      refine va_aldq X.1 X.2.1 X.2.2.2.2.2.1 hR.2.1 (a - 64) ti he (mty_at hC) (vin_ok hv.1) hd ?_
      rw [show va_rf (((fun j => (rdQ f j).map (mad pre base)) : Nat → Option Nat) i.toNatClampNeg) = emv pre base ρ (va_rf (rdQ f i.toNatClampNeg)) from by simp only; cases rdQ f i.toNatClampNeg <;> rfl]
      exact k2
    · cases hz2
theorem so_arraylength  (X : mCx p s m args c D cl dA pre base ρ tyL Ts G cc own nL) (hd : decode cc pc = .ok (.arraylength, 1)) (hnx : nx = pc + 1) (hTL : mTL tyL) (hz : stepI iv G M pc (.arraylength) nx x y ls st h = some (.inl z)) (kk : mGo p l e R s m args below meth c Q D cl dA pre base ρ nL z.1 z.2.1 z.2.2.1 z.2.2.2.1 (cells + z.2.2.2.2.1) (slots + z.2.2.2.2.2)) : mGo p l e R s m args below meth c Q D cl dA pre base ρ nL pc ls st h cells slots := by
  obtain ⟨a, r, rfl, hz1⟩ := s1r_ok hz
  clear hz
  by_cases h8 : a < 8
  · rw [if_pos h8] at hz1
    cases he : G.2.2.1 a with
    | none => rw [he] at hz1; cases hz1
    | some w =>
      obtain ⟨n, f⟩ := w
      rw [he] at hz1
      cases okk_ok hz1
      subst hnx
      intro lsA H locs hL hR hS hZ
      have g1 := X.2.2.2.2.2.2.2 a n f he h8
      have hm : mad pre base a = pre a := by unfold mad; rw [if_pos (Nat.lt_of_lt_of_le h8 (by decide))]
      show W _ _ _ _ _ _ _ _ _ _ _ _ _ _ _ (F0 m pc lsA (.ref (mad pre base a) :: r.map (emv pre base ρ)))
      rw [hm]
      exact va_tlen X.1 X.2.1 g1 hS rfl hd (kk lsA H locs hL hR hS hZ)
  · rw [if_neg h8] at hz1
    cases hg : mget h a with
    | none => rw [hg] at hz1; cases hz1
    | some w =>
      rw [hg] at hz1
      rcases w with ⟨ti, n, f⟩ | w
      · obtain ⟨hv, hz3⟩ := if_ok hz1
        cases okk_ok hz3
        subst hnx
        intro lsA H locs hL hR hS hZ
        obtain ⟨ty, hty⟩ := mTL_at hTL hv
        exact va_alen X.1 X.2.1 X.2.2.2.2.2.1 hR.2.1 (a - 64) ti (mws_get hR.1 hg) (mty_at hty) rfl hd (kk lsA H locs hL hR hS hZ)
      · cases hz1
theorem so_iastore  (X : mCx p s m args c D cl dA pre base ρ tyL Ts G cc own nL) (hd : decode cc pc = .ok (.iastore, 1)) (hnx : nx = pc + 1) (hTL : mTL tyL) (hz : stepI iv G M pc (.iastore) nx x y ls st h = some (.inl z)) (kk : mGo p l e R s m args below meth c Q D cl dA pre base ρ nL z.1 z.2.1 z.2.2.1 z.2.2.2.1 (cells + z.2.2.2.2.1) (slots + z.2.2.2.2.2)) : mGo p l e R s m args below meth c Q D cl dA pre base ρ nL pc ls st h cells slots := by
  obtain ⟨v, r1, rfl, hvI, hz1⟩ := s1n_ok hz
  obtain ⟨i, r2, rfl, hz2⟩ := s1i_ok hz1
  obtain ⟨a, r, rfl, hz3⟩ := s1r_ok hz2
  clear hz hz1 hz2
  cases hg : mget h a with
  | none => rw [hg] at hz3; cases hz3
  | some w =>
    rw [hg] at hz3
    rcases w with ⟨ti, n, f | f⟩ | w
    · obtain ⟨hv, hz4⟩ := if_ok hz3
      simp only [Bool.and_eq_true, decide_eq_true_eq] at hv
      obtain ⟨h0, hv⟩ := hv
      subst h0
      cases okk_ok hz4
      subst hnx
      intro lsA H locs hL hR hS hZ
      have hSH := mS_rf hS
      rw [List.map_cons, isI_em hvI]
      exact va_iast X.1 X.2.1 X.2.2.2.2.2.1 hR.2.1 (mws_D h) hSH (a - 64) 0 (mws_get hR.1 hg) (mty_at hTL.1) (vin_ok hv) hd (fun H1 locs1 g1 g2 g3 => mSz hZ g3.1 fun z => kk lsA H1 locs1 hL (mR_put hR hg (by simp only [emE, emA, rdI_up]; exact g1) z) (mS_tr hS g3) (by rw [z]; exact hZ))
    · cases hz3
    · cases hz3
theorem so_bast  (X : mCx p s m args c D cl dA pre base ρ tyL Ts G cc own nL) (hd : decode cc pc = .ok (.bastore, 1)) (hnx : nx = pc + 1) (hTL : mTL tyL) (hx : x = 1) (hz : stepI iv G M pc (.bastore) nx x y ls st h = some (.inl z)) (kk : mGo p l e R s m args below meth c Q D cl dA pre base ρ nL z.1 z.2.1 z.2.2.1 z.2.2.2.1 (cells + z.2.2.2.2.1) (slots + z.2.2.2.2.2)) : mGo p l e R s m args below meth c Q D cl dA pre base ρ nL pc ls st h cells slots := by
  obtain ⟨v, r1, rfl, hz1⟩ := s1i_ok hz
  obtain ⟨i, r2, rfl, hz2⟩ := s1i_ok hz1
  obtain ⟨a, r, rfl, hz3⟩ := s1r_ok hz2
  clear hz hz1 hz2
  subst hx
  cases hg : mget h a with
  | none => rw [hg] at hz3; cases hz3
  | some w =>
    rw [hg] at hz3
    rcases w with ⟨ti, n, f | f⟩ | w
    · obtain ⟨hv, hz4⟩ := if_ok hz3
      simp only [Bool.and_eq_true, decide_eq_true_eq] at hv
      obtain ⟨h0, hv⟩ := hv
      subst h0
      rw [if_pos rfl] at hz4
      cases okk_ok hz4
      subst hnx
      intro lsA H locs hL hR hS hZ
      have hSH := mS_rf hS
      exact va_bast X.1 X.2.1 X.2.2.2.2.2.1 hR.2.1 (mws_D h) hSH (a - 64) 1 (mws_get hR.1 hg) (mty_at hTL.2.1) (vin_ok hv) hd (fun H1 locs1 g1 g2 g3 => mSz hZ g3.1 fun z => kk lsA H1 locs1 hL (mR_put hR hg (by simp only [emE, emA, rdI_up]; exact g1) z) (mS_tr hS g3) (by rw [z]; exact hZ))
    · cases hz3
    · cases hz3
theorem so_zast  (X : mCx p s m args c D cl dA pre base ρ tyL Ts G cc own nL) (hd : decode cc pc = .ok (.bastore, 1)) (hnx : nx = pc + 1) (hTL : mTL tyL) (hx : x = 2) (hz : stepI iv G M pc (.bastore) nx x y ls st h = some (.inl z)) (kk : mGo p l e R s m args below meth c Q D cl dA pre base ρ nL z.1 z.2.1 z.2.2.1 z.2.2.2.1 (cells + z.2.2.2.2.1) (slots + z.2.2.2.2.2)) : mGo p l e R s m args below meth c Q D cl dA pre base ρ nL pc ls st h cells slots := by
  obtain ⟨v, r1, rfl, hz1⟩ := s1i_ok hz
  obtain ⟨i, r2, rfl, hz2⟩ := s1i_ok hz1
  obtain ⟨a, r, rfl, hz3⟩ := s1r_ok hz2
  clear hz hz1 hz2
  subst hx
  cases hg : mget h a with
  | none => rw [hg] at hz3; cases hz3
  | some w =>
    rw [hg] at hz3
    rcases w with ⟨ti, n, f | f⟩ | w
    · obtain ⟨hv, hz4⟩ := if_ok hz3
      simp only [Bool.and_eq_true, decide_eq_true_eq] at hv
      obtain ⟨h0, hv⟩ := hv
      subst h0
      rw [if_neg (by decide), if_pos rfl] at hz4
      cases okk_ok hz4
      subst hnx
      intro lsA H locs hL hR hS hZ
      have hSH := mS_rf hS
      exact va_zast X.1 X.2.1 X.2.2.2.2.2.1 hR.2.1 (mws_D h) hSH (a - 64) 2 (mws_get hR.1 hg) (mty_at hTL.2.2.1) (vin_ok hv) hd (fun H1 locs1 g1 g2 g3 => mSz hZ g3.1 fun z => kk lsA H1 locs1 hL (mR_put hR hg (by simp only [emE, emA, rdI_up]; exact g1) z) (mS_tr hS g3) (by rw [z]; exact hZ))
    · cases hz3
    · cases hz3
theorem so_aastore {N : Nat} {C : String} {T : u_T} (X : mCx p s m args c D cl dA pre base ρ tyL Ts G cc own nL) (hd : decode cc pc = .ok (.aastore, 1)) (hnx : nx = pc + 1) (hC : tyL[x]? = some (.object C)) (hcl : cl[y]? = some (C, T, N)) (hz : stepI iv G M pc (.aastore) nx x y ls st h = some (.inl z)) (kk : mGo p l e R s m args below meth c Q D cl dA pre base ρ nL z.1 z.2.1 z.2.2.1 z.2.2.2.1 (cells + z.2.2.2.2.1) (slots + z.2.2.2.2.2)) : mGo p l e R s m args below meth c Q D cl dA pre base ρ nL pc ls st h cells slots := by
  obtain ⟨v, r1, rfl, hz1⟩ := s1_ok hz
  obtain ⟨i, r2, rfl, hz2⟩ := s1i_ok hz1
  obtain ⟨a, r, rfl, hz3⟩ := s1r_ok hz2
  clear hz hz1 hz2
  cases hg : mget h a with
  | none => rw [hg] at hz3; cases hz3
  | some w =>
    rw [hg] at hz3
    rcases w with ⟨ti, n, f | f⟩ | w
    · cases hz3
    · obtain ⟨hv, hz4⟩ := if_ok hz3
      simp only [Bool.and_eq_true, decide_eq_true_eq] at hv
      obtain ⟨hv, h0⟩ := hv
      subst h0
      cases v with
      | null =>
        cases okk_ok hz4
        subst hnx
        intro lsA H locs hL hR hS hZ
        have hSH := mS_rf hS
        refine va_astqN X.1 X.2.1 X.2.2.2.2.2.1 hR.2.1 (mws_D h) hSH (a - 64) ti (mws_get hR.1 hg) (mty_at hC) (vin_ok hv) hd (fun H1 locs1 g1 g2 g3 => mSz hZ g3.1 fun z => kk lsA H1 locs1 hL (mR_put hR hg ?_ z) (mS_tr hS g3) (by rw [z]; exact hZ))
        have g4 := rdQ_up pre base ρ f i.toNatClampNeg none
        simp only [Option.map_none] at g4
        simp only [emE, emA, g4]
        exact g1
      | ref b =>
        simp only at hz4
        cases hgb : mget h b with
        | none => rw [hgb] at hz4; cases hz4
        | some wb =>
          rw [hgb] at hz4
          rcases wb with wb | ⟨ci, fs⟩
          · cases hz4
          · obtain ⟨hci, hz5⟩ := if_ok hz4
            subst hci
            cases okk_ok hz5
            subst hnx
            intro lsA H locs hL hR hS hZ
            have hSH := mS_rf hS
            refine va_astq X.1 X.2.1 X.2.2.2.2.2.1 hR.2.1 (mws_D h) hSH (a - 64) ti (b - 64) ci (r := (C, T, N)) (mws_get hR.1 hg) (mty_at hC) (mws_get hR.1 hgb) hcl (vin_ok hv) hd (fun H1 locs1 g1 g2 g3 => mSz hZ g3.1 fun z => kk lsA H1 locs1 hL (mR_put hR hg ?_ z) (mS_tr hS g3) (by rw [z]; exact hZ))
            have g4 := rdQ_up pre base ρ f i.toNatClampNeg (some b)
            simp only [Option.map_some] at g4
            simp only [emE, emA, g4]
            exact g1
      | _ => cases hz4
    · cases hz3
end SO
