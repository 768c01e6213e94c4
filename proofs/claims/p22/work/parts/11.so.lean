/-! A step of the small machine is a step of the machine. -/
theorem if_ok {α : Type} {c : Prop} {_d : Decidable c} {a : Option α} {z : α} (h : (if c then a else none) = some z) : c ∧ a = some z := by
  by_cases hc : c
  · rw [if_pos hc] at h
    exact ⟨hc, h⟩
  · rw [if_neg hc] at h
    cases h
theorem s1_ok {st : List Value} {k : Value → List Value → Option ST} {z : ST} (h : s1 st k = some z) : ∃ v r, st = v :: r ∧ k v r = some z := by
  cases st with
  | nil => cases h
  | cons v r => exact ⟨v, r, rfl, h⟩
theorem s1i_ok {st : List Value} {k : Int32 → List Value → Option ST} {z : ST} (h : s1i st k = some z) : ∃ a r, st = .int a :: r ∧ k a r = some z := by
  obtain ⟨v, r, rfl, h⟩ := s1_ok h
  cases v with
  | int a => exact ⟨a, r, rfl, h⟩
  | _ => cases h
theorem s1n_ok {st : List Value} {k : Value → List Value → Option ST} {z : ST} (h : s1n st k = some z) : ∃ v r, st = v :: r ∧ isI v = true ∧ k v r = some z := by
  obtain ⟨v, r, rfl, h2⟩ := s1_ok h
  obtain ⟨hv, h3⟩ := if_ok h2
  exact ⟨v, r, rfl, hv, h3⟩
theorem s1l_ok {st : List Value} {k : Int64 → List Value → Option ST} {z : ST} (h : s1l st k = some z) : ∃ a r, st = .long a :: r ∧ k a r = some z := by
  obtain ⟨v, r, rfl, h⟩ := s1_ok h
  cases v with
  | long a => exact ⟨a, r, rfl, h⟩
  | _ => cases h
theorem s1r_ok {st : List Value} {k : Nat → List Value → Option ST} {z : ST} (h : s1r st k = some z) : ∃ a r, st = .ref a :: r ∧ k a r = some z := by
  obtain ⟨v, r, rfl, h⟩ := s1_ok h
  cases v with
  | ref a => exact ⟨a, r, rfl, h⟩
  | _ => cases h
theorem s2i_ok {st : List Value} {k : Int32 → Int32 → List Value → Option ST} {z : ST} (h : s2i st k = some z) : ∃ a b r, st = .int b :: .int a :: r ∧ k a b r = some z := by
  obtain ⟨b, r1, rfl, h1⟩ := s1i_ok h
  obtain ⟨a, r, rfl, h2⟩ := s1i_ok h1
  exact ⟨a, b, r, rfl, h2⟩
theorem s2l_ok {st : List Value} {k : Int64 → Int64 → List Value → Option ST} {z : ST} (h : s2l st k = some z) : ∃ a b r, st = .long b :: .long a :: r ∧ k a b r = some z := by
  obtain ⟨b, r1, rfl, h1⟩ := s1l_ok h
  obtain ⟨a, r, rfl, h2⟩ := s1l_ok h1
  exact ⟨a, b, r, rfl, h2⟩
theorem okk_ok {nx : Nat} {ls : ML} {st : List Value} {h : MH} {z : Nat × ML × List Value × MH × Nat × Nat} (e : okk nx ls st h = some (.inl z)) : z = (nx, ls, st, h, 0, 0) := by
  unfold okk at e
  cases e
  rfl
theorem ifn_ok {α : Type} {c : Prop} {_d : Decidable c} {a : Option α} {z : α} (h : (if c then none else a) = some z) : ¬ c ∧ a = some z := by
  by_cases hc : c
  · rw [if_pos hc] at h
    cases h
  · rw [if_neg hc] at h
    exact ⟨hc, h⟩
def mty (dA : Nat → ClassId) (tyL : List FieldType) : List (ClassId × FieldType) := (List.range tyL.length).map fun k => (dA k, tyL.getD k .int)
theorem mty_at {dA : Nat → ClassId} {tyL : List FieldType} {k : Nat} {ty : FieldType} (h : tyL[k]? = some ty) : (mty dA tyL)[k]? = some (dA k, ty) := by
  unfold mty
  have hk := (List.getElem?_eq_some_iff.mp h).1
  rw [List.getElem?_map, List.getElem?_range hk]
  simp [List.getD, h]
def mCx (p : Program) (s : State) (m : MethodId) (args : Array Value) (c : Code) (D : va_G) (cl : List vw_C) (dA : Nat → ClassId) (pre : Nat → Nat) (base : Nat) (ρ : Nat → Int32) (tyL : List FieldType) (Ts : List Cond) (G : GI) (cc : ByteArray) (own : String) (nL : Nat) : Prop :=
  p.tables.exec = Jvm.exec ∧ c.code = cc ∧ c.maxLocals = nL ∧ s.vm.findClass own = some m.cls ∧ (∀ w ∈ Ts, w.before args s = true) ∧ va_K D cl (mty dA tyL) s ∧ base ≤ s.heap.size ∧ (∀ (a n : Nat) (f : Nat → Int32), G.2.2.1 a = some (n, f) → a < 8 → va_T .int (pre a) n (fun j => .int (if a = 0 then ρ j else f j)) (fun q => base ≤ q) s s.heap)
section SO
variable {p : Program} {l : Launch} {e : Env} {R : Room} {s : State} {m : MethodId} {args : Array Value} {below : List Frame} {meth : Method} {c : Code} {Q : State → Prop}
variable {D : va_G} {cl : List vw_C} {dA : Nat → ClassId} {pre : Nat → Nat} {base : Nat} {ρ : Nat → Int32} {tyL : List FieldType} {Ts : List Cond} {G : GI} {cc : ByteArray} {own : String} {nL : Nat} {iv : List (Int × Int)}
variable {M pc nx x y : Nat} {ls : ML} {st : List Value} {h : MH} {cells slots : Nat} {z : Nat × ML × List Value × MH × Nat × Nat}
def mGo (p : Program) (l : Launch) (e : Env) (R : Room) (s : State) (m : MethodId) (args : Array Value) (below : List Frame) (meth : Method) (c : Code) (Q : State → Prop) (D : va_G) (cl : List vw_C) (dA : Nat → ClassId) (pre : Nat → Nat) (base : Nat) (ρ : Nat → Int32) (nL : Nat)
    (pc : Nat) (ls : ML) (st : List Value) (h : MH) (cells slots : Nat) : Prop := ∀ (lsA : Array Slot) (H : Heap) (locs : List Loc), lv_has lsA nL (emL pre base ρ ls) → mR D cl dA pre base ρ h H → va_S (fun q => base ≤ q) s.heap H locs → s.heap.size + cells = H.size →
      W p l e R s m args below meth c H locs cells slots Q (F0 m pc lsA (st.map (emv pre base ρ)))
theorem so_iconst {n : Int} (X : mCx p s m args c D cl dA pre base ρ tyL Ts G cc own nL) (hd : decode cc pc = .ok (.iconst n, 1)) (hnx : nx = pc + 1) (hz : stepI iv G M pc (.iconst n) nx x y ls st h = some (.inl z)) (kk : mGo p l e R s m args below meth c Q D cl dA pre base ρ nL z.1 z.2.1 z.2.2.1 z.2.2.2.1 (cells + z.2.2.2.2.1) (slots + z.2.2.2.2.2)) : mGo p l e R s m args below meth c Q D cl dA pre base ρ nL pc ls st h cells slots := by
  cases okk_ok hz
  subst hnx
  intro lsA H locs hL hR hS hZ
  exact lv_iconst X.1 X.2.1 hd rfl (kk lsA H locs hL hR hS hZ)
theorem so_bipush {n : Int} (X : mCx p s m args c D cl dA pre base ρ tyL Ts G cc own nL) (hd : decode cc pc = .ok (.bipush n, 2)) (hnx : nx = pc + 2) (hz : stepI iv G M pc (.bipush n) nx x y ls st h = some (.inl z)) (kk : mGo p l e R s m args below meth c Q D cl dA pre base ρ nL z.1 z.2.1 z.2.2.1 z.2.2.2.1 (cells + z.2.2.2.2.1) (slots + z.2.2.2.2.2)) : mGo p l e R s m args below meth c Q D cl dA pre base ρ nL pc ls st h cells slots := by
  cases okk_ok hz
  subst hnx
  intro lsA H locs hL hR hS hZ
  exact lv_bipush X.1 X.2.1 hd rfl (kk lsA H locs hL hR hS hZ)
theorem so_sipush {n : Int} (X : mCx p s m args c D cl dA pre base ρ tyL Ts G cc own nL) (hd : decode cc pc = .ok (.sipush n, 3)) (hnx : nx = pc + 3) (hz : stepI iv G M pc (.sipush n) nx x y ls st h = some (.inl z)) (kk : mGo p l e R s m args below meth c Q D cl dA pre base ρ nL z.1 z.2.1 z.2.2.1 z.2.2.2.1 (cells + z.2.2.2.2.1) (slots + z.2.2.2.2.2)) : mGo p l e R s m args below meth c Q D cl dA pre base ρ nL pc ls st h cells slots := by
  cases okk_ok hz
  subst hnx
  intro lsA H locs hL hR hS hZ
  exact lv_sipush X.1 X.2.1 hd rfl (kk lsA H locs hL hR hS hZ)
theorem so_lconst {n : Fin 2} (X : mCx p s m args c D cl dA pre base ρ tyL Ts G cc own nL) (hd : decode cc pc = .ok (.lconst n, 1)) (hnx : nx = pc + 1) (hz : stepI iv G M pc (.lconst n) nx x y ls st h = some (.inl z)) (kk : mGo p l e R s m args below meth c Q D cl dA pre base ρ nL z.1 z.2.1 z.2.2.1 z.2.2.2.1 (cells + z.2.2.2.2.1) (slots + z.2.2.2.2.2)) : mGo p l e R s m args below meth c Q D cl dA pre base ρ nL pc ls st h cells slots := by
  cases okk_ok hz
  subst hnx
  intro lsA H locs hL hR hS hZ
  exact lv_lconst X.1 X.2.1 hd rfl (kk lsA H locs hL hR hS hZ)
theorem so_null  (X : mCx p s m args c D cl dA pre base ρ tyL Ts G cc own nL) (hd : decode cc pc = .ok (.aconst_null, 1)) (hnx : nx = pc + 1) (hz : stepI iv G M pc (.aconst_null) nx x y ls st h = some (.inl z)) (kk : mGo p l e R s m args below meth c Q D cl dA pre base ρ nL z.1 z.2.1 z.2.2.1 z.2.2.2.1 (cells + z.2.2.2.2.1) (slots + z.2.2.2.2.2)) : mGo p l e R s m args below meth c Q D cl dA pre base ρ nL pc ls st h cells slots := by
  cases okk_ok hz
  subst hnx
  intro lsA H locs hL hR hS hZ
  exact lv_null X.1 X.2.1 hd (kk lsA H locs hL hR hS hZ)
theorem stload_ok {ls : ML} {i nx : Nat} {st : List Value} {h : MH} {ok : Value → Bool} {z : Nat × ML × List Value × MH × Nat × Nat} (e : stload ls i nx st h ok = some (.inl z)) : ∃ v, lkl ls i = some v ∧ ok v = true ∧ z = (nx, ls, v :: st, h, 0, 0) := by
  unfold stload at e
  cases hv : lkl ls i with
  | none => rw [hv] at e; cases e
  | some v =>
    rw [hv] at e
    obtain ⟨h1, h2⟩ := if_ok e
    exact ⟨v, rfl, h1, okk_ok h2⟩
theorem so_iload_n {k : Fin 4} (X : mCx p s m args c D cl dA pre base ρ tyL Ts G cc own nL) (hd : decode cc pc = .ok (.iload_n k, 1)) (hnx : nx = pc + 1) (hz : stepI iv G M pc (.iload_n k) nx x y ls st h = some (.inl z)) (kk : mGo p l e R s m args below meth c Q D cl dA pre base ρ nL z.1 z.2.1 z.2.2.1 z.2.2.2.1 (cells + z.2.2.2.2.1) (slots + z.2.2.2.2.2)) : mGo p l e R s m args below meth c Q D cl dA pre base ρ nL pc ls st h cells slots := by
  obtain ⟨v, hv, hok, rfl⟩ := stload_ok hz
  subst hnx
  intro lsA H locs hL hR hS hZ
  have hv := emL_lk hL hv
  cases v with
  | int a => exact lv_iload_n X.1 X.2.1 hd rfl hv (kk lsA H locs hL hR hS hZ)
  | retAddr j => exact lv_iload_n X.1 X.2.1 hd rfl hv (kk lsA H locs hL hR hS hZ)
  | _ => cases hok
theorem so_iload {k : Nat} (X : mCx p s m args c D cl dA pre base ρ tyL Ts G cc own nL) (hd : decode cc pc = .ok (.iload k, 2)) (hnx : nx = pc + 2) (hz : stepI iv G M pc (.iload k) nx x y ls st h = some (.inl z)) (kk : mGo p l e R s m args below meth c Q D cl dA pre base ρ nL z.1 z.2.1 z.2.2.1 z.2.2.2.1 (cells + z.2.2.2.2.1) (slots + z.2.2.2.2.2)) : mGo p l e R s m args below meth c Q D cl dA pre base ρ nL pc ls st h cells slots := by
  obtain ⟨v, hv, hok, rfl⟩ := stload_ok hz
  subst hnx
  intro lsA H locs hL hR hS hZ
  have hv := emL_lk hL hv
  cases v with
  | int a => exact lv_iload X.1 X.2.1 hd hv (kk lsA H locs hL hR hS hZ)
  | retAddr j => exact lv_iload X.1 X.2.1 hd hv (kk lsA H locs hL hR hS hZ)
  | _ => cases hok
theorem so_lload_n {k : Fin 4} (X : mCx p s m args c D cl dA pre base ρ tyL Ts G cc own nL) (hd : decode cc pc = .ok (.lload_n k, 1)) (hnx : nx = pc + 1) (hz : stepI iv G M pc (.lload_n k) nx x y ls st h = some (.inl z)) (kk : mGo p l e R s m args below meth c Q D cl dA pre base ρ nL z.1 z.2.1 z.2.2.1 z.2.2.2.1 (cells + z.2.2.2.2.1) (slots + z.2.2.2.2.2)) : mGo p l e R s m args below meth c Q D cl dA pre base ρ nL pc ls st h cells slots := by
  obtain ⟨v, hv, hok, rfl⟩ := stload_ok hz
  subst hnx
  intro lsA H locs hL hR hS hZ
  have hv := emL_lk hL hv
  cases v with
  | long a => exact lv_lload_n X.1 X.2.1 hd rfl hv (kk lsA H locs hL hR hS hZ)
  | _ => cases hok
theorem so_lload {k : Nat} (X : mCx p s m args c D cl dA pre base ρ tyL Ts G cc own nL) (hd : decode cc pc = .ok (.lload k, 2)) (hnx : nx = pc + 2) (hz : stepI iv G M pc (.lload k) nx x y ls st h = some (.inl z)) (kk : mGo p l e R s m args below meth c Q D cl dA pre base ρ nL z.1 z.2.1 z.2.2.1 z.2.2.2.1 (cells + z.2.2.2.2.1) (slots + z.2.2.2.2.2)) : mGo p l e R s m args below meth c Q D cl dA pre base ρ nL pc ls st h cells slots := by
  obtain ⟨v, hv, hok, rfl⟩ := stload_ok hz
  subst hnx
  intro lsA H locs hL hR hS hZ
  have hv := emL_lk hL hv
  cases v with
  | long a => exact lv_lload X.1 X.2.1 hd hv (kk lsA H locs hL hR hS hZ)
  | _ => cases hok
theorem so_aload_n {k : Fin 4} (X : mCx p s m args c D cl dA pre base ρ tyL Ts G cc own nL) (hd : decode cc pc = .ok (.aload_n k, 1)) (hnx : nx = pc + 1) (hz : stepI iv G M pc (.aload_n k) nx x y ls st h = some (.inl z)) (kk : mGo p l e R s m args below meth c Q D cl dA pre base ρ nL z.1 z.2.1 z.2.2.1 z.2.2.2.1 (cells + z.2.2.2.2.1) (slots + z.2.2.2.2.2)) : mGo p l e R s m args below meth c Q D cl dA pre base ρ nL pc ls st h cells slots := by
  obtain ⟨v, hv, hok, rfl⟩ := stload_ok hz
  subst hnx
  intro lsA H locs hL hR hS hZ
  have hv := emL_lk hL hv
  cases v with
  | ref a => exact lv_aload_n X.1 X.2.1 hd rfl hv (kk lsA H locs hL hR hS hZ)
  | null => exact lv_aload_nN X.1 X.2.1 hd rfl hv (kk lsA H locs hL hR hS hZ)
  | _ => cases hok
theorem so_aload {k : Nat} (X : mCx p s m args c D cl dA pre base ρ tyL Ts G cc own nL) (hd : decode cc pc = .ok (.aload k, 2)) (hnx : nx = pc + 2) (hz : stepI iv G M pc (.aload k) nx x y ls st h = some (.inl z)) (kk : mGo p l e R s m args below meth c Q D cl dA pre base ρ nL z.1 z.2.1 z.2.2.1 z.2.2.2.1 (cells + z.2.2.2.2.1) (slots + z.2.2.2.2.2)) : mGo p l e R s m args below meth c Q D cl dA pre base ρ nL pc ls st h cells slots := by
  obtain ⟨v, hv, hok, rfl⟩ := stload_ok hz
  subst hnx
  intro lsA H locs hL hR hS hZ
  have hv := emL_lk hL hv
  cases v with
  | ref a => exact lv_aload X.1 X.2.1 hd hv (kk lsA H locs hL hR hS hZ)
  | null => exact lv_aloadN X.1 X.2.1 hd hv (kk lsA H locs hL hR hS hZ)
  | _ => cases hok
theorem ststore1_ok {G : GI} {M : Nat} {ls : ML} {i nx : Nat} {st : List Value} {h : MH} {ok : Value → Bool} {z : Nat × ML × List Value × MH × Nat × Nat} (e : ststore1 G M ls i nx st h ok = some (.inl z)) : ∃ v r, st = v :: r ∧ ok v = true ∧ i < G.2.1 M ∧ z = (nx, sto1 ls i v, r, h, 0, 0) := by
  obtain ⟨v, r, rfl, e⟩ := s1_ok e
  obtain ⟨h1, h2⟩ := if_ok e
  simp only [Bool.and_eq_true, decide_eq_true_eq] at h1
  exact ⟨v, r, rfl, h1.1, h1.2, okk_ok h2⟩
theorem ststore2_ok {G : GI} {M : Nat} {ls : ML} {i nx : Nat} {st : List Value} {h : MH} {z : Nat × ML × List Value × MH × Nat × Nat} (e : ststore2 G M ls i nx st h = some (.inl z)) : ∃ v r, st = v :: r ∧ isL v = true ∧ i + 1 < G.2.1 M ∧ z = (nx, sto2 ls i v, r, h, 0, 0) := by
  obtain ⟨v, r, rfl, e⟩ := s1_ok e
  obtain ⟨h1, h2⟩ := if_ok e
  simp only [Bool.and_eq_true, decide_eq_true_eq] at h1
  exact ⟨v, r, rfl, h1.1, h1.2, okk_ok h2⟩
theorem so_istore_n {k : Fin 4} (X : mCx p s m args c D cl dA pre base ρ tyL Ts G cc own nL) (hd : decode cc pc = .ok (.istore_n k, 1)) (hnx : nx = pc + 1) (hnl : G.2.1 M = nL) (hz : stepI iv G M pc (.istore_n k) nx x y ls st h = some (.inl z)) (kk : mGo p l e R s m args below meth c Q D cl dA pre base ρ nL z.1 z.2.1 z.2.2.1 z.2.2.2.1 (cells + z.2.2.2.2.1) (slots + z.2.2.2.2.2)) : mGo p l e R s m args below meth c Q D cl dA pre base ρ nL pc ls st h cells slots := by
  obtain ⟨v, r, rfl, hok, hi, rfl⟩ := ststore1_ok hz
  rw [hnl] at hi
  subst hnx
  intro lsA H locs hL hR hS hZ
  cases v with
  | int a => exact lv_istore_n X.1 X.2.1 hd rfl hL hi (emL_sto1 ls _ (.int a)) (fun lsA hL => kk lsA H locs hL hR hS hZ)
  | retAddr j => exact lv_istore_n X.1 X.2.1 hd rfl hL hi (emL_sto1 ls _ (.retAddr j)) (fun lsA hL => kk lsA H locs hL hR hS hZ)
  | _ => cases hok
theorem so_istore {k : Nat} (X : mCx p s m args c D cl dA pre base ρ tyL Ts G cc own nL) (hd : decode cc pc = .ok (.istore k, 2)) (hnx : nx = pc + 2) (hnl : G.2.1 M = nL) (hz : stepI iv G M pc (.istore k) nx x y ls st h = some (.inl z)) (kk : mGo p l e R s m args below meth c Q D cl dA pre base ρ nL z.1 z.2.1 z.2.2.1 z.2.2.2.1 (cells + z.2.2.2.2.1) (slots + z.2.2.2.2.2)) : mGo p l e R s m args below meth c Q D cl dA pre base ρ nL pc ls st h cells slots := by
  obtain ⟨v, r, rfl, hok, hi, rfl⟩ := ststore1_ok hz
  rw [hnl] at hi
  subst hnx
  intro lsA H locs hL hR hS hZ
  cases v with
  | int a => exact lv_istore X.1 X.2.1 hd hL hi (emL_sto1 ls _ (.int a)) (fun lsA hL => kk lsA H locs hL hR hS hZ)
  | retAddr j => exact lv_istore X.1 X.2.1 hd hL hi (emL_sto1 ls _ (.retAddr j)) (fun lsA hL => kk lsA H locs hL hR hS hZ)
  | _ => cases hok
theorem so_astore_n {k : Fin 4} (X : mCx p s m args c D cl dA pre base ρ tyL Ts G cc own nL) (hd : decode cc pc = .ok (.astore_n k, 1)) (hnx : nx = pc + 1) (hnl : G.2.1 M = nL) (hz : stepI iv G M pc (.astore_n k) nx x y ls st h = some (.inl z)) (kk : mGo p l e R s m args below meth c Q D cl dA pre base ρ nL z.1 z.2.1 z.2.2.1 z.2.2.2.1 (cells + z.2.2.2.2.1) (slots + z.2.2.2.2.2)) : mGo p l e R s m args below meth c Q D cl dA pre base ρ nL pc ls st h cells slots := by
  obtain ⟨v, r, rfl, hok, hi, rfl⟩ := ststore1_ok hz
  rw [hnl] at hi
  subst hnx
  intro lsA H locs hL hR hS hZ
  cases v with
  | ref a => exact lv_astore_n X.1 X.2.1 hd rfl hL hi (emL_sto1 ls _ (.ref a)) (fun lsA hL => kk lsA H locs hL hR hS hZ)
  | null => exact lv_astore_nN X.1 X.2.1 hd rfl hL hi (emL_sto1 ls _ .null) (fun lsA hL => kk lsA H locs hL hR hS hZ)
  | _ => cases hok
theorem so_astore {k : Nat} (X : mCx p s m args c D cl dA pre base ρ tyL Ts G cc own nL) (hd : decode cc pc = .ok (.astore k, 2)) (hnx : nx = pc + 2) (hnl : G.2.1 M = nL) (hz : stepI iv G M pc (.astore k) nx x y ls st h = some (.inl z)) (kk : mGo p l e R s m args below meth c Q D cl dA pre base ρ nL z.1 z.2.1 z.2.2.1 z.2.2.2.1 (cells + z.2.2.2.2.1) (slots + z.2.2.2.2.2)) : mGo p l e R s m args below meth c Q D cl dA pre base ρ nL pc ls st h cells slots := by
  obtain ⟨v, r, rfl, hok, hi, rfl⟩ := ststore1_ok hz
  rw [hnl] at hi
  subst hnx
  intro lsA H locs hL hR hS hZ
  cases v with
  | ref a => exact lv_astore X.1 X.2.1 hd hL hi (emL_sto1 ls _ (.ref a)) (fun lsA hL => kk lsA H locs hL hR hS hZ)
  | null => exact lv_astoreN X.1 X.2.1 hd hL hi (emL_sto1 ls _ .null) (fun lsA hL => kk lsA H locs hL hR hS hZ)
  | _ => cases hok
theorem so_lstore_n {k : Fin 4} (X : mCx p s m args c D cl dA pre base ρ tyL Ts G cc own nL) (hd : decode cc pc = .ok (.lstore_n k, 1)) (hnx : nx = pc + 1) (hnl : G.2.1 M = nL) (hz : stepI iv G M pc (.lstore_n k) nx x y ls st h = some (.inl z)) (kk : mGo p l e R s m args below meth c Q D cl dA pre base ρ nL z.1 z.2.1 z.2.2.1 z.2.2.2.1 (cells + z.2.2.2.2.1) (slots + z.2.2.2.2.2)) : mGo p l e R s m args below meth c Q D cl dA pre base ρ nL pc ls st h cells slots := by
  obtain ⟨v, r, rfl, hok, hi, rfl⟩ := ststore2_ok hz
  rw [hnl] at hi
  subst hnx
  intro lsA H locs hL hR hS hZ
  cases v with
  | long a => exact lv_lstore_n X.1 X.2.1 hd rfl hL hi (emL_sto2 ls _ (.long a)) (fun lsA hL => kk lsA H locs hL hR hS hZ)
  | _ => cases hok
theorem so_lstore {k : Nat} (X : mCx p s m args c D cl dA pre base ρ tyL Ts G cc own nL) (hd : decode cc pc = .ok (.lstore k, 2)) (hnx : nx = pc + 2) (hnl : G.2.1 M = nL) (hz : stepI iv G M pc (.lstore k) nx x y ls st h = some (.inl z)) (kk : mGo p l e R s m args below meth c Q D cl dA pre base ρ nL z.1 z.2.1 z.2.2.1 z.2.2.2.1 (cells + z.2.2.2.2.1) (slots + z.2.2.2.2.2)) : mGo p l e R s m args below meth c Q D cl dA pre base ρ nL pc ls st h cells slots := by
  obtain ⟨v, r, rfl, hok, hi, rfl⟩ := ststore2_ok hz
  rw [hnl] at hi
  subst hnx
  intro lsA H locs hL hR hS hZ
  cases v with
  | long a => exact lv_lstore X.1 X.2.1 hd hL hi (emL_sto2 ls _ (.long a)) (fun lsA hL => kk lsA H locs hL hR hS hZ)
  | _ => cases hok
theorem so_iinc {k : Nat} {n : Int} (X : mCx p s m args c D cl dA pre base ρ tyL Ts G cc own nL) (hd : decode cc pc = .ok (.iinc k n, 3)) (hnx : nx = pc + 3) (hI : ivP ρ iv) (hnl : G.2.1 M = nL) (hz : stepI iv G M pc (.iinc k n) nx x y ls st h = some (.inl z)) (kk : mGo p l e R s m args below meth c Q D cl dA pre base ρ nL z.1 z.2.1 z.2.2.1 z.2.2.2.1 (cells + z.2.2.2.2.1) (slots + z.2.2.2.2.2)) : mGo p l e R s m args below meth c Q D cl dA pre base ρ nL pc ls st h cells slots := by
  unfold stepI at hz
  simp only at hz
  cases hv : lkl ls k with
  | none => rw [hv] at hz; cases hz
  | some v =>
    rw [hv] at hz
    cases v with
    | int a =>
      obtain ⟨hi, hz⟩ := if_ok hz
      rw [hnl] at hi
      cases okk_ok hz
      subst hnx
      intro lsA H locs hL hR hS hZ
      unfold lkl at hv
      obtain ⟨q, hq, hqv⟩ := Option.map_eq_some_iff.mp hv
      have hq2 : q.1 = k := by simpa using List.find?_some hq
      have hm : (k, Value.int a) ∈ emL pre base ρ ls := List.mem_map.mpr ⟨q, List.mem_of_find?_eq_some hq, by rw [hq2, hqv]; rfl⟩
      obtain ⟨j, hj⟩ := List.getElem?_of_mem hm
      exact lv_iinc X.1 X.2.1 hd hL hj rfl hi (emL_sto1 ls k (.int (a + Int32.ofInt n))) (fun lsA hL => kk lsA H locs hL hR hS hZ)
    | retAddr j =>
      obtain ⟨hi, hz⟩ := if_ok hz
      simp only [Bool.and_eq_true, decide_eq_true_eq] at hi
      rw [hnl] at hi
      cases okk_ok hz
      subst hnx
      intro lsA H locs hL hR hS hZ
      unfold lkl at hv
      obtain ⟨q, hq, hqv⟩ := Option.map_eq_some_iff.mp hv
      have hq2 : q.1 = k := by simpa using List.find?_some hq
      have hm : (k, Value.int (ρ j)) ∈ emL pre base ρ ls := List.mem_map.mpr ⟨q, List.mem_of_find?_eq_some hq, by rw [hq2, hqv]; rfl⟩
      obtain ⟨t, ht⟩ := List.getElem?_of_mem hm
      have he : Value.int (ρ j + Int32.ofInt n) = emv pre base ρ (.retAddr (j + 8)) := by
        show _ = Value.int (ρ (j + 8))
        rw [(hI.2 hi.2.2.2 j hi.2.1).2, hi.2.2.1]
      exact lv_iinc X.1 X.2.1 hd hL ht rfl hi.1 (by rw [he]; exact emL_sto1 ls k (.retAddr (j + 8))) (fun lsA hL => kk lsA H locs hL hR hS hZ)
    | _ => cases hz
theorem so_iadd  (X : mCx p s m args c D cl dA pre base ρ tyL Ts G cc own nL) (hd : decode cc pc = .ok (.iadd, 1)) (hnx : nx = pc + 1) (hz : stepI iv G M pc (.iadd) nx x y ls st h = some (.inl z)) (kk : mGo p l e R s m args below meth c Q D cl dA pre base ρ nL z.1 z.2.1 z.2.2.1 z.2.2.2.1 (cells + z.2.2.2.2.1) (slots + z.2.2.2.2.2)) : mGo p l e R s m args below meth c Q D cl dA pre base ρ nL pc ls st h cells slots := by
  obtain ⟨a, b, r, rfl, hz⟩ := s2i_ok hz
  cases okk_ok hz
  subst hnx
  intro lsA H locs hL hR hS hZ
  exact lv_iadd X.1 X.2.1 hd (kk lsA H locs hL hR hS hZ)
theorem so_isub  (X : mCx p s m args c D cl dA pre base ρ tyL Ts G cc own nL) (hd : decode cc pc = .ok (.isub, 1)) (hnx : nx = pc + 1) (hz : stepI iv G M pc (.isub) nx x y ls st h = some (.inl z)) (kk : mGo p l e R s m args below meth c Q D cl dA pre base ρ nL z.1 z.2.1 z.2.2.1 z.2.2.2.1 (cells + z.2.2.2.2.1) (slots + z.2.2.2.2.2)) : mGo p l e R s m args below meth c Q D cl dA pre base ρ nL pc ls st h cells slots := by
  obtain ⟨a, b, r, rfl, hz⟩ := s2i_ok hz
  cases okk_ok hz
  subst hnx
  intro lsA H locs hL hR hS hZ
  exact lv_isub X.1 X.2.1 hd (kk lsA H locs hL hR hS hZ)
theorem so_imul  (X : mCx p s m args c D cl dA pre base ρ tyL Ts G cc own nL) (hd : decode cc pc = .ok (.imul, 1)) (hnx : nx = pc + 1) (hz : stepI iv G M pc (.imul) nx x y ls st h = some (.inl z)) (kk : mGo p l e R s m args below meth c Q D cl dA pre base ρ nL z.1 z.2.1 z.2.2.1 z.2.2.2.1 (cells + z.2.2.2.2.1) (slots + z.2.2.2.2.2)) : mGo p l e R s m args below meth c Q D cl dA pre base ρ nL pc ls st h cells slots := by
  obtain ⟨a, b, r, rfl, hz⟩ := s2i_ok hz
  cases okk_ok hz
  subst hnx
  intro lsA H locs hL hR hS hZ
  exact lv_imul X.1 X.2.1 hd (kk lsA H locs hL hR hS hZ)
theorem so_iand  (X : mCx p s m args c D cl dA pre base ρ tyL Ts G cc own nL) (hd : decode cc pc = .ok (.iand, 1)) (hnx : nx = pc + 1) (hI : ivP ρ iv) (hz : stepI iv G M pc (.iand) nx x y ls st h = some (.inl z)) (kk : mGo p l e R s m args below meth c Q D cl dA pre base ρ nL z.1 z.2.1 z.2.2.1 z.2.2.2.1 (cells + z.2.2.2.2.1) (slots + z.2.2.2.2.2)) : mGo p l e R s m args below meth c Q D cl dA pre base ρ nL pc ls st h cells slots := by
  obtain ⟨b, r1, rfl, hb, hz0⟩ := s1n_ok hz
  obtain ⟨a, r, rfl, ha, hz1⟩ := s1n_ok hz0
  clear hz hz0
  cases a with
  | int u =>
    cases b with
    | int w =>
      cases okk_ok hz1
      subst hnx
      intro lsA H locs hL hR hS hZ
      exact lv_iand X.1 X.2.1 hd (kk lsA H locs hL hR hS hZ)
    | _ => cases hz1
  | retAddr j =>
    cases b with
    | int w =>
      obtain ⟨hj, hz2⟩ := if_ok hz1
      simp only [Bool.and_eq_true, decide_eq_true_eq] at hj
      cases okk_ok hz2
      subst hnx
      intro lsA H locs hL hR hS hZ
      have k2 := kk lsA H locs hL hR hS hZ
      have he : emv pre base ρ (.retAddr (j + 4)) = .int (ρ j &&& w) := by
        show Value.int (ρ (j + 4)) = _
        rw [(hI.2 hj.2.2 j hj.1).1, hj.2.1]
      rw [List.map_cons, he] at k2
      exact lv_iand X.1 X.2.1 hd k2
    | _ => cases hz1
  | _ => cases hz1
theorem so_idiv  (X : mCx p s m args c D cl dA pre base ρ tyL Ts G cc own nL) (hd : decode cc pc = .ok (.idiv, 1)) (hnx : nx = pc + 1) (hz : stepI iv G M pc (.idiv) nx x y ls st h = some (.inl z)) (kk : mGo p l e R s m args below meth c Q D cl dA pre base ρ nL z.1 z.2.1 z.2.2.1 z.2.2.2.1 (cells + z.2.2.2.2.1) (slots + z.2.2.2.2.2)) : mGo p l e R s m args below meth c Q D cl dA pre base ρ nL pc ls st h cells slots := by
  obtain ⟨a, b, r, rfl, hz⟩ := s2i_ok hz
  obtain ⟨hb0, hz⟩ := ifn_ok hz
  cases okk_ok hz
  subst hnx
  intro lsA H locs hL hR hS hZ
  exact lv_idiv X.1 X.2.1 hd hb0 (kk lsA H locs hL hR hS hZ)
theorem so_irem  (X : mCx p s m args c D cl dA pre base ρ tyL Ts G cc own nL) (hd : decode cc pc = .ok (.irem, 1)) (hnx : nx = pc + 1) (hz : stepI iv G M pc (.irem) nx x y ls st h = some (.inl z)) (kk : mGo p l e R s m args below meth c Q D cl dA pre base ρ nL z.1 z.2.1 z.2.2.1 z.2.2.2.1 (cells + z.2.2.2.2.1) (slots + z.2.2.2.2.2)) : mGo p l e R s m args below meth c Q D cl dA pre base ρ nL pc ls st h cells slots := by
  obtain ⟨a, b, r, rfl, hz⟩ := s2i_ok hz
  obtain ⟨hb0, hz⟩ := ifn_ok hz
  cases okk_ok hz
  subst hnx
  intro lsA H locs hL hR hS hZ
  exact lv_irem X.1 X.2.1 hd hb0 (kk lsA H locs hL hR hS hZ)
theorem so_ineg  (X : mCx p s m args c D cl dA pre base ρ tyL Ts G cc own nL) (hd : decode cc pc = .ok (.ineg, 1)) (hnx : nx = pc + 1) (hz : stepI iv G M pc (.ineg) nx x y ls st h = some (.inl z)) (kk : mGo p l e R s m args below meth c Q D cl dA pre base ρ nL z.1 z.2.1 z.2.2.1 z.2.2.2.1 (cells + z.2.2.2.2.1) (slots + z.2.2.2.2.2)) : mGo p l e R s m args below meth c Q D cl dA pre base ρ nL pc ls st h cells slots := by
  obtain ⟨a, r, rfl, hz⟩ := s1i_ok hz
  cases okk_ok hz
  subst hnx
  intro lsA H locs hL hR hS hZ
  exact lv_ineg X.1 X.2.1 hd (kk lsA H locs hL hR hS hZ)
theorem so_i2l  (X : mCx p s m args c D cl dA pre base ρ tyL Ts G cc own nL) (hd : decode cc pc = .ok (.i2l, 1)) (hnx : nx = pc + 1) (hz : stepI iv G M pc (.i2l) nx x y ls st h = some (.inl z)) (kk : mGo p l e R s m args below meth c Q D cl dA pre base ρ nL z.1 z.2.1 z.2.2.1 z.2.2.2.1 (cells + z.2.2.2.2.1) (slots + z.2.2.2.2.2)) : mGo p l e R s m args below meth c Q D cl dA pre base ρ nL pc ls st h cells slots := by
  obtain ⟨a, r, rfl, hz⟩ := s1i_ok hz
  cases okk_ok hz
  subst hnx
  intro lsA H locs hL hR hS hZ
  exact lv_i2l X.1 X.2.1 hd rfl (kk lsA H locs hL hR hS hZ)
theorem so_i2b  (X : mCx p s m args c D cl dA pre base ρ tyL Ts G cc own nL) (hd : decode cc pc = .ok (.i2b, 1)) (hnx : nx = pc + 1) (hz : stepI iv G M pc (.i2b) nx x y ls st h = some (.inl z)) (kk : mGo p l e R s m args below meth c Q D cl dA pre base ρ nL z.1 z.2.1 z.2.2.1 z.2.2.2.1 (cells + z.2.2.2.2.1) (slots + z.2.2.2.2.2)) : mGo p l e R s m args below meth c Q D cl dA pre base ρ nL pc ls st h cells slots := by
  obtain ⟨a, r, rfl, hz⟩ := s1i_ok hz
  cases okk_ok hz
  subst hnx
  intro lsA H locs hL hR hS hZ
  exact lv_i2b X.1 X.2.1 hd rfl (kk lsA H locs hL hR hS hZ)
theorem so_l2i  (X : mCx p s m args c D cl dA pre base ρ tyL Ts G cc own nL) (hd : decode cc pc = .ok (.l2i, 1)) (hnx : nx = pc + 1) (hz : stepI iv G M pc (.l2i) nx x y ls st h = some (.inl z)) (kk : mGo p l e R s m args below meth c Q D cl dA pre base ρ nL z.1 z.2.1 z.2.2.1 z.2.2.2.1 (cells + z.2.2.2.2.1) (slots + z.2.2.2.2.2)) : mGo p l e R s m args below meth c Q D cl dA pre base ρ nL pc ls st h cells slots := by
  obtain ⟨a, r, rfl, hz⟩ := s1l_ok hz
  cases okk_ok hz
  subst hnx
  intro lsA H locs hL hR hS hZ
  exact lv_l2i X.1 X.2.1 hd rfl (kk lsA H locs hL hR hS hZ)
theorem so_ladd  (X : mCx p s m args c D cl dA pre base ρ tyL Ts G cc own nL) (hd : decode cc pc = .ok (.ladd, 1)) (hnx : nx = pc + 1) (hz : stepI iv G M pc (.ladd) nx x y ls st h = some (.inl z)) (kk : mGo p l e R s m args below meth c Q D cl dA pre base ρ nL z.1 z.2.1 z.2.2.1 z.2.2.2.1 (cells + z.2.2.2.2.1) (slots + z.2.2.2.2.2)) : mGo p l e R s m args below meth c Q D cl dA pre base ρ nL pc ls st h cells slots := by
  obtain ⟨a, b, r, rfl, hz⟩ := s2l_ok hz
  cases okk_ok hz
  subst hnx
  intro lsA H locs hL hR hS hZ
  exact lv_ladd X.1 X.2.1 hd (kk lsA H locs hL hR hS hZ)
theorem so_lmul  (X : mCx p s m args c D cl dA pre base ρ tyL Ts G cc own nL) (hd : decode cc pc = .ok (.lmul, 1)) (hnx : nx = pc + 1) (hz : stepI iv G M pc (.lmul) nx x y ls st h = some (.inl z)) (kk : mGo p l e R s m args below meth c Q D cl dA pre base ρ nL z.1 z.2.1 z.2.2.1 z.2.2.2.1 (cells + z.2.2.2.2.1) (slots + z.2.2.2.2.2)) : mGo p l e R s m args below meth c Q D cl dA pre base ρ nL pc ls st h cells slots := by
  obtain ⟨a, b, r, rfl, hz⟩ := s2l_ok hz
  cases okk_ok hz
  subst hnx
  intro lsA H locs hL hR hS hZ
  exact lv_lmul X.1 X.2.1 hd (kk lsA H locs hL hR hS hZ)
theorem so_ldiv  (X : mCx p s m args c D cl dA pre base ρ tyL Ts G cc own nL) (hd : decode cc pc = .ok (.ldiv, 1)) (hnx : nx = pc + 1) (hz : stepI iv G M pc (.ldiv) nx x y ls st h = some (.inl z)) (kk : mGo p l e R s m args below meth c Q D cl dA pre base ρ nL z.1 z.2.1 z.2.2.1 z.2.2.2.1 (cells + z.2.2.2.2.1) (slots + z.2.2.2.2.2)) : mGo p l e R s m args below meth c Q D cl dA pre base ρ nL pc ls st h cells slots := by
  obtain ⟨a, b, r, rfl, hz⟩ := s2l_ok hz
  obtain ⟨hb0, hz⟩ := ifn_ok hz
  cases okk_ok hz
  subst hnx
  intro lsA H locs hL hR hS hZ
  exact lv_ldiv X.1 X.2.1 hd hb0 (kk lsA H locs hL hR hS hZ)
theorem so_lrem  (X : mCx p s m args c D cl dA pre base ρ tyL Ts G cc own nL) (hd : decode cc pc = .ok (.lrem, 1)) (hnx : nx = pc + 1) (hz : stepI iv G M pc (.lrem) nx x y ls st h = some (.inl z)) (kk : mGo p l e R s m args below meth c Q D cl dA pre base ρ nL z.1 z.2.1 z.2.2.1 z.2.2.2.1 (cells + z.2.2.2.2.1) (slots + z.2.2.2.2.2)) : mGo p l e R s m args below meth c Q D cl dA pre base ρ nL pc ls st h cells slots := by
  obtain ⟨a, b, r, rfl, hz⟩ := s2l_ok hz
  obtain ⟨hb0, hz⟩ := ifn_ok hz
  cases okk_ok hz
  subst hnx
  intro lsA H locs hL hR hS hZ
  exact lv_lrem X.1 X.2.1 hd hb0 (kk lsA H locs hL hR hS hZ)
theorem so_lneg  (X : mCx p s m args c D cl dA pre base ρ tyL Ts G cc own nL) (hd : decode cc pc = .ok (.lneg, 1)) (hnx : nx = pc + 1) (hz : stepI iv G M pc (.lneg) nx x y ls st h = some (.inl z)) (kk : mGo p l e R s m args below meth c Q D cl dA pre base ρ nL z.1 z.2.1 z.2.2.1 z.2.2.2.1 (cells + z.2.2.2.2.1) (slots + z.2.2.2.2.2)) : mGo p l e R s m args below meth c Q D cl dA pre base ρ nL pc ls st h cells slots := by
  obtain ⟨a, r, rfl, hz⟩ := s1l_ok hz
  cases okk_ok hz
  subst hnx
  intro lsA H locs hL hR hS hZ
  exact lv_lneg X.1 X.2.1 hd (kk lsA H locs hL hR hS hZ)
theorem so_lcmp  (X : mCx p s m args c D cl dA pre base ρ tyL Ts G cc own nL) (hd : decode cc pc = .ok (.lcmp, 1)) (hnx : nx = pc + 1) (hz : stepI iv G M pc (.lcmp) nx x y ls st h = some (.inl z)) (kk : mGo p l e R s m args below meth c Q D cl dA pre base ρ nL z.1 z.2.1 z.2.2.1 z.2.2.2.1 (cells + z.2.2.2.2.1) (slots + z.2.2.2.2.2)) : mGo p l e R s m args below meth c Q D cl dA pre base ρ nL pc ls st h cells slots := by
  obtain ⟨a, b, r, rfl, hz⟩ := s2l_ok hz
  cases okk_ok hz
  subst hnx
  intro lsA H locs hL hR hS hZ
  exact W.lcmp X.1 X.2.1 hd (kk lsA H locs hL hR hS hZ)
theorem cat1_ok {v : Value} {pre : Nat → Nat} {base : Nat} {ρ : Nat → Int32} (h : cat1 v = true) : (emv pre base ρ v).category = 1 := by
  cases v <;> first | rfl | cases h
theorem cat2_ok {v : Value} {pre : Nat → Nat} {base : Nat} {ρ : Nat → Int32} (h : isL v = true) : (emv pre base ρ v).category = 2 := by
  cases v <;> first | rfl | cases h
theorem so_dup  (X : mCx p s m args c D cl dA pre base ρ tyL Ts G cc own nL) (hd : decode cc pc = .ok (.dup, 1)) (hnx : nx = pc + 1) (hz : stepI iv G M pc (.dup) nx x y ls st h = some (.inl z)) (kk : mGo p l e R s m args below meth c Q D cl dA pre base ρ nL z.1 z.2.1 z.2.2.1 z.2.2.2.1 (cells + z.2.2.2.2.1) (slots + z.2.2.2.2.2)) : mGo p l e R s m args below meth c Q D cl dA pre base ρ nL pc ls st h cells slots := by
  obtain ⟨v, r, rfl, hz⟩ := s1_ok hz
  obtain ⟨h1, hz⟩ := if_ok hz
  cases okk_ok hz
  subst hnx
  intro lsA H locs hL hR hS hZ
  exact lv_dup X.1 X.2.1 hd (cat1_ok h1) (kk lsA H locs hL hR hS hZ)
theorem so_pop2  (X : mCx p s m args c D cl dA pre base ρ tyL Ts G cc own nL) (hd : decode cc pc = .ok (.pop2, 1)) (hnx : nx = pc + 1) (hz : stepI iv G M pc (.pop2) nx x y ls st h = some (.inl z)) (kk : mGo p l e R s m args below meth c Q D cl dA pre base ρ nL z.1 z.2.1 z.2.2.1 z.2.2.2.1 (cells + z.2.2.2.2.1) (slots + z.2.2.2.2.2)) : mGo p l e R s m args below meth c Q D cl dA pre base ρ nL pc ls st h cells slots := by
  obtain ⟨v, r, rfl, hz⟩ := s1_ok hz
  obtain ⟨h1, hz⟩ := if_ok hz
  cases okk_ok hz
  subst hnx
  intro lsA H locs hL hR hS hZ
  exact lv_pop2_2 X.1 X.2.1 hd (cat2_ok h1) (kk lsA H locs hL hR hS hZ)
theorem so_pop  (X : mCx p s m args c D cl dA pre base ρ tyL Ts G cc own nL) (hd : decode cc pc = .ok (.pop, 1)) (hnx : nx = pc + 1) (hz : stepI iv G M pc (.pop) nx x y ls st h = some (.inl z)) (kk : mGo p l e R s m args below meth c Q D cl dA pre base ρ nL z.1 z.2.1 z.2.2.1 z.2.2.2.1 (cells + z.2.2.2.2.1) (slots + z.2.2.2.2.2)) : mGo p l e R s m args below meth c Q D cl dA pre base ρ nL pc ls st h cells slots := by
  obtain ⟨v, r, rfl, hz⟩ := s1_ok hz
  obtain ⟨h1, hz⟩ := if_ok hz
  cases okk_ok hz
  subst hnx
  intro lsA H locs hL hR hS hZ
  exact lv_pop X.1 X.2.1 hd (cat1_ok h1) (kk lsA H locs hL hR hS hZ)
theorem so_dup_x1  (X : mCx p s m args c D cl dA pre base ρ tyL Ts G cc own nL) (hd : decode cc pc = .ok (.dup_x1, 1)) (hnx : nx = pc + 1) (hz : stepI iv G M pc (.dup_x1) nx x y ls st h = some (.inl z)) (kk : mGo p l e R s m args below meth c Q D cl dA pre base ρ nL z.1 z.2.1 z.2.2.1 z.2.2.2.1 (cells + z.2.2.2.2.1) (slots + z.2.2.2.2.2)) : mGo p l e R s m args below meth c Q D cl dA pre base ρ nL pc ls st h cells slots := by
  obtain ⟨v, r, rfl, hz⟩ := s1_ok hz
  obtain ⟨w, r, rfl, hz⟩ := s1_ok hz
  obtain ⟨h1, hz⟩ := if_ok hz
  simp only [Bool.and_eq_true] at h1
  cases okk_ok hz
  subst hnx
  intro lsA H locs hL hR hS hZ
  exact lv_dup_x1 X.1 X.2.1 hd (cat1_ok h1.1) (cat1_ok h1.2) (kk lsA H locs hL hR hS hZ)
theorem so_dup2  (X : mCx p s m args c D cl dA pre base ρ tyL Ts G cc own nL) (hd : decode cc pc = .ok (.dup2, 1)) (hnx : nx = pc + 1) (hz : stepI iv G M pc (.dup2) nx x y ls st h = some (.inl z)) (kk : mGo p l e R s m args below meth c Q D cl dA pre base ρ nL z.1 z.2.1 z.2.2.1 z.2.2.2.1 (cells + z.2.2.2.2.1) (slots + z.2.2.2.2.2)) : mGo p l e R s m args below meth c Q D cl dA pre base ρ nL pc ls st h cells slots := by
  obtain ⟨v, r, rfl, hz⟩ := s1_ok hz
  obtain ⟨w, r, rfl, hz⟩ := s1_ok hz
  obtain ⟨h1, hz⟩ := if_ok hz
  simp only [Bool.and_eq_true] at h1
  cases okk_ok hz
  subst hnx
  intro lsA H locs hL hR hS hZ
  exact lv_dup2_11 X.1 X.2.1 hd (cat1_ok h1.1) (cat1_ok h1.2) (kk lsA H locs hL hR hS hZ)
theorem so_goto {off : Int} (X : mCx p s m args c D cl dA pre base ρ tyL Ts G cc own nL) (hd : decode cc pc = .ok (.goto off, 3)) (hnx : nx = pc + 3) (ht : (pc : Int) + off = (x : Int)) (hz : stepI iv G M pc (.goto off) nx x y ls st h = some (.inl z)) (kk : mGo p l e R s m args below meth c Q D cl dA pre base ρ nL z.1 z.2.1 z.2.2.1 z.2.2.2.1 (cells + z.2.2.2.2.1) (slots + z.2.2.2.2.2)) : mGo p l e R s m args below meth c Q D cl dA pre base ρ nL pc ls st h cells slots := by
  cases okk_ok hz
  intro lsA H locs hL hR hS hZ
  exact lv_goto X.1 X.2.1 hd ht (kk lsA H locs hL hR hS hZ)
theorem so_ifnull {off : Int} (X : mCx p s m args c D cl dA pre base ρ tyL Ts G cc own nL) (hd : decode cc pc = .ok (.ifnull off, 3)) (hnx : nx = pc + 3) (ht : (pc : Int) + off = (x : Int)) (hz : stepI iv G M pc (.ifnull off) nx x y ls st h = some (.inl z)) (kk : mGo p l e R s m args below meth c Q D cl dA pre base ρ nL z.1 z.2.1 z.2.2.1 z.2.2.2.1 (cells + z.2.2.2.2.1) (slots + z.2.2.2.2.2)) : mGo p l e R s m args below meth c Q D cl dA pre base ρ nL pc ls st h cells slots := by
  obtain ⟨v, r, rfl, hz⟩ := s1_ok hz
  cases v with
  | null =>
    cases okk_ok hz
    intro lsA H locs hL hR hS hZ
    exact lv_ifnullN X.1 X.2.1 hd ht (kk lsA H locs hL hR hS hZ)
  | ref a =>
    cases okk_ok hz
    subst hnx
    intro lsA H locs hL hR hS hZ
    exact lv_ifnull X.1 X.2.1 hd (kk lsA H locs hL hR hS hZ)
  | _ => cases hz
theorem so_ifnonnull {off : Int} (X : mCx p s m args c D cl dA pre base ρ tyL Ts G cc own nL) (hd : decode cc pc = .ok (.ifnonnull off, 3)) (hnx : nx = pc + 3) (ht : (pc : Int) + off = (x : Int)) (hz : stepI iv G M pc (.ifnonnull off) nx x y ls st h = some (.inl z)) (kk : mGo p l e R s m args below meth c Q D cl dA pre base ρ nL z.1 z.2.1 z.2.2.1 z.2.2.2.1 (cells + z.2.2.2.2.1) (slots + z.2.2.2.2.2)) : mGo p l e R s m args below meth c Q D cl dA pre base ρ nL pc ls st h cells slots := by
  obtain ⟨v, r, rfl, hz⟩ := s1_ok hz
  cases v with
  | null =>
    cases okk_ok hz
    subst hnx
    intro lsA H locs hL hR hS hZ
    exact lv_ifnonnullN X.1 X.2.1 hd (kk lsA H locs hL hR hS hZ)
  | ref a =>
    cases okk_ok hz
    intro lsA H locs hL hR hS hZ
    exact lv_ifnonnull X.1 X.2.1 hd ht (kk lsA H locs hL hR hS hZ)
  | _ => cases hz
theorem rfo_ok {v : Value} {a : Option Nat} {pre : Nat → Nat} {base : Nat} {ρ : Nat → Int32} (h : rfo v = some a) : emv pre base ρ v = va_rf (a.map (mad pre base)) := by
  cases v <;> first | (cases h; rfl) | cases h
theorem mad_inj {pre : Nat → Nat} {base a b : Nat} (ha : 64 ≤ a) (hb : 64 ≤ b) (h : mad pre base a = mad pre base b) : a = b := by
  unfold mad at h
  rw [if_neg (by omega), if_neg (by omega)] at h
  omega
theorem big_inj {pre : Nat → Nat} {base : Nat} {a b : Option Nat} (ha : big a = true) (hb : big b = true) (h : a.map (mad pre base) = b.map (mad pre base)) : a = b := by
  cases a with
  | none => cases b with
    | none => rfl
    | some b => cases h
  | some a => cases b with
    | none => cases h
    | some b =>
      simp [big] at ha hb
      rw [mad_inj ha hb (Option.some.inj h)]
theorem so_acmp_eq {off : Int} (X : mCx p s m args c D cl dA pre base ρ tyL Ts G cc own nL) (hd : decode cc pc = .ok (.if_acmp .eq off, 3)) (hnx : nx = pc + 3) (ht : (pc : Int) + off = (x : Int)) (hz : stepI iv G M pc (.if_acmp .eq off) nx x y ls st h = some (.inl z)) (kk : mGo p l e R s m args below meth c Q D cl dA pre base ρ nL z.1 z.2.1 z.2.2.1 z.2.2.2.1 (cells + z.2.2.2.2.1) (slots + z.2.2.2.2.2)) : mGo p l e R s m args below meth c Q D cl dA pre base ρ nL pc ls st h cells slots := by
  obtain ⟨v, r1, rfl, hz1⟩ := s1_ok hz
  obtain ⟨w, r, rfl, hz2⟩ := s1_ok hz1
  clear hz hz1
  cases hv : rfo v with
  | none => rw [hv] at hz2; cases hz2
  | some a =>
    cases hw : rfo w with
    | none => rw [hv, hw] at hz2; cases hz2
    | some b =>
      rw [hv, hw] at hz2
      obtain ⟨h1, hz⟩ := if_ok hz2
      simp only [Bool.and_eq_true] at h1
      cases okk_ok hz
      subst hnx
      intro lsA H locs hL hR hS hZ
      have k2 := kk lsA H locs hL hR hS hZ
      rw [List.map_cons, List.map_cons, rfo_ok hv, rfo_ok hw]
      refine lv_acmp_eq X.1 X.2.1 hd ht (fun q => ?_) (fun q => ?_)
      · have q2 := big_inj h1.2 h1.1 q
        simp only [if_pos q2] at k2
        exact k2
      · have q2 : ¬ b = a := fun q2 => q (by rw [q2])
        simp only [if_neg q2] at k2
        exact k2
theorem so_acmp_ne {off : Int} (X : mCx p s m args c D cl dA pre base ρ tyL Ts G cc own nL) (hd : decode cc pc = .ok (.if_acmp .ne off, 3)) (hnx : nx = pc + 3) (ht : (pc : Int) + off = (x : Int)) (hz : stepI iv G M pc (.if_acmp .ne off) nx x y ls st h = some (.inl z)) (kk : mGo p l e R s m args below meth c Q D cl dA pre base ρ nL z.1 z.2.1 z.2.2.1 z.2.2.2.1 (cells + z.2.2.2.2.1) (slots + z.2.2.2.2.2)) : mGo p l e R s m args below meth c Q D cl dA pre base ρ nL pc ls st h cells slots := by
  obtain ⟨v, r1, rfl, hz1⟩ := s1_ok hz
  obtain ⟨w, r, rfl, hz2⟩ := s1_ok hz1
  clear hz hz1
  cases hv : rfo v with
  | none => rw [hv] at hz2; cases hz2
  | some a =>
    cases hw : rfo w with
    | none => rw [hv, hw] at hz2; cases hz2
    | some b =>
      rw [hv, hw] at hz2
      obtain ⟨h1, hz⟩ := if_ok hz2
      simp only [Bool.and_eq_true] at h1
      cases okk_ok hz
      subst hnx
      intro lsA H locs hL hR hS hZ
      have k2 := kk lsA H locs hL hR hS hZ
      rw [List.map_cons, List.map_cons, rfo_ok hv, rfo_ok hw]
      refine lv_acmp_ne X.1 X.2.1 hd ht (fun q => ?_) (fun q => ?_)
      · have q2 : ¬ b = a := fun q2 => q (by rw [q2])
        simp only [if_neg q2] at k2
        exact k2
      · have q2 := big_inj h1.2 h1.1 q
        simp only [if_pos q2] at k2
        exact k2
end SO
