section
/-! The small machine's cells, and the machine's. -/
/-- a number's address: those below 64 were there, the others were made, one behind another -/
def mad (pre : Nat → Nat) (base a : Nat) : Nat := if a < 64 then pre a else base + (a - 64)
/-- an int, the script's told by what it is -/
def emI (ρ : Nat → Int32) (v : Value) : Int32 := match v with
  | .int a => a
  | .retAddr j => ρ j
  | _ => 0
def emv (pre : Nat → Nat) (base : Nat) (ρ : Nat → Int32) (v : Value) : Value := match v with
  | .ref a => .ref (mad pre base a)
  | .retAddr j => .int (ρ j)
  | w => w
theorem isI_em {pre : Nat → Nat} {base : Nat} {ρ : Nat → Int32} {v : Value} (h : isI v = true) : emv pre base ρ v = .int (emI ρ v) := by
  cases v <;> first | rfl | cases h
def emA (pre : Nat → Nat) (base : Nat) (ρ : Nat → Int32) (f : MA) : (Nat → Int32) ⊕ (Nat → Int64) ⊕ (Nat → UInt32) ⊕ (Nat → UInt64) ⊕ (Nat → Option Nat) := match f with
  | .inl g => .inl (fun j => emI ρ (rdI g j))
  | .inr g => .inr (.inr (.inr (.inr (fun j => (rdQ g j).map (mad pre base)))))
def emE (dA : Nat → ClassId) (pre : Nat → Nat) (base : Nat) (ρ : Nat → Int32) (e : ME) : va_E := match e with
  | .inl (t, n, f) => .inl (dA t, n, emA pre base ρ f)
  | .inr (ci, fs) => .inr (ci, fs.map (emv pre base ρ))
def emL (pre : Nat → Nat) (base : Nat) (ρ : Nat → Int32) (ls : ML) : List (Nat × Value) := ls.map fun q => (q.1, emv pre base ρ q.2)
def mws (dA : Nat → ClassId) (pre : Nat → Nat) (base : Nat) (ρ : Nat → Int32) (h : MH) : va_W := (h.2.reverse.zipIdx base).map fun q => (q.2, emE dA pre base ρ q.1)
def mR (D : va_G) (cl : List vw_C) (dA : Nat → ClassId) (pre : Nat → Nat) (base : Nat) (ρ : Nat → Int32) (h : MH) (H : Heap) : Prop := h.1 = h.2.length + 64 ∧ va_P D cl (mws dA pre base ρ h) H ∧ H.size = base + h.2.length
theorem mws_at {dA : Nat → ClassId} {pre : Nat → Nat} {base : Nat} {ρ : Nat → Int32} (h : MH) (k : Nat) : (mws dA pre base ρ h)[k]? = (h.2.reverse[k]?).map (fun e => (base + k, emE dA pre base ρ e)) := by
  unfold mws
  rw [List.getElem?_map, List.getElem?_zipIdx]
  cases h.2.reverse[k]? <;> simp
theorem mget_at {h : MH} (hk : h.1 = h.2.length + 64) {a : Nat} (ha : 64 ≤ a) : mget h a = h.2.reverse[a - 64]? := by
  unfold mget
  by_cases h1 : a < h.1
  · rw [if_pos h1, List.getElem?_reverse (by omega)]
    congr 1
    omega
  · rw [if_neg h1, List.getElem?_eq_none (by rw [List.length_reverse]; omega)]
theorem mget_lt {h : MH} (hk : h.1 = h.2.length + 64) {a : Nat} {e : ME} (hg : mget h a = some e) : 64 ≤ a ∧ a < h.1 := by
  unfold mget at hg
  by_cases h1 : a < h.1
  · rw [if_pos h1] at hg
    have := (List.getElem?_eq_some_iff.mp hg).1
    omega
  · rw [if_neg h1] at hg
    cases hg
theorem mws_get {dA : Nat → ClassId} {pre : Nat → Nat} {base : Nat} {ρ : Nat → Int32} {h : MH} (hk : h.1 = h.2.length + 64) {a : Nat} {e : ME} (hg : mget h a = some e) : (mws dA pre base ρ h)[a - 64]? = some (mad pre base a, emE dA pre base ρ e) := by
  obtain ⟨h1, h2⟩ := mget_lt hk hg
  rw [mget_at hk h1] at hg
  rw [mws_at, hg]
  simp only [Option.map_some]
  unfold mad
  rw [if_neg (by omega)]
theorem mput_ok {h : MH} (hk : h.1 = h.2.length + 64) (a : Nat) (e : ME) : (mput h a e).1 = (mput h a e).2.length + 64 := by
  simp [mput, hk]
theorem mws_put {dA : Nat → ClassId} {pre : Nat → Nat} {base : Nat} {ρ : Nat → Int32} {h : MH} (hk : h.1 = h.2.length + 64) {a : Nat} {e0 e : ME} (hg : mget h a = some e0) : mws dA pre base ρ (mput h a e) = (mws dA pre base ρ h).set (a - 64) (mad pre base a, emE dA pre base ρ e) := by
  obtain ⟨h1, h2⟩ := mget_lt hk hg
  have hr : (mput h a e).2.reverse = h.2.reverse.set (a - 64) e := by
    unfold mput
    simp only
    apply List.ext_getElem?
    intro j
    by_cases hj : j < h.2.length
    · rw [List.getElem?_reverse (by simpa using hj), List.length_set, List.getElem?_set, List.getElem?_set, List.getElem?_reverse hj, List.length_reverse]
      by_cases h3 : a - 64 = j
      · rw [if_pos (by omega), if_pos h3, if_pos (by omega), if_pos (by omega)]
      · rw [if_neg (by omega), if_neg h3]
    · rw [List.getElem?_eq_none (by simp; omega), List.getElem?_eq_none (by simp; omega)]
  apply List.ext_getElem?
  intro j
  rw [mws_at, hr, List.getElem?_set, List.getElem?_set, mws_at]
  by_cases h3 : a - 64 = j
  · subst h3
    rw [if_pos rfl, if_pos rfl]
    have hl : List.length (mws dA pre base ρ h) = h.2.length := by simp [mws]
    rw [if_pos (show a - 64 < List.length h.2.reverse by rw [List.length_reverse]; omega), if_pos (show a - 64 < List.length (mws dA pre base ρ h) by omega)]
    simp only [Option.map_some]
    unfold mad
    rw [if_neg (by omega)]
  · rw [if_neg h3, if_neg h3]
theorem mws_push {dA : Nat → ClassId} {pre : Nat → Nat} {base : Nat} {ρ : Nat → Int32} (h : MH) (e : ME) : mws dA pre base ρ (mpush h e) = mws dA pre base ρ h ++ [(base + h.2.length, emE dA pre base ρ e)] := by
  unfold mws mpush
  simp [List.zipIdx_append]
theorem mws_D {dA : Nat → ClassId} {pre : Nat → Nat} {base : Nat} {ρ : Nat → Int32} (h : MH) : va_D (fun q => base ≤ q) (mws dA pre base ρ h) := by
  refine ⟨fun i j x y hi hj hxy => ?_, fun k q hq => ?_⟩
  · rw [mws_at] at hi hj
    obtain ⟨e1, -, rfl⟩ := Option.map_eq_some_iff.mp hi
    obtain ⟨e2, -, rfl⟩ := Option.map_eq_some_iff.mp hj
    simp only at hxy
    omega
  · rw [mws_at] at hq
    obtain ⟨e1, -, rfl⟩ := Option.map_eq_some_iff.mp hq
    show base ≤ base + k
    omega
theorem emv_cat (pre : Nat → Nat) (base : Nat) (ρ : Nat → Int32) (v : Value) : (emv pre base ρ v).category = v.category := by
  cases v <;> rfl
theorem emL_lk {pre : Nat → Nat} {base : Nat} {ρ : Nat → Int32} {ls : ML} {i : Nat} {v : Value} {lsA : Array Slot} {nL : Nat} (hl : lv_has lsA nL (emL pre base ρ ls)) (h : lkl ls i = some v) : lsA[i]? = some (.val (emv pre base ρ v)) := by
  unfold lkl at h
  obtain ⟨q, hq, rfl⟩ := Option.map_eq_some_iff.mp h
  have h1 := List.mem_of_find?_eq_some hq
  have h2 := List.find?_some hq
  have h3 : q.1 = i := by simpa using h2
  subst h3
  exact hl.2.2 (q.1, emv pre base ρ q.2) (List.mem_map.mpr ⟨q, h1, rfl⟩)
theorem emL_sto1 {pre : Nat → Nat} {base : Nat} {ρ : Nat → Int32} (ls : ML) (i : Nat) (v : Value) : (i, emv pre base ρ v) :: (emL pre base ρ ls).filter (fun q => !(q.1 == i) && !(q.1 + 1 == i && q.2.category == 2)) = emL pre base ρ (sto1 ls i v) := by
  unfold emL sto1
  rw [List.map_cons, List.filter_map]
  congr 2
  apply List.filter_congr
  intro q _
  simp [emv_cat]
theorem emL_sto2 {pre : Nat → Nat} {base : Nat} {ρ : Nat → Int32} (ls : ML) (i : Nat) (v : Value) : (i, emv pre base ρ v) :: (emL pre base ρ ls).filter (fun q => !(q.1 == i) && (!(q.1 == i + 1) && !(q.1 + 1 == i && q.2.category == 2))) = emL pre base ρ (sto2 ls i v) := by
  unfold emL sto2
  rw [List.map_cons, List.filter_map]
  congr 2
  apply List.filter_congr
  intro q _
  simp [emv_cat]
theorem fitB_ok {ty : FieldType} {v : Value} {pre : Nat → Nat} {base : Nat} {ρ : Nat → Int32} (h : fitB ty v = true) : narrow ty (emv pre base ρ v) = emv pre base ρ v ∧ fits ty (emv pre base ρ v) = true := by
  cases ty <;> cases v <;> simp [fitB, isI, isL, isR] at h <;> simp [emv, narrow, fits]
  rcases h with rfl | rfl <;> decide
theorem vin_ok {i : Int32} {n : Nat} (h : vin i n = true) : vp_in i n := by
  unfold vin at h
  simp only [Bool.and_eq_true, decide_eq_true_eq] at h
  rintro (h1 | h1)
  · exact Int32.not_lt.mpr h.1 h1
  · omega
theorem rdI_up (ρ : Nat → Int32) (f : List (Nat × Value)) (k : Nat) (v : Value) : (fun j => emI ρ (rdI ((k, v) :: f) j)) = upd (fun j => emI ρ (rdI f j)) k (emI ρ v) := by
  funext j
  show emI ρ (if j = k then v else rdI f j) = (if j = k then emI ρ v else emI ρ (rdI f j))
  by_cases h : j = k
  · rw [if_pos h, if_pos h]
  · rw [if_neg h, if_neg h]
/-- what a condition says -/
def cdP (ρ : Nat → Int32) (c : CD) : Prop := match c.1 with
  | 0 => emI ρ c.2.1 = emI ρ c.2.2
  | 1 => ¬ emI ρ c.2.1 = emI ρ c.2.2
  | 2 => emI ρ c.2.1 < emI ρ c.2.2
  | 3 => emI ρ c.2.2 ≤ emI ρ c.2.1
  | 4 => emI ρ c.2.2 < emI ρ c.2.1
  | 5 => emI ρ c.2.1 ≤ emI ρ c.2.2
  | _ => False
/-- the script's ints are within their bounds; two kinds of ints are made of them -/
def ivP (ρ : Nat → Int32) (iv : List (Int × Int)) : Prop := (∀ (j : Nat) (a b : Int), iv[j]? = some (a, b) → a ≤ (ρ j).toInt ∧ (ρ j).toInt ≤ b) ∧ (iv.length ≤ 5 → ∀ j : Nat, j < 4 → ρ (j + 4) = ρ j &&& 63 ∧ ρ (j + 8) = ρ j + Int32.ofInt (-1))
theorem lohi_ok {ρ : Nat → Int32} {iv : List (Int × Int)} (h : ivP ρ iv) {v : Value} {a b : Int} (e : lohi iv v = some (a, b)) : a ≤ (emI ρ v).toInt ∧ (emI ρ v).toInt ≤ b := by
  cases v with
  | int x =>
    cases e
    exact ⟨Int.le_refl _, Int.le_refl _⟩
  | retAddr j => exact h.1 j a b e
  | _ => cases e
theorem ent_ok {ρ : Nat → Int32} {iv : List (Int × Int)} (h : ivP ρ iv) {c : CD} (e : ent iv c = true) : cdP ρ c := by
  obtain ⟨n, v, w⟩ := c
  unfold ent at e
  cases h1 : lohi iv v with
  | none => rw [h1] at e; cases e
  | some p =>
    obtain ⟨a, b⟩ := p
    cases h2 : lohi iv w with
    | none => rw [h1, h2] at e; cases e
    | some q =>
      obtain ⟨u, z⟩ := q
      rw [h1, h2] at e
      obtain ⟨g1, g2⟩ := lohi_ok h h1
      obtain ⟨g3, g4⟩ := lohi_ok h h2
      unfold cdP
      match n, e with
      | 0, e =>
        simp only [Bool.or_eq_true, Bool.and_eq_true, decide_eq_true_eq] at e
        rcases e with e | e
        · show emI ρ v = emI ρ w
          exact Int32.toInt_inj.mp (by omega)
        · have e : v = w := e
          show emI ρ v = emI ρ w
          rw [e]
      | 1, e =>
        simp only [Bool.or_eq_true, decide_eq_true_eq] at e
        intro q
        have q : emI ρ v = emI ρ w := q
        rw [q] at g1 g2
        omega
      | 2, e =>
        show emI ρ v < emI ρ w
        exact Int32.lt_iff_toInt_lt.mpr (by have := of_decide_eq_true e; omega)
      | 3, e =>
        show emI ρ w ≤ emI ρ v
        exact Int32.le_iff_toInt_le.mpr (by have := of_decide_eq_true e; omega)
      | 4, e =>
        show emI ρ w < emI ρ v
        exact Int32.lt_iff_toInt_lt.mpr (by have := of_decide_eq_true e; omega)
      | 5, e =>
        show emI ρ v ≤ emI ρ w
        exact Int32.le_iff_toInt_le.mpr (by have := of_decide_eq_true e; omega)
      | _ + 6, e => cases e
theorem symv_ok {ρ : Nat → Int32} {iv : List (Int × Int)} (h : ivP ρ iv) (j : Nat) : emI ρ (symv iv j) = ρ j := by
  unfold symv
  cases hj : iv[j]? with
  | none => rfl
  | some p =>
    obtain ⟨a, b⟩ := p
    obtain ⟨g1, g2⟩ := h.1 j a b hj
    by_cases hab : a = b
    · simp only [if_pos hab]
      show Int32.ofInt a = ρ j
      rw [show a = (ρ j).toInt by omega, Int32.ofInt_toInt]
    · simp only [if_neg hab]
      rfl
theorem rdQ_up (pre : Nat → Nat) (base : Nat) (ρ : Nat → Int32) (f : List (Nat × Option Nat)) (k : Nat) (v : Option Nat) : (fun j => (rdQ ((k, v) :: f) j).map (mad pre base)) = va_up (fun j => (rdQ f j).map (mad pre base)) k (v.map (mad pre base)) := by
  funext j
  show ((if j = k then v else rdQ f j).map (mad pre base)) = (if j = k then v.map (mad pre base) else (rdQ f j).map (mad pre base))
  by_cases h : j = k
  · rw [if_pos h, if_pos h]
  · rw [if_neg h, if_neg h]
end
section
/-! A step of the small machine is a step of the machine. -/
theorem if_ok {α : Type} {c : Prop} {_d : Decidable c} {a : Option α} {z : α} (h : (if c then a else none) = some z) : c ∧ a = some z := by
  by_cases hc : c
  · rw [if_pos hc] at h
    exact ⟨hc, h⟩
  · rw [if_neg hc] at h
    cases h
theorem s1_ok {st : List Value} {k : Value → List Value → Option ST} {z : ST} (h : s1 st k = some z) : ∃ v r, st = v :: r ∧ k v r = some z := by
  cases st with
  | nil => cases h
  | cons v r => exact ⟨v, r, rfl, h⟩
theorem s1i_ok {st : List Value} {k : Int32 → List Value → Option ST} {z : ST} (h : s1i st k = some z) : ∃ a r, st = .int a :: r ∧ k a r = some z := by
  obtain ⟨v, r, rfl, h⟩ := s1_ok h
  cases v with
  | int a => exact ⟨a, r, rfl, h⟩
  | _ => cases h
theorem s1n_ok {st : List Value} {k : Value → List Value → Option ST} {z : ST} (h : s1n st k = some z) : ∃ v r, st = v :: r ∧ isI v = true ∧ k v r = some z := by
  obtain ⟨v, r, rfl, h2⟩ := s1_ok h
  obtain ⟨hv, h3⟩ := if_ok h2
  exact ⟨v, r, rfl, hv, h3⟩
theorem s1l_ok {st : List Value} {k : Int64 → List Value → Option ST} {z : ST} (h : s1l st k = some z) : ∃ a r, st = .long a :: r ∧ k a r = some z := by
  obtain ⟨v, r, rfl, h⟩ := s1_ok h
  cases v with
  | long a => exact ⟨a, r, rfl, h⟩
  | _ => cases h
theorem s1r_ok {st : List Value} {k : Nat → List Value → Option ST} {z : ST} (h : s1r st k = some z) : ∃ a r, st = .ref a :: r ∧ k a r = some z := by
  obtain ⟨v, r, rfl, h⟩ := s1_ok h
  cases v with
  | ref a => exact ⟨a, r, rfl, h⟩
  | _ => cases h
theorem s2i_ok {st : List Value} {k : Int32 → Int32 → List Value → Option ST} {z : ST} (h : s2i st k = some z) : ∃ a b r, st = .int b :: .int a :: r ∧ k a b r = some z := by
  obtain ⟨b, r1, rfl, h1⟩ := s1i_ok h
  obtain ⟨a, r, rfl, h2⟩ := s1i_ok h1
  exact ⟨a, b, r, rfl, h2⟩
theorem s2l_ok {st : List Value} {k : Int64 → Int64 → List Value → Option ST} {z : ST} (h : s2l st k = some z) : ∃ a b r, st = .long b :: .long a :: r ∧ k a b r = some z := by
  obtain ⟨b, r1, rfl, h1⟩ := s1l_ok h
  obtain ⟨a, r, rfl, h2⟩ := s1l_ok h1
  exact ⟨a, b, r, rfl, h2⟩
theorem okk_ok {nx : Nat} {ls : ML} {st : List Value} {h : MH} {z : Nat × ML × List Value × MH × Nat × Nat} (e : okk nx ls st h = some (.inl z)) : z = (nx, ls, st, h, 0, 0) := by
  unfold okk at e
  cases e
  rfl
theorem ifn_ok {α : Type} {c : Prop} {_d : Decidable c} {a : Option α} {z : α} (h : (if c then none else a) = some z) : ¬ c ∧ a = some z := by
  by_cases hc : c
  · rw [if_pos hc] at h
    cases h
  · rw [if_neg hc] at h
    exact ⟨hc, h⟩
def mty (dA : Nat → ClassId) (tyL : List FieldType) : List (ClassId × FieldType) := (List.range tyL.length).map fun k => (dA k, tyL.getD k .int)
theorem mty_at {dA : Nat → ClassId} {tyL : List FieldType} {k : Nat} {ty : FieldType} (h : tyL[k]? = some ty) : (mty dA tyL)[k]? = some (dA k, ty) := by
  unfold mty
  have hk := (List.getElem?_eq_some_iff.mp h).1
  rw [List.getElem?_map, List.getElem?_range hk]
  simp [List.getD, h]
def mCx (p : Program) (s : State) (m : MethodId) (args : Array Value) (c : Code) (D : va_G) (cl : List vw_C) (dA : Nat → ClassId) (pre : Nat → Nat) (base : Nat) (ρ : Nat → Int32) (tyL : List FieldType) (Ts : List Cond) (G : GI) (cc : ByteArray) (own : String) (nL : Nat) : Prop :=
  p.tables.exec = Jvm.exec ∧ c.code = cc ∧ c.maxLocals = nL ∧ s.vm.findClass own = some m.cls ∧ (∀ w ∈ Ts, w.before args s = true) ∧ va_K D cl (mty dA tyL) s ∧ base ≤ s.heap.size ∧ (∀ (a n : Nat) (f : Nat → Int32), G.2.2.1 a = some (n, f) → a < 8 → va_T .int (pre a) n (fun j => .int (if a = 0 then ρ j else f j)) (fun q => base ≤ q) s s.heap)
section SO
variable {p : Program} {l : Launch} {e : Env} {R : Room} {s : State} {m : MethodId} {args : Array Value} {below : List Frame} {meth : Method} {c : Code} {Q : State → Prop}
variable {D : va_G} {cl : List vw_C} {dA : Nat → ClassId} {pre : Nat → Nat} {base : Nat} {ρ : Nat → Int32} {tyL : List FieldType} {Ts : List Cond} {G : GI} {cc : ByteArray} {own : String} {nL : Nat} {iv : List (Int × Int)}
variable {M pc nx x y : Nat} {ls : ML} {st : List Value} {h : MH} {cells slots : Nat} {z : Nat × ML × List Value × MH × Nat × Nat}
def mGo (p : Program) (l : Launch) (e : Env) (R : Room) (s : State) (m : MethodId) (args : Array Value) (below : List Frame) (meth : Method) (c : Code) (Q : State → Prop) (D : va_G) (cl : List vw_C) (dA : Nat → ClassId) (pre : Nat → Nat) (base : Nat) (ρ : Nat → Int32) (nL : Nat)
    (pc : Nat) (ls : ML) (st : List Value) (h : MH) (cells slots : Nat) : Prop := ∀ (lsA : Array Slot) (H : Heap) (locs : List Loc), lv_has lsA nL (emL pre base ρ ls) → mR D cl dA pre base ρ h H → va_S (fun q => base ≤ q) s.heap H locs → s.heap.size + cells = H.size →
      W p l e R s m args below meth c H locs cells slots Q (F0 m pc lsA (st.map (emv pre base ρ)))
theorem so_iconst {n : Int} (X : mCx p s m args c D cl dA pre base ρ tyL Ts G cc own nL) (hd : decode cc pc = .ok (.iconst n, 1)) (hnx : nx = pc + 1) (hz : stepI iv G M pc (.iconst n) nx x y ls st h = some (.inl z)) (kk : mGo p l e R s m args below meth c Q D cl dA pre base ρ nL z.1 z.2.1 z.2.2.1 z.2.2.2.1 (cells + z.2.2.2.2.1) (slots + z.2.2.2.2.2)) : mGo p l e R s m args below meth c Q D cl dA pre base ρ nL pc ls st h cells slots := by
  cases okk_ok hz
  subst hnx
  intro lsA H locs hL hR hS hZ
  exact lv_iconst X.1 X.2.1 hd rfl (kk lsA H locs hL hR hS hZ)
theorem so_bipush {n : Int} (X : mCx p s m args c D cl dA pre base ρ tyL Ts G cc own nL) (hd : decode cc pc = .ok (.bipush n, 2)) (hnx : nx = pc + 2) (hz : stepI iv G M pc (.bipush n) nx x y ls st h = some (.inl z)) (kk : mGo p l e R s m args below meth c Q D cl dA pre base ρ nL z.1 z.2.1 z.2.2.1 z.2.2.2.1 (cells + z.2.2.2.2.1) (slots + z.2.2.2.2.2)) : mGo p l e R s m args below meth c Q D cl dA pre base ρ nL pc ls st h cells slots := by
  cases okk_ok hz
  subst hnx
  intro lsA H locs hL hR hS hZ
  exact lv_bipush X.1 X.2.1 hd rfl (kk lsA H locs hL hR hS hZ)
theorem so_sipush {n : Int} (X : mCx p s m args c D cl dA pre base ρ tyL Ts G cc own nL) (hd : decode cc pc = .ok (.sipush n, 3)) (hnx : nx = pc + 3) (hz : stepI iv G M pc (.sipush n) nx x y ls st h = some (.inl z)) (kk : mGo p l e R s m args below meth c Q D cl dA pre base ρ nL z.1 z.2.1 z.2.2.1 z.2.2.2.1 (cells + z.2.2.2.2.1) (slots + z.2.2.2.2.2)) : mGo p l e R s m args below meth c Q D cl dA pre base ρ nL pc ls st h cells slots := by
  cases okk_ok hz
  subst hnx
  intro lsA H locs hL hR hS hZ
  exact lv_sipush X.1 X.2.1 hd rfl (kk lsA H locs hL hR hS hZ)
theorem so_lconst {n : Fin 2} (X : mCx p s m args c D cl dA pre base ρ tyL Ts G cc own nL) (hd : decode cc pc = .ok (.lconst n, 1)) (hnx : nx = pc + 1) (hz : stepI iv G M pc (.lconst n) nx x y ls st h = some (.inl z)) (kk : mGo p l e R s m args below meth c Q D cl dA pre base ρ nL z.1 z.2.1 z.2.2.1 z.2.2.2.1 (cells + z.2.2.2.2.1) (slots + z.2.2.2.2.2)) : mGo p l e R s m args below meth c Q D cl dA pre base ρ nL pc ls st h cells slots := by
  cases okk_ok hz
  subst hnx
  intro lsA H locs hL hR hS hZ
  exact lv_lconst X.1 X.2.1 hd rfl (kk lsA H locs hL hR hS hZ)
theorem so_null  (X : mCx p s m args c D cl dA pre base ρ tyL Ts G cc own nL) (hd : decode cc pc = .ok (.aconst_null, 1)) (hnx : nx = pc + 1) (hz : stepI iv G M pc (.aconst_null) nx x y ls st h = some (.inl z)) (kk : mGo p l e R s m args below meth c Q D cl dA pre base ρ nL z.1 z.2.1 z.2.2.1 z.2.2.2.1 (cells + z.2.2.2.2.1) (slots + z.2.2.2.2.2)) : mGo p l e R s m args below meth c Q D cl dA pre base ρ nL pc ls st h cells slots := by
  cases okk_ok hz
  subst hnx
  intro lsA H locs hL hR hS hZ
  exact lv_null X.1 X.2.1 hd (kk lsA H locs hL hR hS hZ)
theorem stload_ok {ls : ML} {i nx : Nat} {st : List Value} {h : MH} {ok : Value → Bool} {z : Nat × ML × List Value × MH × Nat × Nat} (e : stload ls i nx st h ok = some (.inl z)) : ∃ v, lkl ls i = some v ∧ ok v = true ∧ z = (nx, ls, v :: st, h, 0, 0) := by
  unfold stload at e
  cases hv : lkl ls i with
  | none => rw [hv] at e; cases e
  | some v =>
    rw [hv] at e
    obtain ⟨h1, h2⟩ := if_ok e
    exact ⟨v, rfl, h1, okk_ok h2⟩
theorem so_iload_n {k : Fin 4} (X : mCx p s m args c D cl dA pre base ρ tyL Ts G cc own nL) (hd : decode cc pc = .ok (.iload_n k, 1)) (hnx : nx = pc + 1) (hz : stepI iv G M pc (.iload_n k) nx x y ls st h = some (.inl z)) (kk : mGo p l e R s m args below meth c Q D cl dA pre base ρ nL z.1 z.2.1 z.2.2.1 z.2.2.2.1 (cells + z.2.2.2.2.1) (slots + z.2.2.2.2.2)) : mGo p l e R s m args below meth c Q D cl dA pre base ρ nL pc ls st h cells slots := by
  obtain ⟨v, hv, hok, rfl⟩ := stload_ok hz
  subst hnx
  intro lsA H locs hL hR hS hZ
  have hv := emL_lk hL hv
  cases v with
  | int a => exact lv_iload_n X.1 X.2.1 hd rfl hv (kk lsA H locs hL hR hS hZ)
  | retAddr j => exact lv_iload_n X.1 X.2.1 hd rfl hv (kk lsA H locs hL hR hS hZ)
  | _ => cases hok
theorem so_iload {k : Nat} (X : mCx p s m args c D cl dA pre base ρ tyL Ts G cc own nL) (hd : decode cc pc = .ok (.iload k, 2)) (hnx : nx = pc + 2) (hz : stepI iv G M pc (.iload k) nx x y ls st h = some (.inl z)) (kk : mGo p l e R s m args below meth c Q D cl dA pre base ρ nL z.1 z.2.1 z.2.2.1 z.2.2.2.1 (cells + z.2.2.2.2.1) (slots + z.2.2.2.2.2)) : mGo p l e R s m args below meth c Q D cl dA pre base ρ nL pc ls st h cells slots := by
  obtain ⟨v, hv, hok, rfl⟩ := stload_ok hz
  subst hnx
  intro lsA H locs hL hR hS hZ
  have hv := emL_lk hL hv
  cases v with
  | int a => exact lv_iload X.1 X.2.1 hd hv (kk lsA H locs hL hR hS hZ)
  | retAddr j => exact lv_iload X.1 X.2.1 hd hv (kk lsA H locs hL hR hS hZ)
  | _ => cases hok
theorem so_lload_n {k : Fin 4} (X : mCx p s m args c D cl dA pre base ρ tyL Ts G cc own nL) (hd : decode cc pc = .ok (.lload_n k, 1)) (hnx : nx = pc + 1) (hz : stepI iv G M pc (.lload_n k) nx x y ls st h = some (.inl z)) (kk : mGo p l e R s m args below meth c Q D cl dA pre base ρ nL z.1 z.2.1 z.2.2.1 z.2.2.2.1 (cells + z.2.2.2.2.1) (slots + z.2.2.2.2.2)) : mGo p l e R s m args below meth c Q D cl dA pre base ρ nL pc ls st h cells slots := by
  obtain ⟨v, hv, hok, rfl⟩ := stload_ok hz
  subst hnx
  intro lsA H locs hL hR hS hZ
  have hv := emL_lk hL hv
  cases v with
  | long a => exact lv_lload_n X.1 X.2.1 hd rfl hv (kk lsA H locs hL hR hS hZ)
  | _ => cases hok
theorem so_lload {k : Nat} (X : mCx p s m args c D cl dA pre base ρ tyL Ts G cc own nL) (hd : decode cc pc = .ok (.lload k, 2)) (hnx : nx = pc + 2) (hz : stepI iv G M pc (.lload k) nx x y ls st h = some (.inl z)) (kk : mGo p l e R s m args below meth c Q D cl dA pre base ρ nL z.1 z.2.1 z.2.2.1 z.2.2.2.1 (cells + z.2.2.2.2.1) (slots + z.2.2.2.2.2)) : mGo p l e R s m args below meth c Q D cl dA pre base ρ nL pc ls st h cells slots := by
  obtain ⟨v, hv, hok, rfl⟩ := stload_ok hz
  subst hnx
  intro lsA H locs hL hR hS hZ
  have hv := emL_lk hL hv
  cases v with
  | long a => exact lv_lload X.1 X.2.1 hd hv (kk lsA H locs hL hR hS hZ)
  | _ => cases hok
theorem so_aload_n {k : Fin 4} (X : mCx p s m args c D cl dA pre base ρ tyL Ts G cc own nL) (hd : decode cc pc = .ok (.aload_n k, 1)) (hnx : nx = pc + 1) (hz : stepI iv G M pc (.aload_n k) nx x y ls st h = some (.inl z)) (kk : mGo p l e R s m args below meth c Q D cl dA pre base ρ nL z.1 z.2.1 z.2.2.1 z.2.2.2.1 (cells + z.2.2.2.2.1) (slots + z.2.2.2.2.2)) : mGo p l e R s m args below meth c Q D cl dA pre base ρ nL pc ls st h cells slots := by
  obtain ⟨v, hv, hok, rfl⟩ := stload_ok hz
  subst hnx
  intro lsA H locs hL hR hS hZ
  have hv := emL_lk hL hv
  cases v with
  | ref a => exact lv_aload_n X.1 X.2.1 hd rfl hv (kk lsA H locs hL hR hS hZ)
  | null => exact lv_aload_nN X.1 X.2.1 hd rfl hv (kk lsA H locs hL hR hS hZ)
  | _ => cases hok
theorem so_aload {k : Nat} (X : mCx p s m args c D cl dA pre base ρ tyL Ts G cc own nL) (hd : decode cc pc = .ok (.aload k, 2)) (hnx : nx = pc + 2) (hz : stepI iv G M pc (.aload k) nx x y ls st h = some (.inl z)) (kk : mGo p l e R s m args below meth c Q D cl dA pre base ρ nL z.1 z.2.1 z.2.2.1 z.2.2.2.1 (cells + z.2.2.2.2.1) (slots + z.2.2.2.2.2)) : mGo p l e R s m args below meth c Q D cl dA pre base ρ nL pc ls st h cells slots := by
  obtain ⟨v, hv, hok, rfl⟩ := stload_ok hz
  subst hnx
  intro lsA H locs hL hR hS hZ
  have hv := emL_lk hL hv
  cases v with
  | ref a => exact lv_aload X.1 X.2.1 hd hv (kk lsA H locs hL hR hS hZ)
  | null => exact lv_aloadN X.1 X.2.1 hd hv (kk lsA H locs hL hR hS hZ)
  | _ => cases hok
theorem ststore1_ok {G : GI} {M : Nat} {ls : ML} {i nx : Nat} {st : List Value} {h : MH} {ok : Value → Bool} {z : Nat × ML × List Value × MH × Nat × Nat} (e : ststore1 G M ls i nx st h ok = some (.inl z)) : ∃ v r, st = v :: r ∧ ok v = true ∧ i < G.2.1 M ∧ z = (nx, sto1 ls i v, r, h, 0, 0) := by
  obtain ⟨v, r, rfl, e⟩ := s1_ok e
  obtain ⟨h1, h2⟩ := if_ok e
  simp only [Bool.and_eq_true, decide_eq_true_eq] at h1
  exact ⟨v, r, rfl, h1.1, h1.2, okk_ok h2⟩
theorem ststore2_ok {G : GI} {M : Nat} {ls : ML} {i nx : Nat} {st : List Value} {h : MH} {z : Nat × ML × List Value × MH × Nat × Nat} (e : ststore2 G M ls i nx st h = some (.inl z)) : ∃ v r, st = v :: r ∧ isL v = true ∧ i + 1 < G.2.1 M ∧ z = (nx, sto2 ls i v, r, h, 0, 0) := by
  obtain ⟨v, r, rfl, e⟩ := s1_ok e
  obtain ⟨h1, h2⟩ := if_ok e
  simp only [Bool.and_eq_true, decide_eq_true_eq] at h1
  exact ⟨v, r, rfl, h1.1, h1.2, okk_ok h2⟩
theorem so_istore_n {k : Fin 4} (X : mCx p s m args c D cl dA pre base ρ tyL Ts G cc own nL) (hd : decode cc pc = .ok (.istore_n k, 1)) (hnx : nx = pc + 1) (hnl : G.2.1 M = nL) (hz : stepI iv G M pc (.istore_n k) nx x y ls st h = some (.inl z)) (kk : mGo p l e R s m args below meth c Q D cl dA pre base ρ nL z.1 z.2.1 z.2.2.1 z.2.2.2.1 (cells + z.2.2.2.2.1) (slots + z.2.2.2.2.2)) : mGo p l e R s m args below meth c Q D cl dA pre base ρ nL pc ls st h cells slots := by
  obtain ⟨v, r, rfl, hok, hi, rfl⟩ := ststore1_ok hz
  rw [hnl] at hi
  subst hnx
  intro lsA H locs hL hR hS hZ
  cases v with
  | int a => exact lv_istore_n X.1 X.2.1 hd rfl hL hi (emL_sto1 ls _ (.int a)) (fun lsA hL => kk lsA H locs hL hR hS hZ)
  | retAddr j => exact lv_istore_n X.1 X.2.1 hd rfl hL hi (emL_sto1 ls _ (.retAddr j)) (fun lsA hL => kk lsA H locs hL hR hS hZ)
  | _ => cases hok
theorem so_istore {k : Nat} (X : mCx p s m args c D cl dA pre base ρ tyL Ts G cc own nL) (hd : decode cc pc = .ok (.istore k, 2)) (hnx : nx = pc + 2) (hnl : G.2.1 M = nL) (hz : stepI iv G M pc (.istore k) nx x y ls st h = some (.inl z)) (kk : mGo p l e R s m args below meth c Q D cl dA pre base ρ nL z.1 z.2.1 z.2.2.1 z.2.2.2.1 (cells + z.2.2.2.2.1) (slots + z.2.2.2.2.2)) : mGo p l e R s m args below meth c Q D cl dA pre base ρ nL pc ls st h cells slots := by
  obtain ⟨v, r, rfl, hok, hi, rfl⟩ := ststore1_ok hz
  rw [hnl] at hi
  subst hnx
  intro lsA H locs hL hR hS hZ
  cases v with
  | int a => exact lv_istore X.1 X.2.1 hd hL hi (emL_sto1 ls _ (.int a)) (fun lsA hL => kk lsA H locs hL hR hS hZ)
  | retAddr j => exact lv_istore X.1 X.2.1 hd hL hi (emL_sto1 ls _ (.retAddr j)) (fun lsA hL => kk lsA H locs hL hR hS hZ)
  | _ => cases hok
theorem so_astore_n {k : Fin 4} (X : mCx p s m args c D cl dA pre base ρ tyL Ts G cc own nL) (hd : decode cc pc = .ok (.astore_n k, 1)) (hnx : nx = pc + 1) (hnl : G.2.1 M = nL) (hz : stepI iv G M pc (.astore_n k) nx x y ls st h = some (.inl z)) (kk : mGo p l e R s m args below meth c Q D cl dA pre base ρ nL z.1 z.2.1 z.2.2.1 z.2.2.2.1 (cells + z.2.2.2.2.1) (slots + z.2.2.2.2.2)) : mGo p l e R s m args below meth c Q D cl dA pre base ρ nL pc ls st h cells slots := by
  obtain ⟨v, r, rfl, hok, hi, rfl⟩ := ststore1_ok hz
  rw [hnl] at hi
  subst hnx
  intro lsA H locs hL hR hS hZ
  cases v with
  | ref a => exact lv_astore_n X.1 X.2.1 hd rfl hL hi (emL_sto1 ls _ (.ref a)) (fun lsA hL => kk lsA H locs hL hR hS hZ)
  | null => exact lv_astore_nN X.1 X.2.1 hd rfl hL hi (emL_sto1 ls _ .null) (fun lsA hL => kk lsA H locs hL hR hS hZ)
  | _ => cases hok
theorem so_astore {k : Nat} (X : mCx p s m args c D cl dA pre base ρ tyL Ts G cc own nL) (hd : decode cc pc = .ok (.astore k, 2)) (hnx : nx = pc + 2) (hnl : G.2.1 M = nL) (hz : stepI iv G M pc (.astore k) nx x y ls st h = some (.inl z)) (kk : mGo p l e R s m args below meth c Q D cl dA pre base ρ nL z.1 z.2.1 z.2.2.1 z.2.2.2.1 (cells + z.2.2.2.2.1) (slots + z.2.2.2.2.2)) : mGo p l e R s m args below meth c Q D cl dA pre base ρ nL pc ls st h cells slots := by
  obtain ⟨v, r, rfl, hok, hi, rfl⟩ := ststore1_ok hz
  rw [hnl] at hi
  subst hnx
  intro lsA H locs hL hR hS hZ
  cases v with
  | ref a => exact lv_astore X.1 X.2.1 hd hL hi (emL_sto1 ls _ (.ref a)) (fun lsA hL => kk lsA H locs hL hR hS hZ)
  | null => exact lv_astoreN X.1 X.2.1 hd hL hi (emL_sto1 ls _ .null) (fun lsA hL => kk lsA H locs hL hR hS hZ)
  | _ => cases hok
theorem so_lstore_n {k : Fin 4} (X : mCx p s m args c D cl dA pre base ρ tyL Ts G cc own nL) (hd : decode cc pc = .ok (.lstore_n k, 1)) (hnx : nx = pc + 1) (hnl : G.2.1 M = nL) (hz : stepI iv G M pc (.lstore_n k) nx x y ls st h = some (.inl z)) (kk : mGo p l e R s m args below meth c Q D cl dA pre base ρ nL z.1 z.2.1 z.2.2.1 z.2.2.2.1 (cells + z.2.2.2.2.1) (slots + z.2.2.2.2.2)) : mGo p l e R s m args below meth c Q D cl dA pre base ρ nL pc ls st h cells slots := by
  obtain ⟨v, r, rfl, hok, hi, rfl⟩ := ststore2_ok hz
  rw [hnl] at hi
  subst hnx
  intro lsA H locs hL hR hS hZ
  cases v with
  | long a => exact lv_lstore_n X.1 X.2.1 hd rfl hL hi (emL_sto2 ls _ (.long a)) (fun lsA hL => kk lsA H locs hL hR hS hZ)
  | _ => cases hok
theorem so_lstore {k : Nat} (X : mCx p s m args c D cl dA pre base ρ tyL Ts G cc own nL) (hd : decode cc pc = .ok (.lstore k, 2)) (hnx : nx = pc + 2) (hnl : G.2.1 M = nL) (hz : stepI iv G M pc (.lstore k) nx x y ls st h = some (.inl z)) (kk : mGo p l e R s m args below meth c Q D cl dA pre base ρ nL z.1 z.2.1 z.2.2.1 z.2.2.2.1 (cells + z.2.2.2.2.1) (slots + z.2.2.2.2.2)) : mGo p l e R s m args below meth c Q D cl dA pre base ρ nL pc ls st h cells slots := by
  obtain ⟨v, r, rfl, hok, hi, rfl⟩ := ststore2_ok hz
  rw [hnl] at hi
  subst hnx
  intro lsA H locs hL hR hS hZ
  cases v with
  | long a => exact lv_lstore X.1 X.2.1 hd hL hi (emL_sto2 ls _ (.long a)) (fun lsA hL => kk lsA H locs hL hR hS hZ)
  | _ => cases hok
theorem so_iinc {k : Nat} {n : Int} (X : mCx p s m args c D cl dA pre base ρ tyL Ts G cc own nL) (hd : decode cc pc = .ok (.iinc k n, 3)) (hnx : nx = pc + 3) (hI : ivP ρ iv) (hnl : G.2.1 M = nL) (hz : stepI iv G M pc (.iinc k n) nx x y ls st h = some (.inl z)) (kk : mGo p l e R s m args below meth c Q D cl dA pre base ρ nL z.1 z.2.1 z.2.2.1 z.2.2.2.1 (cells + z.2.2.2.2.1) (slots + z.2.2.2.2.2)) : mGo p l e R s m args below meth c Q D cl dA pre base ρ nL pc ls st h cells slots := by
  unfold stepI at hz
  simp only at hz
  cases hv : lkl ls k with
  | none => rw [hv] at hz; cases hz
  | some v =>
    rw [hv] at hz
    cases v with
    | int a =>
      obtain ⟨hi, hz⟩ := if_ok hz
      rw [hnl] at hi
      cases okk_ok hz
      subst hnx
      intro lsA H locs hL hR hS hZ
      unfold lkl at hv
      obtain ⟨q, hq, hqv⟩ := Option.map_eq_some_iff.mp hv
      have hq2 : q.1 = k := by simpa using List.find?_some hq
      have hm : (k, Value.int a) ∈ emL pre base ρ ls := List.mem_map.mpr ⟨q, List.mem_of_find?_eq_some hq, by rw [hq2, hqv]; rfl⟩
      obtain ⟨j, hj⟩ := List.getElem?_of_mem hm
      exact lv_iinc X.1 X.2.1 hd hL hj rfl hi (emL_sto1 ls k (.int (a + Int32.ofInt n))) (fun lsA hL => kk lsA H locs hL hR hS hZ)
    | retAddr j =>
      obtain ⟨hi, hz⟩ := if_ok hz
      simp only [Bool.and_eq_true, decide_eq_true_eq] at hi
      rw [hnl] at hi
      cases okk_ok hz
      subst hnx
      intro lsA H locs hL hR hS hZ
      unfold lkl at hv
      obtain ⟨q, hq, hqv⟩ := Option.map_eq_some_iff.mp hv
      have hq2 : q.1 = k := by simpa using List.find?_some hq
      have hm : (k, Value.int (ρ j)) ∈ emL pre base ρ ls := List.mem_map.mpr ⟨q, List.mem_of_find?_eq_some hq, by rw [hq2, hqv]; rfl⟩
      obtain ⟨t, ht⟩ := List.getElem?_of_mem hm
      have he : Value.int (ρ j + Int32.ofInt n) = emv pre base ρ (.retAddr (j + 8)) := by
        show _ = Value.int (ρ (j + 8))
        rw [(hI.2 hi.2.2.2 j hi.2.1).2, hi.2.2.1]
      exact lv_iinc X.1 X.2.1 hd hL ht rfl hi.1 (by rw [he]; exact emL_sto1 ls k (.retAddr (j + 8))) (fun lsA hL => kk lsA H locs hL hR hS hZ)
    | _ => cases hz
theorem so_iadd  (X : mCx p s m args c D cl dA pre base ρ tyL Ts G cc own nL) (hd : decode cc pc = .ok (.iadd, 1)) (hnx : nx = pc + 1) (hz : stepI iv G M pc (.iadd) nx x y ls st h = some (.inl z)) (kk : mGo p l e R s m args below meth c Q D cl dA pre base ρ nL z.1 z.2.1 z.2.2.1 z.2.2.2.1 (cells + z.2.2.2.2.1) (slots + z.2.2.2.2.2)) : mGo p l e R s m args below meth c Q D cl dA pre base ρ nL pc ls st h cells slots := by
  obtain ⟨a, b, r, rfl, hz⟩ := s2i_ok hz
  cases okk_ok hz
  subst hnx
  intro lsA H locs hL hR hS hZ
  exact lv_iadd X.1 X.2.1 hd (kk lsA H locs hL hR hS hZ)
theorem so_isub  (X : mCx p s m args c D cl dA pre base ρ tyL Ts G cc own nL) (hd : decode cc pc = .ok (.isub, 1)) (hnx : nx = pc + 1) (hz : stepI iv G M pc (.isub) nx x y ls st h = some (.inl z)) (kk : mGo p l e R s m args below meth c Q D cl dA pre base ρ nL z.1 z.2.1 z.2.2.1 z.2.2.2.1 (cells + z.2.2.2.2.1) (slots + z.2.2.2.2.2)) : mGo p l e R s m args below meth c Q D cl dA pre base ρ nL pc ls st h cells slots := by
  obtain ⟨a, b, r, rfl, hz⟩ := s2i_ok hz
  cases okk_ok hz
  subst hnx
  intro lsA H locs hL hR hS hZ
  exact lv_isub X.1 X.2.1 hd (kk lsA H locs hL hR hS hZ)
theorem so_imul  (X : mCx p s m args c D cl dA pre base ρ tyL Ts G cc own nL) (hd : decode cc pc = .ok (.imul, 1)) (hnx : nx = pc + 1) (hz : stepI iv G M pc (.imul) nx x y ls st h = some (.inl z)) (kk : mGo p l e R s m args below meth c Q D cl dA pre base ρ nL z.1 z.2.1 z.2.2.1 z.2.2.2.1 (cells + z.2.2.2.2.1) (slots + z.2.2.2.2.2)) : mGo p l e R s m args below meth c Q D cl dA pre base ρ nL pc ls st h cells slots := by
  obtain ⟨a, b, r, rfl, hz⟩ := s2i_ok hz
  cases okk_ok hz
  subst hnx
  intro lsA H locs hL hR hS hZ
  exact lv_imul X.1 X.2.1 hd (kk lsA H locs hL hR hS hZ)
theorem so_iand  (X : mCx p s m args c D cl dA pre base ρ tyL Ts G cc own nL) (hd : decode cc pc = .ok (.iand, 1)) (hnx : nx = pc + 1) (hI : ivP ρ iv) (hz : stepI iv G M pc (.iand) nx x y ls st h = some (.inl z)) (kk : mGo p l e R s m args below meth c Q D cl dA pre base ρ nL z.1 z.2.1 z.2.2.1 z.2.2.2.1 (cells + z.2.2.2.2.1) (slots + z.2.2.2.2.2)) : mGo p l e R s m args below meth c Q D cl dA pre base ρ nL pc ls st h cells slots := by
  obtain ⟨b, r1, rfl, hb, hz0⟩ := s1n_ok hz
  obtain ⟨a, r, rfl, ha, hz1⟩ := s1n_ok hz0
  clear hz hz0
  cases a with
  | int u =>
    cases b with
    | int w =>
      cases okk_ok hz1
      subst hnx
      intro lsA H locs hL hR hS hZ
      exact lv_iand X.1 X.2.1 hd (kk lsA H locs hL hR hS hZ)
    | _ => cases hz1
  | retAddr j =>
    cases b with
    | int w =>
      obtain ⟨hj, hz2⟩ := if_ok hz1
      simp only [Bool.and_eq_true, decide_eq_true_eq] at hj
      cases okk_ok hz2
      subst hnx
      intro lsA H locs hL hR hS hZ
      have k2 := kk lsA H locs hL hR hS hZ
      have he : emv pre base ρ (.retAddr (j + 4)) = .int (ρ j &&& w) := by
        show Value.int (ρ (j + 4)) = _
        rw [(hI.2 hj.2.2 j hj.1).1, hj.2.1]
      rw [List.map_cons, he] at k2
      exact lv_iand X.1 X.2.1 hd k2
    | _ => cases hz1
  | _ => cases hz1
theorem so_idiv  (X : mCx p s m args c D cl dA pre base ρ tyL Ts G cc own nL) (hd : decode cc pc = .ok (.idiv, 1)) (hnx : nx = pc + 1) (hz : stepI iv G M pc (.idiv) nx x y ls st h = some (.inl z)) (kk : mGo p l e R s m args below meth c Q D cl dA pre base ρ nL z.1 z.2.1 z.2.2.1 z.2.2.2.1 (cells + z.2.2.2.2.1) (slots + z.2.2.2.2.2)) : mGo p l e R s m args below meth c Q D cl dA pre base ρ nL pc ls st h cells slots := by
  obtain ⟨a, b, r, rfl, hz⟩ := s2i_ok hz
  obtain ⟨hb0, hz⟩ := ifn_ok hz
  cases okk_ok hz
  subst hnx
  intro lsA H locs hL hR hS hZ
  exact lv_idiv X.1 X.2.1 hd hb0 (kk lsA H locs hL hR hS hZ)
theorem so_irem  (X : mCx p s m args c D cl dA pre base ρ tyL Ts G cc own nL) (hd : decode cc pc = .ok (.irem, 1)) (hnx : nx = pc + 1) (hz : stepI iv G M pc (.irem) nx x y ls st h = some (.inl z)) (kk : mGo p l e R s m args below meth c Q D cl dA pre base ρ nL z.1 z.2.1 z.2.2.1 z.2.2.2.1 (cells + z.2.2.2.2.1) (slots + z.2.2.2.2.2)) : mGo p l e R s m args below meth c Q D cl dA pre base ρ nL pc ls st h cells slots := by
  obtain ⟨a, b, r, rfl, hz⟩ := s2i_ok hz
  obtain ⟨hb0, hz⟩ := ifn_ok hz
  cases okk_ok hz
  subst hnx
  intro lsA H locs hL hR hS hZ
  exact lv_irem X.1 X.2.1 hd hb0 (kk lsA H locs hL hR hS hZ)
theorem so_ineg  (X : mCx p s m args c D cl dA pre base ρ tyL Ts G cc own nL) (hd : decode cc pc = .ok (.ineg, 1)) (hnx : nx = pc + 1) (hz : stepI iv G M pc (.ineg) nx x y ls st h = some (.inl z)) (kk : mGo p l e R s m args below meth c Q D cl dA pre base ρ nL z.1 z.2.1 z.2.2.1 z.2.2.2.1 (cells + z.2.2.2.2.1) (slots + z.2.2.2.2.2)) : mGo p l e R s m args below meth c Q D cl dA pre base ρ nL pc ls st h cells slots := by
  obtain ⟨a, r, rfl, hz⟩ := s1i_ok hz
  cases okk_ok hz
  subst hnx
  intro lsA H locs hL hR hS hZ
  exact lv_ineg X.1 X.2.1 hd (kk lsA H locs hL hR hS hZ)
theorem so_i2l  (X : mCx p s m args c D cl dA pre base ρ tyL Ts G cc own nL) (hd : decode cc pc = .ok (.i2l, 1)) (hnx : nx = pc + 1) (hz : stepI iv G M pc (.i2l) nx x y ls st h = some (.inl z)) (kk : mGo p l e R s m args below meth c Q D cl dA pre base ρ nL z.1 z.2.1 z.2.2.1 z.2.2.2.1 (cells + z.2.2.2.2.1) (slots + z.2.2.2.2.2)) : mGo p l e R s m args below meth c Q D cl dA pre base ρ nL pc ls st h cells slots := by
  obtain ⟨a, r, rfl, hz⟩ := s1i_ok hz
  cases okk_ok hz
  subst hnx
  intro lsA H locs hL hR hS hZ
  exact lv_i2l X.1 X.2.1 hd rfl (kk lsA H locs hL hR hS hZ)
theorem so_i2b  (X : mCx p s m args c D cl dA pre base ρ tyL Ts G cc own nL) (hd : decode cc pc = .ok (.i2b, 1)) (hnx : nx = pc + 1) (hz : stepI iv G M pc (.i2b) nx x y ls st h = some (.inl z)) (kk : mGo p l e R s m args below meth c Q D cl dA pre base ρ nL z.1 z.2.1 z.2.2.1 z.2.2.2.1 (cells + z.2.2.2.2.1) (slots + z.2.2.2.2.2)) : mGo p l e R s m args below meth c Q D cl dA pre base ρ nL pc ls st h cells slots := by
  obtain ⟨a, r, rfl, hz⟩ := s1i_ok hz
  cases okk_ok hz
  subst hnx
  intro lsA H locs hL hR hS hZ
  exact lv_i2b X.1 X.2.1 hd rfl (kk lsA H locs hL hR hS hZ)
theorem so_l2i  (X : mCx p s m args c D cl dA pre base ρ tyL Ts G cc own nL) (hd : decode cc pc = .ok (.l2i, 1)) (hnx : nx = pc + 1) (hz : stepI iv G M pc (.l2i) nx x y ls st h = some (.inl z)) (kk : mGo p l e R s m args below meth c Q D cl dA pre base ρ nL z.1 z.2.1 z.2.2.1 z.2.2.2.1 (cells + z.2.2.2.2.1) (slots + z.2.2.2.2.2)) : mGo p l e R s m args below meth c Q D cl dA pre base ρ nL pc ls st h cells slots := by
  obtain ⟨a, r, rfl, hz⟩ := s1l_ok hz
  cases okk_ok hz
  subst hnx
  intro lsA H locs hL hR hS hZ
  exact lv_l2i X.1 X.2.1 hd rfl (kk lsA H locs hL hR hS hZ)
theorem so_ladd  (X : mCx p s m args c D cl dA pre base ρ tyL Ts G cc own nL) (hd : decode cc pc = .ok (.ladd, 1)) (hnx : nx = pc + 1) (hz : stepI iv G M pc (.ladd) nx x y ls st h = some (.inl z)) (kk : mGo p l e R s m args below meth c Q D cl dA pre base ρ nL z.1 z.2.1 z.2.2.1 z.2.2.2.1 (cells + z.2.2.2.2.1) (slots + z.2.2.2.2.2)) : mGo p l e R s m args below meth c Q D cl dA pre base ρ nL pc ls st h cells slots := by
  obtain ⟨a, b, r, rfl, hz⟩ := s2l_ok hz
  cases okk_ok hz
  subst hnx
  intro lsA H locs hL hR hS hZ
  exact lv_ladd X.1 X.2.1 hd (kk lsA H locs hL hR hS hZ)
theorem so_lmul  (X : mCx p s m args c D cl dA pre base ρ tyL Ts G cc own nL) (hd : decode cc pc = .ok (.lmul, 1)) (hnx : nx = pc + 1) (hz : stepI iv G M pc (.lmul) nx x y ls st h = some (.inl z)) (kk : mGo p l e R s m args below meth c Q D cl dA pre base ρ nL z.1 z.2.1 z.2.2.1 z.2.2.2.1 (cells + z.2.2.2.2.1) (slots + z.2.2.2.2.2)) : mGo p l e R s m args below meth c Q D cl dA pre base ρ nL pc ls st h cells slots := by
  obtain ⟨a, b, r, rfl, hz⟩ := s2l_ok hz
  cases okk_ok hz
  subst hnx
  intro lsA H locs hL hR hS hZ
  exact lv_lmul X.1 X.2.1 hd (kk lsA H locs hL hR hS hZ)
theorem so_ldiv  (X : mCx p s m args c D cl dA pre base ρ tyL Ts G cc own nL) (hd : decode cc pc = .ok (.ldiv, 1)) (hnx : nx = pc + 1) (hz : stepI iv G M pc (.ldiv) nx x y ls st h = some (.inl z)) (kk : mGo p l e R s m args below meth c Q D cl dA pre base ρ nL z.1 z.2.1 z.2.2.1 z.2.2.2.1 (cells + z.2.2.2.2.1) (slots + z.2.2.2.2.2)) : mGo p l e R s m args below meth c Q D cl dA pre base ρ nL pc ls st h cells slots := by
  obtain ⟨a, b, r, rfl, hz⟩ := s2l_ok hz
  obtain ⟨hb0, hz⟩ := ifn_ok hz
  cases okk_ok hz
  subst hnx
  intro lsA H locs hL hR hS hZ
  exact lv_ldiv X.1 X.2.1 hd hb0 (kk lsA H locs hL hR hS hZ)
theorem so_lrem  (X : mCx p s m args c D cl dA pre base ρ tyL Ts G cc own nL) (hd : decode cc pc = .ok (.lrem, 1)) (hnx : nx = pc + 1) (hz : stepI iv G M pc (.lrem) nx x y ls st h = some (.inl z)) (kk : mGo p l e R s m args below meth c Q D cl dA pre base ρ nL z.1 z.2.1 z.2.2.1 z.2.2.2.1 (cells + z.2.2.2.2.1) (slots + z.2.2.2.2.2)) : mGo p l e R s m args below meth c Q D cl dA pre base ρ nL pc ls st h cells slots := by
  obtain ⟨a, b, r, rfl, hz⟩ := s2l_ok hz
  obtain ⟨hb0, hz⟩ := ifn_ok hz
  cases okk_ok hz
  subst hnx
  intro lsA H locs hL hR hS hZ
  exact lv_lrem X.1 X.2.1 hd hb0 (kk lsA H locs hL hR hS hZ)
theorem so_lneg  (X : mCx p s m args c D cl dA pre base ρ tyL Ts G cc own nL) (hd : decode cc pc = .ok (.lneg, 1)) (hnx : nx = pc + 1) (hz : stepI iv G M pc (.lneg) nx x y ls st h = some (.inl z)) (kk : mGo p l e R s m args below meth c Q D cl dA pre base ρ nL z.1 z.2.1 z.2.2.1 z.2.2.2.1 (cells + z.2.2.2.2.1) (slots + z.2.2.2.2.2)) : mGo p l e R s m args below meth c Q D cl dA pre base ρ nL pc ls st h cells slots := by
  obtain ⟨a, r, rfl, hz⟩ := s1l_ok hz
  cases okk_ok hz
  subst hnx
  intro lsA H locs hL hR hS hZ
  exact lv_lneg X.1 X.2.1 hd (kk lsA H locs hL hR hS hZ)
theorem so_lcmp  (X : mCx p s m args c D cl dA pre base ρ tyL Ts G cc own nL) (hd : decode cc pc = .ok (.lcmp, 1)) (hnx : nx = pc + 1) (hz : stepI iv G M pc (.lcmp) nx x y ls st h = some (.inl z)) (kk : mGo p l e R s m args below meth c Q D cl dA pre base ρ nL z.1 z.2.1 z.2.2.1 z.2.2.2.1 (cells + z.2.2.2.2.1) (slots + z.2.2.2.2.2)) : mGo p l e R s m args below meth c Q D cl dA pre base ρ nL pc ls st h cells slots := by
  obtain ⟨a, b, r, rfl, hz⟩ := s2l_ok hz
  cases okk_ok hz
  subst hnx
  intro lsA H locs hL hR hS hZ
  exact W.lcmp X.1 X.2.1 hd (kk lsA H locs hL hR hS hZ)
theorem cat1_ok {v : Value} {pre : Nat → Nat} {base : Nat} {ρ : Nat → Int32} (h : cat1 v = true) : (emv pre base ρ v).category = 1 := by
  cases v <;> first | rfl | cases h
theorem cat2_ok {v : Value} {pre : Nat → Nat} {base : Nat} {ρ : Nat → Int32} (h : isL v = true) : (emv pre base ρ v).category = 2 := by
  cases v <;> first | rfl | cases h
theorem so_dup  (X : mCx p s m args c D cl dA pre base ρ tyL Ts G cc own nL) (hd : decode cc pc = .ok (.dup, 1)) (hnx : nx = pc + 1) (hz : stepI iv G M pc (.dup) nx x y ls st h = some (.inl z)) (kk : mGo p l e R s m args below meth c Q D cl dA pre base ρ nL z.1 z.2.1 z.2.2.1 z.2.2.2.1 (cells + z.2.2.2.2.1) (slots + z.2.2.2.2.2)) : mGo p l e R s m args below meth c Q D cl dA pre base ρ nL pc ls st h cells slots := by
  obtain ⟨v, r, rfl, hz⟩ := s1_ok hz
  obtain ⟨h1, hz⟩ := if_ok hz
  cases okk_ok hz
  subst hnx
  intro lsA H locs hL hR hS hZ
  exact lv_dup X.1 X.2.1 hd (cat1_ok h1) (kk lsA H locs hL hR hS hZ)
theorem so_pop2  (X : mCx p s m args c D cl dA pre base ρ tyL Ts G cc own nL) (hd : decode cc pc = .ok (.pop2, 1)) (hnx : nx = pc + 1) (hz : stepI iv G M pc (.pop2) nx x y ls st h = some (.inl z)) (kk : mGo p l e R s m args below meth c Q D cl dA pre base ρ nL z.1 z.2.1 z.2.2.1 z.2.2.2.1 (cells + z.2.2.2.2.1) (slots + z.2.2.2.2.2)) : mGo p l e R s m args below meth c Q D cl dA pre base ρ nL pc ls st h cells slots := by
  obtain ⟨v, r, rfl, hz⟩ := s1_ok hz
  obtain ⟨h1, hz⟩ := if_ok hz
  cases okk_ok hz
  subst hnx
  intro lsA H locs hL hR hS hZ
  exact lv_pop2_2 X.1 X.2.1 hd (cat2_ok h1) (kk lsA H locs hL hR hS hZ)
theorem so_pop  (X : mCx p s m args c D cl dA pre base ρ tyL Ts G cc own nL) (hd : decode cc pc = .ok (.pop, 1)) (hnx : nx = pc + 1) (hz : stepI iv G M pc (.pop) nx x y ls st h = some (.inl z)) (kk : mGo p l e R s m args below meth c Q D cl dA pre base ρ nL z.1 z.2.1 z.2.2.1 z.2.2.2.1 (cells + z.2.2.2.2.1) (slots + z.2.2.2.2.2)) : mGo p l e R s m args below meth c Q D cl dA pre base ρ nL pc ls st h cells slots := by
  obtain ⟨v, r, rfl, hz⟩ := s1_ok hz
  obtain ⟨h1, hz⟩ := if_ok hz
  cases okk_ok hz
  subst hnx
  intro lsA H locs hL hR hS hZ
  exact lv_pop X.1 X.2.1 hd (cat1_ok h1) (kk lsA H locs hL hR hS hZ)
theorem so_dup_x1  (X : mCx p s m args c D cl dA pre base ρ tyL Ts G cc own nL) (hd : decode cc pc = .ok (.dup_x1, 1)) (hnx : nx = pc + 1) (hz : stepI iv G M pc (.dup_x1) nx x y ls st h = some (.inl z)) (kk : mGo p l e R s m args below meth c Q D cl dA pre base ρ nL z.1 z.2.1 z.2.2.1 z.2.2.2.1 (cells + z.2.2.2.2.1) (slots + z.2.2.2.2.2)) : mGo p l e R s m args below meth c Q D cl dA pre base ρ nL pc ls st h cells slots := by
  obtain ⟨v, r, rfl, hz⟩ := s1_ok hz
  obtain ⟨w, r, rfl, hz⟩ := s1_ok hz
  obtain ⟨h1, hz⟩ := if_ok hz
  simp only [Bool.and_eq_true] at h1
  cases okk_ok hz
  subst hnx
  intro lsA H locs hL hR hS hZ
  exact lv_dup_x1 X.1 X.2.1 hd (cat1_ok h1.1) (cat1_ok h1.2) (kk lsA H locs hL hR hS hZ)
theorem so_dup2  (X : mCx p s m args c D cl dA pre base ρ tyL Ts G cc own nL) (hd : decode cc pc = .ok (.dup2, 1)) (hnx : nx = pc + 1) (hz : stepI iv G M pc (.dup2) nx x y ls st h = some (.inl z)) (kk : mGo p l e R s m args below meth c Q D cl dA pre base ρ nL z.1 z.2.1 z.2.2.1 z.2.2.2.1 (cells + z.2.2.2.2.1) (slots + z.2.2.2.2.2)) : mGo p l e R s m args below meth c Q D cl dA pre base ρ nL pc ls st h cells slots := by
  obtain ⟨v, r, rfl, hz⟩ := s1_ok hz
  obtain ⟨w, r, rfl, hz⟩ := s1_ok hz
  obtain ⟨h1, hz⟩ := if_ok hz
  simp only [Bool.and_eq_true] at h1
  cases okk_ok hz
  subst hnx
  intro lsA H locs hL hR hS hZ
  exact lv_dup2_11 X.1 X.2.1 hd (cat1_ok h1.1) (cat1_ok h1.2) (kk lsA H locs hL hR hS hZ)
theorem so_goto {off : Int} (X : mCx p s m args c D cl dA pre base ρ tyL Ts G cc own nL) (hd : decode cc pc = .ok (.goto off, 3)) (hnx : nx = pc + 3) (ht : (pc : Int) + off = (x : Int)) (hz : stepI iv G M pc (.goto off) nx x y ls st h = some (.inl z)) (kk : mGo p l e R s m args below meth c Q D cl dA pre base ρ nL z.1 z.2.1 z.2.2.1 z.2.2.2.1 (cells + z.2.2.2.2.1) (slots + z.2.2.2.2.2)) : mGo p l e R s m args below meth c Q D cl dA pre base ρ nL pc ls st h cells slots := by
  cases okk_ok hz
  intro lsA H locs hL hR hS hZ
  exact lv_goto X.1 X.2.1 hd ht (kk lsA H locs hL hR hS hZ)
theorem so_ifnull {off : Int} (X : mCx p s m args c D cl dA pre base ρ tyL Ts G cc own nL) (hd : decode cc pc = .ok (.ifnull off, 3)) (hnx : nx = pc + 3) (ht : (pc : Int) + off = (x : Int)) (hz : stepI iv G M pc (.ifnull off) nx x y ls st h = some (.inl z)) (kk : mGo p l e R s m args below meth c Q D cl dA pre base ρ nL z.1 z.2.1 z.2.2.1 z.2.2.2.1 (cells + z.2.2.2.2.1) (slots + z.2.2.2.2.2)) : mGo p l e R s m args below meth c Q D cl dA pre base ρ nL pc ls st h cells slots := by
  obtain ⟨v, r, rfl, hz⟩ := s1_ok hz
  cases v with
  | null =>
    cases okk_ok hz
    intro lsA H locs hL hR hS hZ
    exact lv_ifnullN X.1 X.2.1 hd ht (kk lsA H locs hL hR hS hZ)
  | ref a =>
    cases okk_ok hz
    subst hnx
    intro lsA H locs hL hR hS hZ
    exact lv_ifnull X.1 X.2.1 hd (kk lsA H locs hL hR hS hZ)
  | _ => cases hz
theorem so_ifnonnull {off : Int} (X : mCx p s m args c D cl dA pre base ρ tyL Ts G cc own nL) (hd : decode cc pc = .ok (.ifnonnull off, 3)) (hnx : nx = pc + 3) (ht : (pc : Int) + off = (x : Int)) (hz : stepI iv G M pc (.ifnonnull off) nx x y ls st h = some (.inl z)) (kk : mGo p l e R s m args below meth c Q D cl dA pre base ρ nL z.1 z.2.1 z.2.2.1 z.2.2.2.1 (cells + z.2.2.2.2.1) (slots + z.2.2.2.2.2)) : mGo p l e R s m args below meth c Q D cl dA pre base ρ nL pc ls st h cells slots := by
  obtain ⟨v, r, rfl, hz⟩ := s1_ok hz
  cases v with
  | null =>
    cases okk_ok hz
    subst hnx
    intro lsA H locs hL hR hS hZ
    exact lv_ifnonnullN X.1 X.2.1 hd (kk lsA H locs hL hR hS hZ)
  | ref a =>
    cases okk_ok hz
    intro lsA H locs hL hR hS hZ
    exact lv_ifnonnull X.1 X.2.1 hd ht (kk lsA H locs hL hR hS hZ)
  | _ => cases hz
theorem rfo_ok {v : Value} {a : Option Nat} {pre : Nat → Nat} {base : Nat} {ρ : Nat → Int32} (h : rfo v = some a) : emv pre base ρ v = va_rf (a.map (mad pre base)) := by
  cases v <;> first | (cases h; rfl) | cases h
theorem mad_inj {pre : Nat → Nat} {base a b : Nat} (ha : 64 ≤ a) (hb : 64 ≤ b) (h : mad pre base a = mad pre base b) : a = b := by
  unfold mad at h
  rw [if_neg (by omega), if_neg (by omega)] at h
  omega
theorem big_inj {pre : Nat → Nat} {base : Nat} {a b : Option Nat} (ha : big a = true) (hb : big b = true) (h : a.map (mad pre base) = b.map (mad pre base)) : a = b := by
  cases a with
  | none => cases b with
    | none => rfl
    | some b => cases h
  | some a => cases b with
    | none => cases h
    | some b =>
      simp [big] at ha hb
      rw [mad_inj ha hb (Option.some.inj h)]
theorem so_acmp_eq {off : Int} (X : mCx p s m args c D cl dA pre base ρ tyL Ts G cc own nL) (hd : decode cc pc = .ok (.if_acmp .eq off, 3)) (hnx : nx = pc + 3) (ht : (pc : Int) + off = (x : Int)) (hz : stepI iv G M pc (.if_acmp .eq off) nx x y ls st h = some (.inl z)) (kk : mGo p l e R s m args below meth c Q D cl dA pre base ρ nL z.1 z.2.1 z.2.2.1 z.2.2.2.1 (cells + z.2.2.2.2.1) (slots + z.2.2.2.2.2)) : mGo p l e R s m args below meth c Q D cl dA pre base ρ nL pc ls st h cells slots := by
  obtain ⟨v, r1, rfl, hz1⟩ := s1_ok hz
  obtain ⟨w, r, rfl, hz2⟩ := s1_ok hz1
  clear hz hz1
  cases hv : rfo v with
  | none => rw [hv] at hz2; cases hz2
  | some a =>
    cases hw : rfo w with
    | none => rw [hv, hw] at hz2; cases hz2
    | some b =>
      rw [hv, hw] at hz2
      obtain ⟨h1, hz⟩ := if_ok hz2
      simp only [Bool.and_eq_true] at h1
      cases okk_ok hz
      subst hnx
      intro lsA H locs hL hR hS hZ
      have k2 := kk lsA H locs hL hR hS hZ
      rw [List.map_cons, List.map_cons, rfo_ok hv, rfo_ok hw]
      refine lv_acmp_eq X.1 X.2.1 hd ht (fun q => ?_) (fun q => ?_)
      · have q2 := big_inj h1.2 h1.1 q
        simp only [if_pos q2] at k2
        exact k2
      · have q2 : ¬ b = a := fun q2 => q (by rw [q2])
        simp only [if_neg q2] at k2
        exact k2
theorem so_acmp_ne {off : Int} (X : mCx p s m args c D cl dA pre base ρ tyL Ts G cc own nL) (hd : decode cc pc = .ok (.if_acmp .ne off, 3)) (hnx : nx = pc + 3) (ht : (pc : Int) + off = (x : Int)) (hz : stepI iv G M pc (.if_acmp .ne off) nx x y ls st h = some (.inl z)) (kk : mGo p l e R s m args below meth c Q D cl dA pre base ρ nL z.1 z.2.1 z.2.2.1 z.2.2.2.1 (cells + z.2.2.2.2.1) (slots + z.2.2.2.2.2)) : mGo p l e R s m args below meth c Q D cl dA pre base ρ nL pc ls st h cells slots := by
  obtain ⟨v, r1, rfl, hz1⟩ := s1_ok hz
  obtain ⟨w, r, rfl, hz2⟩ := s1_ok hz1
  clear hz hz1
  cases hv : rfo v with
  | none => rw [hv] at hz2; cases hz2
  | some a =>
    cases hw : rfo w with
    | none => rw [hv, hw] at hz2; cases hz2
    | some b =>
      rw [hv, hw] at hz2
      obtain ⟨h1, hz⟩ := if_ok hz2
      simp only [Bool.and_eq_true] at h1
      cases okk_ok hz
      subst hnx
      intro lsA H locs hL hR hS hZ
      have k2 := kk lsA H locs hL hR hS hZ
      rw [List.map_cons, List.map_cons, rfo_ok hv, rfo_ok hw]
      refine lv_acmp_ne X.1 X.2.1 hd ht (fun q => ?_) (fun q => ?_)
      · have q2 : ¬ b = a := fun q2 => q (by rw [q2])
        simp only [if_neg q2] at k2
        exact k2
      · have q2 := big_inj h1.2 h1.1 q
        simp only [if_pos q2] at k2
        exact k2
end SO
end
section
/-! Fields, rows, new cells: a step of the small machine is a step of the machine. -/
def mKl (cl : List vw_C) (Ts : List Cond) (G : GI) (x : Nat) (C : String) (T : u_T) (N : Nat) : Prop :=
  cl[x]? = some (C, T, N) ∧ (∀ w ∈ u_ws C T N, w ∈ Ts) ∧ (∀ k, k < N → (T k).1 = C ∧ parseFieldDescriptor (T k).2.2.1 = some (G.2.2.2.2.1 x k)) ∧ (∀ a, a < N → ∀ b, b < N → a ≠ b → (T a).2.1 ≠ (T b).2.1) ∧
  (G.2.2.2.1 x).length = N ∧ (∀ j, j < N → defaultValue (G.2.2.2.2.1 x j) = vp_V (G.2.2.2.1 x) j) ∧ (∀ v ∈ G.2.2.2.1 x, (∀ a, v ≠ .ref a) ∧ ∀ j, v ≠ .retAddr j) ∧ Cond.instantiable C N ∈ Ts ∧ Cond.initialized C ∈ Ts
theorem mR_put {D : va_G} {cl : List vw_C} {dA : Nat → ClassId} {pre : Nat → Nat} {base : Nat} {ρ : Nat → Int32} {h : MH} {H H1 : Heap} (hR : mR D cl dA pre base ρ h H) {a : Nat} {e0 e : ME} (hg : mget h a = some e0) (hP : va_P D cl ((mws dA pre base ρ h).set (a - 64) (mad pre base a, emE dA pre base ρ e)) H1) (z : H1.size = H.size) : mR D cl dA pre base ρ (mput h a e) H1 := by
  refine ⟨mput_ok hR.1 a e, by rw [mws_put hR.1 hg]; exact hP, ?_⟩
  rw [z, hR.2.2]
  simp [mput]
theorem emv_nr {pre : Nat → Nat} {base : Nat} {ρ : Nat → Int32} {v : Value} (h : (∀ a, v ≠ .ref a) ∧ ∀ j, v ≠ .retAddr j) : emv pre base ρ v = v := by
  cases v with
  | ref a => exact absurd rfl (h.1 a)
  | retAddr j => exact absurd rfl (h.2 j)
  | _ => rfl
section SO
variable {p : Program} {l : Launch} {e : Env} {R : Room} {s : State} {m : MethodId} {args : Array Value} {below : List Frame} {meth : Method} {c : Code} {Q : State → Prop}
variable {D : va_G} {cl : List vw_C} {dA : Nat → ClassId} {pre : Nat → Nat} {base : Nat} {ρ : Nat → Int32} {tyL : List FieldType} {Ts : List Cond} {G : GI} {cc : ByteArray} {own : String} {nL : Nat} {iv : List (Int × Int)}
variable {M pc nx x y : Nat} {ls : ML} {st : List Value} {h : MH} {cells slots : Nat} {z : Nat × ML × List Value × MH × Nat × Nat}
/-- behind a row that changes a cell: the heap is as large as before, by what the machine counts -/
theorem mSz {H H1 : Heap} {locs : List Loc} {g : JFrame} (hZ : s.heap.size + cells = H.size) (hle : H.size ≤ H1.size) (k : H1.size = H.size → W p l e R s m args below meth c H1 locs cells slots Q g) : W p l e R s m args below meth c H1 locs cells slots Q g := by
  intro T hT X
  have h1 := X.heapSize
  rw [hT] at h1
  exact k (by omega) T hT X
/-- what isn't ours stays, told from where we are -/
theorem mS_tr {A : Nat → Prop} {H0 H H1 : Heap} {locs locs1 : List Loc} (h : va_S A H0 H locs) (h1 : va_S A H H1 locs1) : va_S A H0 H1 locs1 :=
  ⟨Nat.le_trans h.1 h1.1, fun q a b => (h1.2.1 q (Nat.lt_of_lt_of_le a h.1) b).trans (h.2.1 q a b), h1.2.2⟩
theorem mS_rf {A : Nat → Prop} {H0 H : Heap} {locs : List Loc} (h : va_S A H0 H locs) : va_S A H H locs := ⟨Nat.le_refl _, fun _ _ _ => rfl, h.2.2⟩
theorem so_getfield {idx N : Nat} {C : String} {T : u_T} (X : mCx p s m args c D cl dA pre base ρ tyL Ts G cc own nL) (hd : decode cc pc = .ok (.getfield idx, 3)) (hnx : nx = pc + 3) (hk : mKl cl Ts G x C T N) (hy : y < N) (hlink : Cond.fieldLink own idx C (T y).2.1 (T y).2.2.1 ∈ Ts) (hz : stepI iv G M pc (.getfield idx) nx x y ls st h = some (.inl z)) (kk : mGo p l e R s m args below meth c Q D cl dA pre base ρ nL z.1 z.2.1 z.2.2.1 z.2.2.2.1 (cells + z.2.2.2.2.1) (slots + z.2.2.2.2.2)) : mGo p l e R s m args below meth c Q D cl dA pre base ρ nL pc ls st h cells slots := by
  obtain ⟨a, r, rfl, hz1⟩ := s1r_ok hz
  clear hz
  cases hg : mget h a with
  | none => rw [hg] at hz1; cases hz1
  | some w =>
    rw [hg] at hz1
    rcases w with w | ⟨ci, fs⟩
    · cases hz1
    · obtain ⟨hc, hz2⟩ := if_ok hz1
      subst hc
      cases hv : fs[y]? with
      | none => rw [hv] at hz2; cases hz2
      | some v =>
        rw [hv] at hz2
        cases okk_ok hz2
        subst hnx
        intro lsA H locs hL hR hS hZ
        exact va_get X.1 X.2.1 X.2.2.2.2.1 hk.2.1 X.2.2.2.1 X.2.2.2.2.2.1 hR.2.1 (a - 64) (mws_get hR.1 hg) hk.1 y hy (X.2.2.2.2.1 _ hlink) (fun q hq => by rw [(hk.2.2.1 y hy).1] at hq; exact hq) (v := emv pre base ρ v) (by rw [List.getElem?_map, hv]; rfl) hd (kk lsA H locs hL hR hS hZ)
theorem so_putfield {idx N : Nat} {C : String} {T : u_T} (X : mCx p s m args c D cl dA pre base ρ tyL Ts G cc own nL) (hd : decode cc pc = .ok (.putfield idx, 3)) (hnx : nx = pc + 3) (hk : mKl cl Ts G x C T N) (hy : y < N) (hlink : Cond.fieldLink own idx C (T y).2.1 (T y).2.2.1 ∈ Ts) (hfin : (T y).2.2.2 = false ∨ ((T y).2.2.2 = true ∧ meth.name = "<init>" ∧ C = own)) (hz : stepI iv G M pc (.putfield idx) nx x y ls st h = some (.inl z)) (kk : mGo p l e R s m args below meth c Q D cl dA pre base ρ nL z.1 z.2.1 z.2.2.1 z.2.2.2.1 (cells + z.2.2.2.2.1) (slots + z.2.2.2.2.2)) : mGo p l e R s m args below meth c Q D cl dA pre base ρ nL pc ls st h cells slots := by
  obtain ⟨v, r1, rfl, hz1⟩ := s1_ok hz
  obtain ⟨a, r, rfl, hz2⟩ := s1r_ok hz1
  clear hz hz1
  cases hg : mget h a with
  | none => rw [hg] at hz2; cases hz2
  | some w =>
    rw [hg] at hz2
    rcases w with w | ⟨ci, fs⟩
    · cases hz2
    · obtain ⟨hc, hz3⟩ := if_ok hz2
      simp only [Bool.and_eq_true, decide_eq_true_eq] at hc
      obtain ⟨⟨hci, hfit⟩, hlt⟩ := hc
      subst hci
      cases okk_ok hz3
      subst hnx
      intro lsA H locs hL hR hS hZ
      obtain ⟨hn, hf⟩ := fitB_ok (pre := pre) (base := base) (ρ := ρ) hfit
      have hSH := mS_rf hS
      have fin : ∀ (H1 : Heap) (locs1 : List Loc), va_P D cl ((mws dA pre base ρ h).set (a - 64) (mad pre base a, .inr (ci, (fs.map (emv pre base ρ)).set y (emv pre base ρ v)))) H1 → va_D (fun q => base ≤ q) ((mws dA pre base ρ h).set (a - 64) (mad pre base a, .inr (ci, (fs.map (emv pre base ρ)).set y (emv pre base ρ v)))) → va_S (fun q => base ≤ q) H H1 locs1 → W p l e R s m args below meth c H1 locs1 cells slots Q (F0 m (pc + 3) lsA (r.map (emv pre base ρ))) := fun H1 locs1 g1 g2 g3 => mSz hZ g3.1 fun z => kk lsA H1 locs1 hL (mR_put hR hg (by rw [show emE dA pre base ρ (.inr (ci, fs.set y v)) = .inr (ci, (fs.map (emv pre base ρ)).set y (emv pre base ρ v)) from congrArg (fun q => Sum.inr (ci, q)) List.map_set]; exact g1) z) (mS_tr hS g3) (by rw [z]; exact hZ)
      rcases hfin with hfin | ⟨hfin, hin2, hown2⟩
      · exact va_put X.1 X.2.1 X.2.2.2.2.1 hk.2.1 (G.2.2.2.2.1 ci) (fun k q => (hk.2.2.1 k q).2) hk.2.2.2.1 X.2.2.2.1 X.2.2.2.2.2.1 hR.2.1 (mws_D h) hSH (a - 64) (mws_get hR.1 hg) hk.1 y hy (X.2.2.2.2.1 _ hlink) (fun q hq => by rw [(hk.2.2.1 y hy).1] at hq; exact hq) hfin (hk.2.2.1 y hy).2 hn hf (by rw [List.length_map]; exact hlt) hd fin
      · exact va_putF X.1 X.2.1 X.2.2.2.2.1 hk.2.1 (G.2.2.2.2.1 ci) (fun k q => (hk.2.2.1 k q).2) hk.2.2.2.1 X.2.2.2.1 X.2.2.2.2.2.1 hR.2.1 (mws_D h) hSH (a - 64) (mws_get hR.1 hg) hk.1 y hy (X.2.2.2.2.1 _ hlink) (fun q hq => by rw [(hk.2.2.1 y hy).1] at hq; exact hq) hfin hin2 ((hk.2.2.1 y hy).1.trans hown2) (hk.2.2.1 y hy).2 hn hf (by rw [List.length_map]; exact hlt) hd fin
theorem irow_ok {iv : List (Int × Int)} {G : GI} {h : MH} {a t n : Nat} {f : Nat → Value} (e : irow iv G h a t = some (n, f)) : (a < 8 ∧ t = 0 ∧ ∃ g : Nat → Int32, G.2.2.1 a = some (n, g) ∧ f = fun j => if a = 0 then symv iv j else .int (g j)) ∨ (∃ g, mget h a = some (.inl (t, n, .inl g)) ∧ f = rdI g) := by
  unfold irow at e
  by_cases h8 : a < 8
  · rw [if_pos h8] at e
    obtain ⟨h1, h2⟩ := if_ok e
    cases hg : G.2.2.1 a with
    | none => rw [hg] at h2; cases h2
    | some w =>
      rw [hg] at h2
      cases h2
      exact Or.inl ⟨h8, h1, w.2, rfl, rfl⟩
  · rw [if_neg h8] at e
    cases hg : mget h a with
    | none => rw [hg] at e; cases e
    | some w =>
      rw [hg] at e
      rcases w with ⟨ti, n', f' | f'⟩ | w
      · obtain ⟨h1, h2⟩ := if_ok e
        subst h1
        cases h2
        exact Or.inr ⟨_, rfl, rfl⟩
      · cases e
      · cases e
theorem ext_em {pre : Nat → Nat} {base : Nat} {ρ : Nat → Int32} {iv : List (Int × Int)} (hI : ivP ρ iv) (a j : Nat) (g : Nat → Int32) : emv pre base ρ (if a = 0 then symv iv j else .int (g j)) = .int (if a = 0 then ρ j else g j) := by
  by_cases h : a = 0
  · rw [if_pos h, if_pos h, isI_em (by unfold symv; cases iv[j]? with
      | none => rfl
      | some p => obtain ⟨u, w⟩ := p; simp only; split <;> rfl), symv_ok hI]
  · rw [if_neg h, if_neg h]
    rfl
theorem so_iaload  (X : mCx p s m args c D cl dA pre base ρ tyL Ts G cc own nL) (hd : decode cc pc = .ok (.iaload, 1)) (hnx : nx = pc + 1) (hI : ivP ρ iv) (hty : tyL[0]? = some .int) (hz : stepI iv G M pc (.iaload) nx x y ls st h = some (.inl z)) (kk : mGo p l e R s m args below meth c Q D cl dA pre base ρ nL z.1 z.2.1 z.2.2.1 z.2.2.2.1 (cells + z.2.2.2.2.1) (slots + z.2.2.2.2.2)) : mGo p l e R s m args below meth c Q D cl dA pre base ρ nL pc ls st h cells slots := by
  obtain ⟨i, r1, rfl, hz1⟩ := s1i_ok hz
  obtain ⟨a, r, rfl, hz2⟩ := s1r_ok hz1
  clear hz hz1
  cases hg : irow iv G h a 0 with
  | none => rw [hg] at hz2; cases hz2
  | some w =>
    obtain ⟨n, f⟩ := w
    rw [hg] at hz2
    obtain ⟨hv, hz3⟩ := if_ok hz2
    simp only [Bool.and_eq_true] at hv
    cases okk_ok hz3
    subst hnx
    intro lsA H locs hL hR hS hZ
    have k2 := kk lsA H locs hL hR hS hZ
    rcases irow_ok hg with ⟨h8, -, g, he, rfl⟩ | ⟨g, hg2, rfl⟩
    · have g1 := X.2.2.2.2.2.2.2 a n g he h8
      have hm : mad pre base a = pre a := by unfold mad; rw [if_pos (Nat.lt_of_lt_of_le h8 (by decide))]
      rw [List.map_cons, ext_em hI] at k2
      show W _ _ _ _ _ _ _ _ _ _ _ _ _ _ _ (F0 m pc lsA (.int i :: .ref (mad pre base a) :: r.map (emv pre base ρ)))
      rw [hm]
      exact va_ti X.1 X.2.1 g1 hS (vin_ok hv.1) rfl hd k2
    · rw [List.map_cons, isI_em hv.2] at k2
      exact va_iald X.1 X.2.1 X.2.2.2.2.2.1 hR.2.1 (a - 64) 0 (mws_get hR.1 hg2) (mty_at hty) (vin_ok hv.1) hd k2
theorem so_bald  (X : mCx p s m args c D cl dA pre base ρ tyL Ts G cc own nL) (hd : decode cc pc = .ok (.baload, 1)) (hnx : nx = pc + 1) (hx0 : ¬ x = 0) (hty : tyL[x]? = some .byte) (hz : stepI iv G M pc (.baload) nx x y ls st h = some (.inl z)) (kk : mGo p l e R s m args below meth c Q D cl dA pre base ρ nL z.1 z.2.1 z.2.2.1 z.2.2.2.1 (cells + z.2.2.2.2.1) (slots + z.2.2.2.2.2)) : mGo p l e R s m args below meth c Q D cl dA pre base ρ nL pc ls st h cells slots := by
  obtain ⟨i, r1, rfl, hz1⟩ := s1i_ok hz
  obtain ⟨a, r, rfl, hz2⟩ := s1r_ok hz1
  clear hz hz1
  cases hg : irow iv G h a x with
  | none => rw [hg] at hz2; cases hz2
  | some w =>
    obtain ⟨n, f⟩ := w
    rw [hg] at hz2
    obtain ⟨hv, hz3⟩ := if_ok hz2
    simp only [Bool.and_eq_true] at hv
    cases okk_ok hz3
    subst hnx
    intro lsA H locs hL hR hS hZ
    have k2 := kk lsA H locs hL hR hS hZ
    rcases irow_ok hg with ⟨-, h0, -⟩ | ⟨g, hg2, rfl⟩
    · exact absurd h0 hx0
    · rw [List.map_cons, isI_em hv.2] at k2
      exact va_bald X.1 X.2.1 X.2.2.2.2.2.1 hR.2.1 (a - 64) x (mws_get hR.1 hg2) (mty_at hty) (vin_ok hv.1) hd k2
theorem so_zald  (X : mCx p s m args c D cl dA pre base ρ tyL Ts G cc own nL) (hd : decode cc pc = .ok (.baload, 1)) (hnx : nx = pc + 1) (hx0 : ¬ x = 0) (hty : tyL[x]? = some .boolean) (hz : stepI iv G M pc (.baload) nx x y ls st h = some (.inl z)) (kk : mGo p l e R s m args below meth c Q D cl dA pre base ρ nL z.1 z.2.1 z.2.2.1 z.2.2.2.1 (cells + z.2.2.2.2.1) (slots + z.2.2.2.2.2)) : mGo p l e R s m args below meth c Q D cl dA pre base ρ nL pc ls st h cells slots := by
  obtain ⟨i, r1, rfl, hz1⟩ := s1i_ok hz
  obtain ⟨a, r, rfl, hz2⟩ := s1r_ok hz1
  clear hz hz1
  cases hg : irow iv G h a x with
  | none => rw [hg] at hz2; cases hz2
  | some w =>
    obtain ⟨n, f⟩ := w
    rw [hg] at hz2
    obtain ⟨hv, hz3⟩ := if_ok hz2
    simp only [Bool.and_eq_true] at hv
    cases okk_ok hz3
    subst hnx
    intro lsA H locs hL hR hS hZ
    have k2 := kk lsA H locs hL hR hS hZ
    rcases irow_ok hg with ⟨-, h0, -⟩ | ⟨g, hg2, rfl⟩
    · exact absurd h0 hx0
    · rw [List.map_cons, isI_em hv.2] at k2
      exact va_zald X.1 X.2.1 X.2.2.2.2.2.1 hR.2.1 (a - 64) x (mws_get hR.1 hg2) (mty_at hty) (vin_ok hv.1) hd k2
def mTL (tyL : List FieldType) : Prop := tyL[0]? = some .int ∧ tyL[1]? = some .byte ∧ tyL[2]? = some .boolean ∧ ∀ ti, 3 ≤ ti → ti < 8 → ∃ C, tyL[ti]? = some (.object C)
theorem mTL_at {tyL : List FieldType} (h : mTL tyL) {ti : Nat} (h8 : ti < 8) : ∃ ty, tyL[ti]? = some ty := by
  by_cases h3 : 3 ≤ ti
  · obtain ⟨C, hC⟩ := h.2.2.2 ti h3 h8
    exact ⟨_, hC⟩
  · rcases (show ti = 0 ∨ ti = 1 ∨ ti = 2 by omega) with rfl | rfl | rfl
    · exact ⟨_, h.1⟩
    · exact ⟨_, h.2.1⟩
    · exact ⟨_, h.2.2.1⟩
theorem so_aaload  (X : mCx p s m args c D cl dA pre base ρ tyL Ts G cc own nL) (hd : decode cc pc = .ok (.aaload, 1)) (hnx : nx = pc + 1) (hTL : mTL tyL) (hz : stepI iv G M pc (.aaload) nx x y ls st h = some (.inl z)) (kk : mGo p l e R s m args below meth c Q D cl dA pre base ρ nL z.1 z.2.1 z.2.2.1 z.2.2.2.1 (cells + z.2.2.2.2.1) (slots + z.2.2.2.2.2)) : mGo p l e R s m args below meth c Q D cl dA pre base ρ nL pc ls st h cells slots := by
  obtain ⟨i, r1, rfl, hz1⟩ := s1i_ok hz
  obtain ⟨a, r, rfl, hz2⟩ := s1r_ok hz1
  clear hz hz1
  cases hg : mget h a with
  | none => rw [hg] at hz2; cases hz2
  | some w =>
    rw [hg] at hz2
    rcases w with ⟨ti, n, f | f⟩ | w
    · cases hz2
    · obtain ⟨hv, hz3⟩ := if_ok hz2
      simp only [Bool.and_eq_true, decide_eq_true_eq] at hv
      cases okk_ok hz3
      subst hnx
      intro lsA H locs hL hR hS hZ
      have he := mws_get (dA := dA) (pre := pre) (base := base) (ρ := ρ) hR.1 hg
      have k2 := kk lsA H locs hL hR hS hZ
      obtain ⟨C, hC⟩ := hTL.2.2.2 ti hv.2.1 hv.2.2
      refine va_aldq X.1 X.2.1 X.2.2.2.2.2.1 hR.2.1 (a - 64) ti he (mty_at hC) (vin_ok hv.1) hd ?_
      rw [show va_rf (((fun j => (rdQ f j).map (mad pre base)) : Nat → Option Nat) i.toNatClampNeg) = emv pre base ρ (va_rf (rdQ f i.toNatClampNeg)) from by simp only; cases rdQ f i.toNatClampNeg <;> rfl]
      exact k2
    · cases hz2
theorem so_arraylength  (X : mCx p s m args c D cl dA pre base ρ tyL Ts G cc own nL) (hd : decode cc pc = .ok (.arraylength, 1)) (hnx : nx = pc + 1) (hTL : mTL tyL) (hz : stepI iv G M pc (.arraylength) nx x y ls st h = some (.inl z)) (kk : mGo p l e R s m args below meth c Q D cl dA pre base ρ nL z.1 z.2.1 z.2.2.1 z.2.2.2.1 (cells + z.2.2.2.2.1) (slots + z.2.2.2.2.2)) : mGo p l e R s m args below meth c Q D cl dA pre base ρ nL pc ls st h cells slots := by
  obtain ⟨a, r, rfl, hz1⟩ := s1r_ok hz
  clear hz
  by_cases h8 : a < 8
  · rw [if_pos h8] at hz1
    cases he : G.2.2.1 a with
    | none => rw [he] at hz1; cases hz1
    | some w =>
      obtain ⟨n, f⟩ := w
      rw [he] at hz1
      cases okk_ok hz1
      subst hnx
      intro lsA H locs hL hR hS hZ
      have g1 := X.2.2.2.2.2.2.2 a n f he h8
      have hm : mad pre base a = pre a := by unfold mad; rw [if_pos (Nat.lt_of_lt_of_le h8 (by decide))]
      show W _ _ _ _ _ _ _ _ _ _ _ _ _ _ _ (F0 m pc lsA (.ref (mad pre base a) :: r.map (emv pre base ρ)))
      rw [hm]
      exact va_tlen X.1 X.2.1 g1 hS rfl hd (kk lsA H locs hL hR hS hZ)
  · rw [if_neg h8] at hz1
    cases hg : mget h a with
    | none => rw [hg] at hz1; cases hz1
    | some w =>
      rw [hg] at hz1
      rcases w with ⟨ti, n, f⟩ | w
      · obtain ⟨hv, hz3⟩ := if_ok hz1
        cases okk_ok hz3
        subst hnx
        intro lsA H locs hL hR hS hZ
        obtain ⟨ty, hty⟩ := mTL_at hTL hv
        exact va_alen X.1 X.2.1 X.2.2.2.2.2.1 hR.2.1 (a - 64) ti (mws_get hR.1 hg) (mty_at hty) rfl hd (kk lsA H locs hL hR hS hZ)
      · cases hz1
theorem so_iastore  (X : mCx p s m args c D cl dA pre base ρ tyL Ts G cc own nL) (hd : decode cc pc = .ok (.iastore, 1)) (hnx : nx = pc + 1) (hTL : mTL tyL) (hz : stepI iv G M pc (.iastore) nx x y ls st h = some (.inl z)) (kk : mGo p l e R s m args below meth c Q D cl dA pre base ρ nL z.1 z.2.1 z.2.2.1 z.2.2.2.1 (cells + z.2.2.2.2.1) (slots + z.2.2.2.2.2)) : mGo p l e R s m args below meth c Q D cl dA pre base ρ nL pc ls st h cells slots := by
  obtain ⟨v, r1, rfl, hvI, hz1⟩ := s1n_ok hz
  obtain ⟨i, r2, rfl, hz2⟩ := s1i_ok hz1
  obtain ⟨a, r, rfl, hz3⟩ := s1r_ok hz2
  clear hz hz1 hz2
  cases hg : mget h a with
  | none => rw [hg] at hz3; cases hz3
  | some w =>
    rw [hg] at hz3
    rcases w with ⟨ti, n, f | f⟩ | w
    · obtain ⟨hv, hz4⟩ := if_ok hz3
      simp only [Bool.and_eq_true, decide_eq_true_eq] at hv
      obtain ⟨h0, hv⟩ := hv
      subst h0
      cases okk_ok hz4
      subst hnx
      intro lsA H locs hL hR hS hZ
      have hSH := mS_rf hS
      rw [List.map_cons, isI_em hvI]
      exact va_iast X.1 X.2.1 X.2.2.2.2.2.1 hR.2.1 (mws_D h) hSH (a - 64) 0 (mws_get hR.1 hg) (mty_at hTL.1) (vin_ok hv) hd (fun H1 locs1 g1 g2 g3 => mSz hZ g3.1 fun z => kk lsA H1 locs1 hL (mR_put hR hg (by simp only [emE, emA, rdI_up]; exact g1) z) (mS_tr hS g3) (by rw [z]; exact hZ))
    · cases hz3
    · cases hz3
theorem so_bast  (X : mCx p s m args c D cl dA pre base ρ tyL Ts G cc own nL) (hd : decode cc pc = .ok (.bastore, 1)) (hnx : nx = pc + 1) (hTL : mTL tyL) (hx : x = 1) (hz : stepI iv G M pc (.bastore) nx x y ls st h = some (.inl z)) (kk : mGo p l e R s m args below meth c Q D cl dA pre base ρ nL z.1 z.2.1 z.2.2.1 z.2.2.2.1 (cells + z.2.2.2.2.1) (slots + z.2.2.2.2.2)) : mGo p l e R s m args below meth c Q D cl dA pre base ρ nL pc ls st h cells slots := by
  obtain ⟨v, r1, rfl, hz1⟩ := s1i_ok hz
  obtain ⟨i, r2, rfl, hz2⟩ := s1i_ok hz1
  obtain ⟨a, r, rfl, hz3⟩ := s1r_ok hz2
  clear hz hz1 hz2
  subst hx
  cases hg : mget h a with
  | none => rw [hg] at hz3; cases hz3
  | some w =>
    rw [hg] at hz3
    rcases w with ⟨ti, n, f | f⟩ | w
    · obtain ⟨hv, hz4⟩ := if_ok hz3
      simp only [Bool.and_eq_true, decide_eq_true_eq] at hv
      obtain ⟨h0, hv⟩ := hv
      subst h0
      rw [if_pos rfl] at hz4
      cases okk_ok hz4
      subst hnx
      intro lsA H locs hL hR hS hZ
      have hSH := mS_rf hS
      exact va_bast X.1 X.2.1 X.2.2.2.2.2.1 hR.2.1 (mws_D h) hSH (a - 64) 1 (mws_get hR.1 hg) (mty_at hTL.2.1) (vin_ok hv) hd (fun H1 locs1 g1 g2 g3 => mSz hZ g3.1 fun z => kk lsA H1 locs1 hL (mR_put hR hg (by simp only [emE, emA, rdI_up]; exact g1) z) (mS_tr hS g3) (by rw [z]; exact hZ))
    · cases hz3
    · cases hz3
theorem so_zast  (X : mCx p s m args c D cl dA pre base ρ tyL Ts G cc own nL) (hd : decode cc pc = .ok (.bastore, 1)) (hnx : nx = pc + 1) (hTL : mTL tyL) (hx : x = 2) (hz : stepI iv G M pc (.bastore) nx x y ls st h = some (.inl z)) (kk : mGo p l e R s m args below meth c Q D cl dA pre base ρ nL z.1 z.2.1 z.2.2.1 z.2.2.2.1 (cells + z.2.2.2.2.1) (slots + z.2.2.2.2.2)) : mGo p l e R s m args below meth c Q D cl dA pre base ρ nL pc ls st h cells slots := by
  obtain ⟨v, r1, rfl, hz1⟩ := s1i_ok hz
  obtain ⟨i, r2, rfl, hz2⟩ := s1i_ok hz1
  obtain ⟨a, r, rfl, hz3⟩ := s1r_ok hz2
  clear hz hz1 hz2
  subst hx
  cases hg : mget h a with
  | none => rw [hg] at hz3; cases hz3
  | some w =>
    rw [hg] at hz3
    rcases w with ⟨ti, n, f | f⟩ | w
    · obtain ⟨hv, hz4⟩ := if_ok hz3
      simp only [Bool.and_eq_true, decide_eq_true_eq] at hv
      obtain ⟨h0, hv⟩ := hv
      subst h0
      rw [if_neg (by decide), if_pos rfl] at hz4
      cases okk_ok hz4
      subst hnx
      intro lsA H locs hL hR hS hZ
      have hSH := mS_rf hS
      exact va_zast X.1 X.2.1 X.2.2.2.2.2.1 hR.2.1 (mws_D h) hSH (a - 64) 2 (mws_get hR.1 hg) (mty_at hTL.2.2.1) (vin_ok hv) hd (fun H1 locs1 g1 g2 g3 => mSz hZ g3.1 fun z => kk lsA H1 locs1 hL (mR_put hR hg (by simp only [emE, emA, rdI_up]; exact g1) z) (mS_tr hS g3) (by rw [z]; exact hZ))
    · cases hz3
    · cases hz3
theorem so_aastore {N : Nat} {C : String} {T : u_T} (X : mCx p s m args c D cl dA pre base ρ tyL Ts G cc own nL) (hd : decode cc pc = .ok (.aastore, 1)) (hnx : nx = pc + 1) (hC : tyL[x]? = some (.object C)) (hcl : cl[y]? = some (C, T, N)) (hz : stepI iv G M pc (.aastore) nx x y ls st h = some (.inl z)) (kk : mGo p l e R s m args below meth c Q D cl dA pre base ρ nL z.1 z.2.1 z.2.2.1 z.2.2.2.1 (cells + z.2.2.2.2.1) (slots + z.2.2.2.2.2)) : mGo p l e R s m args below meth c Q D cl dA pre base ρ nL pc ls st h cells slots := by
  obtain ⟨v, r1, rfl, hz1⟩ := s1_ok hz
  obtain ⟨i, r2, rfl, hz2⟩ := s1i_ok hz1
  obtain ⟨a, r, rfl, hz3⟩ := s1r_ok hz2
  clear hz hz1 hz2
  cases hg : mget h a with
  | none => rw [hg] at hz3; cases hz3
  | some w =>
    rw [hg] at hz3
    rcases w with ⟨ti, n, f | f⟩ | w
    · cases hz3
    · obtain ⟨hv, hz4⟩ := if_ok hz3
      simp only [Bool.and_eq_true, decide_eq_true_eq] at hv
      obtain ⟨hv, h0⟩ := hv
      subst h0
      cases v with
      | null =>
        cases okk_ok hz4
        subst hnx
        intro lsA H locs hL hR hS hZ
        have hSH := mS_rf hS
        refine va_astqN X.1 X.2.1 X.2.2.2.2.2.1 hR.2.1 (mws_D h) hSH (a - 64) ti (mws_get hR.1 hg) (mty_at hC) (vin_ok hv) hd (fun H1 locs1 g1 g2 g3 => mSz hZ g3.1 fun z => kk lsA H1 locs1 hL (mR_put hR hg ?_ z) (mS_tr hS g3) (by rw [z]; exact hZ))
        have g4 := rdQ_up pre base ρ f i.toNatClampNeg none
        simp only [Option.map_none] at g4
        simp only [emE, emA, g4]
        exact g1
      | ref b =>
        simp only at hz4
        cases hgb : mget h b with
        | none => rw [hgb] at hz4; cases hz4
        | some wb =>
          rw [hgb] at hz4
          rcases wb with wb | ⟨ci, fs⟩
          · cases hz4
          · obtain ⟨hci, hz5⟩ := if_ok hz4
            subst hci
            cases okk_ok hz5
            subst hnx
            intro lsA H locs hL hR hS hZ
            have hSH := mS_rf hS
            refine va_astq X.1 X.2.1 X.2.2.2.2.2.1 hR.2.1 (mws_D h) hSH (a - 64) ti (b - 64) ci (r := (C, T, N)) (mws_get hR.1 hg) (mty_at hC) (mws_get hR.1 hgb) hcl (vin_ok hv) hd (fun H1 locs1 g1 g2 g3 => mSz hZ g3.1 fun z => kk lsA H1 locs1 hL (mR_put hR hg ?_ z) (mS_tr hS g3) (by rw [z]; exact hZ))
            have g4 := rdQ_up pre base ρ f i.toNatClampNeg (some b)
            simp only [Option.map_some] at g4
            simp only [emE, emA, g4]
            exact g1
      | _ => cases hz4
    · cases hz3
end SO
end
section
/-! A text's constant, in the wide form. -/
theorem sl_ldcwS {p : Program} {l : Launch} {e : Env} {R : Room} {s : State} {m : MethodId} {args : Array Value} {below : List Frame} {meth : Method} {c : Code} {H : Heap} {locs : List Loc} {cells slots : Nat} {Q : State → Prop} {cc : ByteArray} {pc : Nat} {ls : Array Slot} {rest : List Value} (hexec : p.tables.exec = Jvm.exec) (hb : c.code = cc) {own tx : String} {index q : Nat} (hown : s.vm.findClass own = some m.cls) (hZ : vk_R own index tx q s) (hdg : decode cc pc = .ok (.ldc_w index, 3))
    (k : W p l e R s m args below meth c H locs cells slots Q (F0 m (pc + 3) ls (.ref q :: rest))) : W p l e R s m args below meth c H locs cells slots Q (F0 m pc ls rest) := by
  intro T hT X
  obtain ⟨t, a1, b1⟩ := k T hT X
  refine ⟨t, ?_, b1⟩
  obtain ⟨k0, cf, i, a', hk, hcf, hcp, -, hr, hev'⟩ := Cond.stringRef_spec hown (show (Cond.stringRef own index tx).before args s = true from hZ.1)
  have hev : (Term.string own index).eval args s none [] s = some (.ref q) := hZ.2
  cases hev.symm.trans hev'
  obtain ⟨k', hk', he⟩ := X.warmed.alike.2.2 _ _ hk
  have hr' : k'.resolved[index]? = some (some (.string q)) := by
    rcases X.warmed.entry hk hk' index with h | ⟨h, -⟩
    · rw [h]; exact hr
    · rw [hr] at h; cases h
  jvm_step X.here [hexec, hdg, ldc_w.wp_string (e := e) (s := T) (f := F0 m pc ls rest) X.here.top hk' (by rw [he]; exact hcf) hcp hr', hb]
  exact a1
end
section
/-! New cells, constants, a static, two calls of the library: a step of the small machine is a step of the machine. -/
section SO
variable {p : Program} {l : Launch} {e : Env} {R : Room} {s : State} {m : MethodId} {args : Array Value} {below : List Frame} {meth : Method} {c : Code} {Q : State → Prop}
variable {D : va_G} {cl : List vw_C} {dA : Nat → ClassId} {pre : Nat → Nat} {base : Nat} {ρ : Nat → Int32} {tyL : List FieldType} {Ts : List Cond} {G : GI} {cc : ByteArray} {own : String} {nL : Nat} {iv : List (Int × Int)}
variable {M pc nx x y : Nat} {ls : ML} {st : List Value} {h : MH} {cells slots : Nat} {z : Nat × ML × List Value × MH × Nat × Nat}
theorem mSz1 {H H1 : Heap} {locs : List Loc} {g : JFrame} {n : Nat} (hZ : s.heap.size + cells = H.size) (k : H1.size ≤ H.size + 1 → W p l e R s m args below meth c H1 locs (cells + 1) n Q g) : W p l e R s m args below meth c H1 locs (cells + 1) n Q g := by
  intro T hT X
  have h1 := X.heapSize
  rw [hT] at h1
  exact k (by omega) T hT X
/-- where a new cell lies: behind all -/
theorem mNew {H H1 : Heap} {q : Nat} {w : va_E} {ex : ME} (hR : mR D cl dA pre base ρ h H) (hP : va_P D cl (mws dA pre base ρ h ++ [(q, w)]) H1) (hD : va_D (fun q => base ≤ q) (mws dA pre base ρ h ++ [(q, w)])) (hle : H1.size ≤ H.size + 1) (hw : w = emE dA pre base ρ ex) :
    q = mad pre base h.1 ∧ H1.size = H.size + 1 ∧ mR D cl dA pre base ρ (mpush h ex) H1 := by
  have hlen : List.length (mws dA pre base ρ h) = h.2.length := by simp [mws]
  have hl : (mws dA pre base ρ h ++ [(q, w)])[h.2.length]? = some (q, w) := by
    rw [List.getElem?_append_right (by omega), hlen, Nat.sub_self]
    rfl
  have h1 : q < H1.size := (hP _ _ hl).lt
  have h2 : base ≤ q := hD.2 _ _ hl
  have h3 : ¬ q < base + h.2.length := fun hlt => by
    have h4 : (mws dA pre base ρ h ++ [(q, w)])[q - base]? = some (base + (q - base), ((mws dA pre base ρ h)[q - base]'(by omega)).2) := by
      rw [List.getElem?_append_left (by omega), List.getElem?_eq_getElem (by omega)]
      have h5 := mws_at (dA := dA) (pre := pre) (base := base) (ρ := ρ) h (q - base)
      rw [List.getElem?_eq_getElem (show q - base < List.length (mws dA pre base ρ h) by omega)] at h5
      obtain ⟨e1, -, h6⟩ := Option.map_eq_some_iff.mp h5.symm
      rw [← h6]
    have h7 := hD.1 _ _ _ _ h4 hl (by simp only; omega)
    omega
  have hs := hR.2.2
  have hq : q = base + h.2.length := by omega
  refine ⟨?_, by omega, ?_⟩
  · unfold mad
    rw [hR.1, if_neg (by omega)]
    omega
  · refine ⟨by have := hR.1; simp only [mpush, List.length_cons]; omega, ?_, by simp only [mpush, List.length_cons]; omega⟩
    rw [mws_push, ← hq, ← hw]
    exact hP
theorem so_newI  (X : mCx p s m args c D cl dA pre base ρ tyL Ts G cc own nL) (hd : decode cc pc = .ok (.newarray .int, 2)) (hnx : nx = pc + 2) (harr : Cond.arrayClass .int ∈ Ts) (hty : tyL[x]? = some .int) (hc : cells + z.2.2.2.2.1 ≤ R.cells) (hn : slots + z.2.2.2.2.2 ≤ R.slots) (hz : stepI iv G M pc (.newarray .int) nx x y ls st h = some (.inl z)) (kk : mGo p l e R s m args below meth c Q D cl dA pre base ρ nL z.1 z.2.1 z.2.2.1 z.2.2.2.1 (cells + z.2.2.2.2.1) (slots + z.2.2.2.2.2)) : mGo p l e R s m args below meth c Q D cl dA pre base ρ nL pc ls st h cells slots := by
  obtain ⟨k, r, rfl, hz1⟩ := s1i_ok hz
  clear hz
  obtain ⟨hv, hz2⟩ := if_ok hz1
  simp only [Bool.and_eq_true, decide_eq_true_eq] at hv
  cases hz2
  subst hnx
  intro lsA H locs hL hR hS hZ
  refine va_newa (atype := .int) (ty := .int) (a0 := (k.toNatClampNeg, .inl (fun _ => 0))) X.1 X.2.1 (X.2.2.2.2.1 _ harr) rfl X.2.2.2.2.2.1 hR.2.1 (mws_D h) (mS_rf hS) (fun q hq => by have := hR.2.2; show base ≤ q; omega) (fun cA => rfl) (Int32.not_lt.mpr hv.1) rfl (by simp only [componentBytes]; omega) hc hn hd (fun q cA H1 gK g1 g2 g3 => ?_)
  refine mSz1 hZ fun hle => ?_
  have hcA : cA = dA x := by
    have q1 := (gK.2 (mty dA tyL).length (cA, .int) (by simp)).2
    have q2 := (X.2.2.2.2.2.1.2 x (dA x, .int) (mty_at hty)).2
    simp only [va_RA] at q1 q2
    exact Option.some.inj (q1.symm.trans q2)
  subst hcA
  obtain ⟨f1, f2, f3⟩ := mNew (ex := .inl (x, k.toNatClampNeg, .inl [])) hR g1 g2 hle rfl
  subst f1
  exact kk lsA H1 locs hL f3 (mS_tr hS g3) (by show s.heap.size + (cells + 1) = H1.size; omega)
theorem so_newB  (X : mCx p s m args c D cl dA pre base ρ tyL Ts G cc own nL) (hd : decode cc pc = .ok (.newarray .byte, 2)) (hnx : nx = pc + 2) (harr : Cond.arrayClass .byte ∈ Ts) (hty : tyL[x]? = some .byte) (hc : cells + z.2.2.2.2.1 ≤ R.cells) (hn : slots + z.2.2.2.2.2 ≤ R.slots) (hz : stepI iv G M pc (.newarray .byte) nx x y ls st h = some (.inl z)) (kk : mGo p l e R s m args below meth c Q D cl dA pre base ρ nL z.1 z.2.1 z.2.2.1 z.2.2.2.1 (cells + z.2.2.2.2.1) (slots + z.2.2.2.2.2)) : mGo p l e R s m args below meth c Q D cl dA pre base ρ nL pc ls st h cells slots := by
  obtain ⟨k, r, rfl, hz1⟩ := s1i_ok hz
  clear hz
  obtain ⟨hv, hz2⟩ := if_ok hz1
  simp only [Bool.and_eq_true, decide_eq_true_eq] at hv
  cases hz2
  subst hnx
  intro lsA H locs hL hR hS hZ
  refine va_newa (atype := .byte) (ty := .byte) (a0 := (k.toNatClampNeg, .inl (fun _ => 0))) X.1 X.2.1 (X.2.2.2.2.1 _ harr) rfl X.2.2.2.2.2.1 hR.2.1 (mws_D h) (mS_rf hS) (fun q hq => by have := hR.2.2; show base ≤ q; omega) (fun cA => rfl) (Int32.not_lt.mpr hv.1) rfl (by simp only [componentBytes]; omega) hc hn hd (fun q cA H1 gK g1 g2 g3 => ?_)
  refine mSz1 hZ fun hle => ?_
  have hcA : cA = dA x := by
    have q1 := (gK.2 (mty dA tyL).length (cA, .byte) (by simp)).2
    have q2 := (X.2.2.2.2.2.1.2 x (dA x, .byte) (mty_at hty)).2
    simp only [va_RA] at q1 q2
    exact Option.some.inj (q1.symm.trans q2)
  subst hcA
  obtain ⟨f1, f2, f3⟩ := mNew (ex := .inl (x, k.toNatClampNeg, .inl [])) hR g1 g2 hle rfl
  subst f1
  exact kk lsA H1 locs hL f3 (mS_tr hS g3) (by show s.heap.size + (cells + 1) = H1.size; omega)
theorem so_newZ  (X : mCx p s m args c D cl dA pre base ρ tyL Ts G cc own nL) (hd : decode cc pc = .ok (.newarray .boolean, 2)) (hnx : nx = pc + 2) (harr : Cond.arrayClass .boolean ∈ Ts) (hty : tyL[x]? = some .boolean) (hc : cells + z.2.2.2.2.1 ≤ R.cells) (hn : slots + z.2.2.2.2.2 ≤ R.slots) (hz : stepI iv G M pc (.newarray .boolean) nx x y ls st h = some (.inl z)) (kk : mGo p l e R s m args below meth c Q D cl dA pre base ρ nL z.1 z.2.1 z.2.2.1 z.2.2.2.1 (cells + z.2.2.2.2.1) (slots + z.2.2.2.2.2)) : mGo p l e R s m args below meth c Q D cl dA pre base ρ nL pc ls st h cells slots := by
  obtain ⟨k, r, rfl, hz1⟩ := s1i_ok hz
  clear hz
  obtain ⟨hv, hz2⟩ := if_ok hz1
  simp only [Bool.and_eq_true, decide_eq_true_eq] at hv
  cases hz2
  subst hnx
  intro lsA H locs hL hR hS hZ
  refine va_newa (atype := .boolean) (ty := .boolean) (a0 := (k.toNatClampNeg, .inl (fun _ => 0))) X.1 X.2.1 (X.2.2.2.2.1 _ harr) rfl X.2.2.2.2.2.1 hR.2.1 (mws_D h) (mS_rf hS) (fun q hq => by have := hR.2.2; show base ≤ q; omega) (fun cA => rfl) (Int32.not_lt.mpr hv.1) rfl (by simp only [componentBytes]; omega) hc hn hd (fun q cA H1 gK g1 g2 g3 => ?_)
  refine mSz1 hZ fun hle => ?_
  have hcA : cA = dA x := by
    have q1 := (gK.2 (mty dA tyL).length (cA, .boolean) (by simp)).2
    have q2 := (X.2.2.2.2.2.1.2 x (dA x, .boolean) (mty_at hty)).2
    simp only [va_RA] at q1 q2
    exact Option.some.inj (q1.symm.trans q2)
  subst hcA
  obtain ⟨f1, f2, f3⟩ := mNew (ex := .inl (x, k.toNatClampNeg, .inl [])) hR g1 g2 hle rfl
  subst f1
  exact kk lsA H1 locs hL f3 (mS_tr hS g3) (by show s.heap.size + (cells + 1) = H1.size; omega)
theorem so_anewarray {idx : Nat} {C : String} (X : mCx p s m args c D cl dA pre base ρ tyL Ts G cc own nL) (hd : decode cc pc = .ok (.anewarray idx, 3)) (hnx : nx = pc + 3) (hcl : Cond.classLink own idx C ∈ Ts) (hover : va_AO C s) (hty : tyL[x]? = some (.object C)) (hc : cells + z.2.2.2.2.1 ≤ R.cells) (hn : slots + z.2.2.2.2.2 ≤ R.slots) (hz : stepI iv G M pc (.anewarray idx) nx x y ls st h = some (.inl z)) (kk : mGo p l e R s m args below meth c Q D cl dA pre base ρ nL z.1 z.2.1 z.2.2.1 z.2.2.2.1 (cells + z.2.2.2.2.1) (slots + z.2.2.2.2.2)) : mGo p l e R s m args below meth c Q D cl dA pre base ρ nL pc ls st h cells slots := by
  obtain ⟨k, r, rfl, hz1⟩ := s1i_ok hz
  clear hz
  obtain ⟨hv, hz2⟩ := if_ok hz1
  simp only [Bool.and_eq_true, decide_eq_true_eq] at hv
  cases hz2
  subst hnx
  intro lsA H locs hL hR hS hZ
  refine va_newq (C := C) X.1 X.2.1 X.2.2.2.1 (X.2.2.2.2.1 _ hcl) hover X.2.2.2.2.2.1 hR.2.1 (mws_D h) (mS_rf hS) (fun q hq => by have := hR.2.2; show base ≤ q; omega) (Int32.not_lt.mpr hv.1) rfl (by omega) hc hn hd (fun q cA H1 gK g1 g2 g3 => ?_)
  refine mSz1 hZ fun hle => ?_
  have hcA : cA = dA x := by
    obtain ⟨_, _, -, -, -, q1⟩ := (gK.2 (mty dA tyL).length (cA, .object C) (by simp)).2
    obtain ⟨_, _, -, -, -, q2⟩ := (X.2.2.2.2.2.1.2 x (dA x, .object C) (mty_at hty)).2
    exact Option.some.inj (q1.symm.trans q2)
  subst hcA
  obtain ⟨f1, f2, f3⟩ := mNew (ex := .inl (x, k.toNatClampNeg, .inr [])) hR g1 g2 hle rfl
  subst f1
  exact kk lsA H1 locs hL f3 (mS_tr hS g3) (by show s.heap.size + (cells + 1) = H1.size; omega)
theorem so_new {idx N : Nat} {C : String} {T : u_T} (X : mCx p s m args c D cl dA pre base ρ tyL Ts G cc own nL) (hd : decode cc pc = .ok (.new idx, 3)) (hnx : nx = pc + 3) (hk : mKl cl Ts G x C T N) (hcl : Cond.classLink own idx C ∈ Ts) (hc : cells + z.2.2.2.2.1 ≤ R.cells) (hn : slots + z.2.2.2.2.2 ≤ R.slots) (hz : stepI iv G M pc (.new idx) nx x y ls st h = some (.inl z)) (kk : mGo p l e R s m args below meth c Q D cl dA pre base ρ nL z.1 z.2.1 z.2.2.1 z.2.2.2.1 (cells + z.2.2.2.2.1) (slots + z.2.2.2.2.2)) : mGo p l e R s m args below meth c Q D cl dA pre base ρ nL pc ls st h cells slots := by
  cases hz
  subst hnx
  intro lsA H locs hL hR hS hZ
  have hmap : (G.2.2.2.1 x).map (emv pre base ρ) = G.2.2.2.1 x := by
    have q : (G.2.2.2.1 x).map (emv pre base ρ) = (G.2.2.2.1 x).map id := List.map_congr_left (fun v hv => emv_nr (hk.2.2.2.2.2.2.1 v hv))
    rw [q, List.map_id]
  refine va_new (C := C) (T := T) (N := N) (ci := x) (fs := G.2.2.2.1 x) X.1 X.2.1 X.2.2.2.2.1 hk.2.1 (G.2.2.2.2.1 x) (fun k q => (hk.2.2.1 k q).2) X.2.2.2.1 (X.2.2.2.2.1 _ hcl) (X.2.2.2.2.1 _ hk.2.2.2.2.2.2.2.1) (X.2.2.2.2.1 _ hk.2.2.2.2.2.2.2.2) X.2.2.2.2.2.1 hR.2.1 (mws_D h) (mS_rf hS) (fun q hq => by have := hR.2.2; show base ≤ q; omega) hk.1 hk.2.2.2.2.2.1 hc (by rw [← hk.2.2.2.2.1]; exact hn) hd (fun q H1 g1 g2 g3 => ?_)
  rw [← hk.2.2.2.2.1]
  refine mSz1 hZ fun hle => ?_
  obtain ⟨f1, f2, f3⟩ := mNew (ex := .inr (x, G.2.2.2.1 x)) hR g1 g2 hle (by simp only [emE, hmap])
  subst f1
  exact kk lsA H1 locs hL f3 (mS_tr hS g3) (by show s.heap.size + (cells + 1) = H1.size; omega)
theorem so_ldc {idx : Nat} (X : mCx p s m args c D cl dA pre base ρ tyL Ts G cc own nL) (hd : decode cc pc = .ok (.ldc idx, 2)) (hnx : nx = pc + 2) (hy : y = 0) (hk : Cond.constant own idx (Int32.ofNat x) ∈ Ts) (hz : stepI iv G M pc (.ldc idx) nx x y ls st h = some (.inl z)) (kk : mGo p l e R s m args below meth c Q D cl dA pre base ρ nL z.1 z.2.1 z.2.2.1 z.2.2.2.1 (cells + z.2.2.2.2.1) (slots + z.2.2.2.2.2)) : mGo p l e R s m args below meth c Q D cl dA pre base ρ nL pc ls st h cells slots := by
  obtain ⟨-, hz1⟩ : y = 0 ∧ okk nx ls (.int (Int32.ofNat x) :: st) h = some (.inl z) := ⟨hy, by have q : stepI iv G M pc (.ldc idx) nx x y ls st h = (if y = 0 then okk nx ls (.int (Int32.ofNat x) :: st) h else okk nx ls (.ref x :: st) h) := rfl; rw [q, if_pos hy] at hz; exact hz⟩
  cases okk_ok hz1
  subst hnx
  intro lsA H locs hL hR hS hZ
  exact lv_ldc X.1 X.2.1 X.2.2.2.1 (X.2.2.2.2.1 _ hk) hd (kk lsA H locs hL hR hS hZ)
theorem so_ldcS {idx : Nat} {tx : String} (X : mCx p s m args c D cl dA pre base ρ tyL Ts G cc own nL) (hd : decode cc pc = .ok (.ldc idx, 2)) (hnx : nx = pc + 2) (hy : y = 1) (hx8 : x < 64) (hv : vk_R own idx tx (pre x) s) (hz : stepI iv G M pc (.ldc idx) nx x y ls st h = some (.inl z)) (kk : mGo p l e R s m args below meth c Q D cl dA pre base ρ nL z.1 z.2.1 z.2.2.1 z.2.2.2.1 (cells + z.2.2.2.2.1) (slots + z.2.2.2.2.2)) : mGo p l e R s m args below meth c Q D cl dA pre base ρ nL pc ls st h cells slots := by
  have q : stepI iv G M pc (.ldc idx) nx x y ls st h = (if y = 0 then okk nx ls (.int (Int32.ofNat x) :: st) h else okk nx ls (.ref x :: st) h) := rfl
  rw [q, if_neg (by rw [hy]; decide)] at hz
  clear q
  cases okk_ok hz
  subst hnx
  intro lsA H locs hL hR hS hZ
  have hm : mad pre base x = pre x := by unfold mad; rw [if_pos hx8]
  have k2 := kk lsA H locs hL hR hS hZ
  rw [List.map_cons, show emv pre base ρ (.ref x) = .ref (pre x) from congrArg Value.ref hm] at k2
  exact va_ldcS X.1 X.2.1 X.2.2.2.1 hv hd k2
theorem so_ldc_w {idx : Nat} (X : mCx p s m args c D cl dA pre base ρ tyL Ts G cc own nL) (hd : decode cc pc = .ok (.ldc_w idx, 3)) (hnx : nx = pc + 3) (hy : y = 0) (hk : Cond.constant own idx (Int32.ofNat x) ∈ Ts) (hz : stepI iv G M pc (.ldc_w idx) nx x y ls st h = some (.inl z)) (kk : mGo p l e R s m args below meth c Q D cl dA pre base ρ nL z.1 z.2.1 z.2.2.1 z.2.2.2.1 (cells + z.2.2.2.2.1) (slots + z.2.2.2.2.2)) : mGo p l e R s m args below meth c Q D cl dA pre base ρ nL pc ls st h cells slots := by
  obtain ⟨-, hz1⟩ : y = 0 ∧ okk nx ls (.int (Int32.ofNat x) :: st) h = some (.inl z) := ⟨hy, by have q : stepI iv G M pc (.ldc_w idx) nx x y ls st h = (if y = 0 then okk nx ls (.int (Int32.ofNat x) :: st) h else okk nx ls (.ref x :: st) h) := rfl; rw [q, if_pos hy] at hz; exact hz⟩
  cases okk_ok hz1
  subst hnx
  intro lsA H locs hL hR hS hZ
  exact lv_ldcw X.1 X.2.1 X.2.2.2.1 (X.2.2.2.2.1 _ hk) hd (kk lsA H locs hL hR hS hZ)
theorem so_ldc_wS {idx : Nat} {tx : String} (X : mCx p s m args c D cl dA pre base ρ tyL Ts G cc own nL) (hd : decode cc pc = .ok (.ldc_w idx, 3)) (hnx : nx = pc + 3) (hy : y = 1) (hx8 : x < 64) (hv : vk_R own idx tx (pre x) s) (hz : stepI iv G M pc (.ldc_w idx) nx x y ls st h = some (.inl z)) (kk : mGo p l e R s m args below meth c Q D cl dA pre base ρ nL z.1 z.2.1 z.2.2.1 z.2.2.2.1 (cells + z.2.2.2.2.1) (slots + z.2.2.2.2.2)) : mGo p l e R s m args below meth c Q D cl dA pre base ρ nL pc ls st h cells slots := by
  have q : stepI iv G M pc (.ldc_w idx) nx x y ls st h = (if y = 0 then okk nx ls (.int (Int32.ofNat x) :: st) h else okk nx ls (.ref x :: st) h) := rfl
  rw [q, if_neg (by rw [hy]; decide)] at hz
  clear q
  cases okk_ok hz
  subst hnx
  intro lsA H locs hL hR hS hZ
  have hm : mad pre base x = pre x := by unfold mad; rw [if_pos hx8]
  have k2 := kk lsA H locs hL hR hS hZ
  rw [List.map_cons, show emv pre base ρ (.ref x) = .ref (pre x) from congrArg Value.ref hm] at k2
  exact sl_ldcwS X.1 X.2.1 X.2.2.2.1 hv hd k2
theorem so_ldc2_w {idx : Nat} (X : mCx p s m args c D cl dA pre base ρ tyL Ts G cc own nL) (hd : decode cc pc = .ok (.ldc2_w idx, 3)) (hnx : nx = pc + 3) (hk : Cond.constantLong own idx (Int64.ofNat x) ∈ Ts) (hz : stepI iv G M pc (.ldc2_w idx) nx x y ls st h = some (.inl z)) (kk : mGo p l e R s m args below meth c Q D cl dA pre base ρ nL z.1 z.2.1 z.2.2.1 z.2.2.2.1 (cells + z.2.2.2.2.1) (slots + z.2.2.2.2.2)) : mGo p l e R s m args below meth c Q D cl dA pre base ρ nL pc ls st h cells slots := by
  cases okk_ok hz
  subst hnx
  intro lsA H locs hL hR hS hZ
  exact lv_ldc2 X.1 X.2.1 X.2.2.2.1 (X.2.2.2.2.1 _ hk) hd (kk lsA H locs hL hR hS hZ)
theorem so_gets {idx : Nat} {C n d host : String} (X : mCx p s m args c D cl dA pre base ρ tyL Ts G cc own nL) (hd : decode cc pc = .ok (.getstatic idx, 3)) (hnx : nx = pc + 3) (hk : Cond.fieldLink own idx C n d ∈ Ts) (hx8 : x < 64) (hZs : va_Z C n d (.ref (pre x)) (fun q => base ≤ q) s s.heap) (hz : stepI iv G M pc (.getstatic idx) nx x y ls st h = some (.inl z)) (kk : mGo p l e R s m args below meth c Q D cl dA pre base ρ nL z.1 z.2.1 z.2.2.1 z.2.2.2.1 (cells + z.2.2.2.2.1) (slots + z.2.2.2.2.2)) : mGo p l e R s m args below meth c Q D cl dA pre base ρ nL pc ls st h cells slots := by
  cases okk_ok hz
  subst hnx
  intro lsA H locs hL hR hS hZ
  have hm : mad pre base x = pre x := by unfold mad; rw [if_pos hx8]
  have k2 := kk lsA H locs hL hR hS hZ
  rw [List.map_cons, show emv pre base ρ (.ref x) = .ref (pre x) from congrArg Value.ref hm] at k2
  exact va_gets X.1 X.2.1 hZs hS X.2.2.2.1 (X.2.2.2.2.1 _ hk) (fun q hq => hq) hd k2
theorem so_getsN {idx : Nat} {C n d host : String} (X : mCx p s m args c D cl dA pre base ρ tyL Ts G cc own nL) (hd : decode cc pc = .ok (.getstatic idx, 3)) (hnx : nx = pc + 3) (hk : va_Nw (Cond.fieldLinkNest own idx C n d host) s) (hx8 : x < 64) (hZs : va_Z C n d (.ref (pre x)) (fun q => base ≤ q) s s.heap) (hz : stepI iv G M pc (.getstatic idx) nx x y ls st h = some (.inl z)) (kk : mGo p l e R s m args below meth c Q D cl dA pre base ρ nL z.1 z.2.1 z.2.2.1 z.2.2.2.1 (cells + z.2.2.2.2.1) (slots + z.2.2.2.2.2)) : mGo p l e R s m args below meth c Q D cl dA pre base ρ nL pc ls st h cells slots := by
  cases okk_ok hz
  subst hnx
  intro lsA H locs hL hR hS hZ
  have hm : mad pre base x = pre x := by unfold mad; rw [if_pos hx8]
  have k2 := kk lsA H locs hL hR hS hZ
  rw [List.map_cons, show emv pre base ρ (.ref x) = .ref (pre x) from congrArg Value.ref hm] at k2
  exact va_getsN X.1 X.2.1 hZs hS X.2.2.2.1 (hk.use rfl) (fun q hq => hq) hd k2
theorem mwid_map (pre : Nat → Nat) (base : Nat) (ρ : Nat → Int32) (r : List Value) : ((r.map (emv pre base ρ)).map fun v => v.category).sum = mwid r := by
  unfold mwid
  rw [List.map_map]
  congr 1
  apply List.map_congr_left
  intro v _
  exact emv_cat pre base ρ v
theorem so_objInit {idx : Nat} (X : mCx p s m args c D cl dA pre base ρ tyL Ts G cc own nL) (hd : decode cc pc = .ok (.invokespecial idx, 3)) (hnx : nx = pc + 3) (hx : x = 0) (h1 : Cond.methodLink own idx Lib.objectInit ∈ Ts) (h2 : Cond.instanceMethod Lib.objectInit ∈ Ts) (h3 : Cond.code Lib.objectInit ⟨#[0xb1]⟩ 1 none ∈ Ts) (hRf : 1 ≤ R.frames) (hRl : 20 ≤ R.locals) (hz : stepI iv G M pc (.invokespecial idx) nx x y ls st h = some (.inl z)) (kk : mGo p l e R s m args below meth c Q D cl dA pre base ρ nL z.1 z.2.1 z.2.2.1 z.2.2.2.1 (cells + z.2.2.2.2.1) (slots + z.2.2.2.2.2)) : mGo p l e R s m args below meth c Q D cl dA pre base ρ nL pc ls st h cells slots := by
  have q : stepI iv G M pc (.invokespecial idx) nx x y ls st h = (s1r st fun _ r => if mwid r ≤ 8 then okk nx ls r h else none) := by show (if x = 0 then _ else _) = _; rw [if_pos hx]
  rw [q] at hz
  clear q
  obtain ⟨a, r, rfl, hz1⟩ := s1r_ok hz
  clear hz
  obtain ⟨hw, hz2⟩ := if_ok hz1
  cases okk_ok hz2
  subst hnx
  intro lsA H locs hL hR hS hZ
  have hm := mwid_map pre base ρ r
  exact W.objInit X.1 X.2.1 X.2.2.2.1 (X.2.2.2.2.1 _ h1) (X.2.2.2.2.1 _ h2) (X.2.2.2.2.1 _ h3) rfl (by rw [X.2.2.1]; exact hL.1) rfl hd hRf (by show 2 * 0 + _ + 12 ≤ _; omega) (kk lsA H locs hL hR hS hZ)
theorem so_mmin {idx : Nat} (X : mCx p s m args c D cl dA pre base ρ tyL Ts G cc own nL) (hd : decode cc pc = .ok (.invokestatic idx, 3)) (hnx : nx = pc + 3) (hx : x = 9000) (h1 : Cond.methodLink own idx Lib.Math.min.name ∈ Ts) (h2 : Cond.static Lib.Math.min.name ∈ Ts) (h3 : Cond.initialized "java/lang/Math" ∈ Ts) (h4 : Cond.code Lib.Math.min.name Lib.Math.min.code 2 (some .int) ∈ Ts) (hRf : 1 ≤ R.frames) (hRl : 21 ≤ R.locals) (hc : cells + z.2.2.2.2.1 ≤ R.cells) (hn : slots + z.2.2.2.2.2 ≤ R.slots) (hz : stepI iv G M pc (.invokestatic idx) nx x y ls st h = some (.inl z)) (kk : mGo p l e R s m args below meth c Q D cl dA pre base ρ nL z.1 z.2.1 z.2.2.1 z.2.2.2.1 (cells + z.2.2.2.2.1) (slots + z.2.2.2.2.2)) : mGo p l e R s m args below meth c Q D cl dA pre base ρ nL pc ls st h cells slots := by
  have q : stepI iv G M pc (.invokestatic idx) nx x y ls st h = (s2i st fun a b r => if mwid r ≤ 8 then okk nx ls (.int (if b < a then b else a) :: r) h else none) := by show (if x = 9000 then _ else _) = _; rw [if_pos hx]
  rw [q] at hz
  clear q
  obtain ⟨a, b, r, rfl, hz1⟩ := s2i_ok hz
  clear hz
  obtain ⟨hw, hz2⟩ := if_ok hz1
  cases okk_ok hz2
  subst hnx
  intro lsA H locs hL hR hS hZ
  have hm := mwid_map pre base ρ r
  exact va_mmin X.1 X.2.1 (by rw [X.2.2.1]; exact hL.1.symm) X.2.2.2.1 (X.2.2.2.2.1 _ h1) (X.2.2.2.2.1 _ h2) (X.2.2.2.2.1 _ h3) (X.2.2.2.2.1 _ h4) hRf (by omega) hc hn hd (kk lsA H locs hL hR hS hZ)
end SO
end
section
/-! Branches and answers: a step of the small machine is a step of the machine. -/
section SO
variable {p : Program} {l : Launch} {e : Env} {R : Room} {s : State} {m : MethodId} {args : Array Value} {below : List Frame} {meth : Method} {c : Code} {Q : State → Prop}
variable {D : va_G} {cl : List vw_C} {dA : Nat → ClassId} {pre : Nat → Nat} {base : Nat} {ρ : Nat → Int32} {tyL : List FieldType} {Ts : List Cond} {G : GI} {cc : ByteArray} {own : String} {nL : Nat} {iv : List (Int × Int)}
variable {M pc nx x y : Nat} {ls : ML} {st : List Value} {h : MH} {cells slots : Nat} {alts : List (CD × Nat)} {ls' : ML} {st' : List Value} {pc' : Nat} {cd : CD}
theorem brr_ok {n : Nat} {v w : Value} {x nx : Nat} {ls ls' : ML} {st st' : List Value} {alts : List (CD × Nat)} {pc' : Nat} {cd : CD} (e : brr n v w x nx ls st = some (.inr (.inr (.inr (alts, ls', st'))))) (hq : (cd, pc') ∈ alts) : ls' = ls ∧ st' = st ∧ ((cd = (n, v, w) ∧ pc' = x) ∨ (cd = (cno n, v, w) ∧ pc' = nx)) := by
  unfold brr at e
  cases e
  refine ⟨rfl, rfl, ?_⟩
  rcases List.mem_cons.mp hq with h1 | h1
  · cases h1
    exact Or.inl ⟨rfl, rfl⟩
  · rcases List.mem_cons.mp h1 with h2 | h2
    · cases h2
      exact Or.inr ⟨rfl, rfl⟩
    · cases h2
theorem so_if_eq {off : Int} (X : mCx p s m args c D cl dA pre base ρ tyL Ts G cc own nL) (hd : decode cc pc = .ok (.ifCond .eq off, 3)) (hnx : nx = pc + 3) (ht : (pc : Int) + off = (x : Int)) (hz : stepI iv G M pc (.ifCond .eq off) nx x y ls st h = some (.inr (.inr (.inr (alts, ls', st'))))) (hq : (cd, pc') ∈ alts) (hcd : cdP ρ cd) (kk : mGo p l e R s m args below meth c Q D cl dA pre base ρ nL pc' ls' st' h cells slots) : mGo p l e R s m args below meth c Q D cl dA pre base ρ nL pc ls st h cells slots := by
  obtain ⟨a, r, rfl, ha, hz1⟩ := s1n_ok hz
  obtain ⟨rfl, rfl, hb0⟩ := brr_ok hz1 hq
  clear hz
  intro lsA H locs hL hR hS hZ
  have k2 := kk lsA H locs hL hR hS hZ
  rw [List.map_cons, isI_em ha]
  rcases hb0 with ⟨rfl, rfl⟩ | ⟨rfl, rfl⟩
  · exact lv_if_eq X.1 X.2.1 hd ht (fun _ => k2) (fun q => absurd hcd q)
  · subst hnx
    exact lv_if_eq X.1 X.2.1 hd ht (fun q => absurd q hcd) (fun _ => k2)
theorem so_icmp_eq {off : Int} (X : mCx p s m args c D cl dA pre base ρ tyL Ts G cc own nL) (hd : decode cc pc = .ok (.if_icmp .eq off, 3)) (hnx : nx = pc + 3) (ht : (pc : Int) + off = (x : Int)) (hz : stepI iv G M pc (.if_icmp .eq off) nx x y ls st h = some (.inr (.inr (.inr (alts, ls', st'))))) (hq : (cd, pc') ∈ alts) (hcd : cdP ρ cd) (kk : mGo p l e R s m args below meth c Q D cl dA pre base ρ nL pc' ls' st' h cells slots) : mGo p l e R s m args below meth c Q D cl dA pre base ρ nL pc ls st h cells slots := by
  obtain ⟨b, r1, rfl, hb, hz0⟩ := s1n_ok hz
  obtain ⟨a, r, rfl, ha, hz1⟩ := s1n_ok hz0
  clear hz0
  obtain ⟨rfl, rfl, hb0⟩ := brr_ok hz1 hq
  clear hz
  intro lsA H locs hL hR hS hZ
  have k2 := kk lsA H locs hL hR hS hZ
  rw [List.map_cons, List.map_cons, isI_em hb, isI_em ha]
  rcases hb0 with ⟨rfl, rfl⟩ | ⟨rfl, rfl⟩
  · exact lv_icmp_eq X.1 X.2.1 hd ht (fun _ => k2) (fun q => absurd hcd q)
  · subst hnx
    exact lv_icmp_eq X.1 X.2.1 hd ht (fun q => absurd q hcd) (fun _ => k2)
theorem so_if_ne {off : Int} (X : mCx p s m args c D cl dA pre base ρ tyL Ts G cc own nL) (hd : decode cc pc = .ok (.ifCond .ne off, 3)) (hnx : nx = pc + 3) (ht : (pc : Int) + off = (x : Int)) (hz : stepI iv G M pc (.ifCond .ne off) nx x y ls st h = some (.inr (.inr (.inr (alts, ls', st'))))) (hq : (cd, pc') ∈ alts) (hcd : cdP ρ cd) (kk : mGo p l e R s m args below meth c Q D cl dA pre base ρ nL pc' ls' st' h cells slots) : mGo p l e R s m args below meth c Q D cl dA pre base ρ nL pc ls st h cells slots := by
  obtain ⟨a, r, rfl, ha, hz1⟩ := s1n_ok hz
  obtain ⟨rfl, rfl, hb0⟩ := brr_ok hz1 hq
  clear hz
  intro lsA H locs hL hR hS hZ
  have k2 := kk lsA H locs hL hR hS hZ
  rw [List.map_cons, isI_em ha]
  rcases hb0 with ⟨rfl, rfl⟩ | ⟨rfl, rfl⟩
  · exact lv_if_ne X.1 X.2.1 hd ht (fun _ => k2) (fun q => absurd q hcd)
  · subst hnx
    exact lv_if_ne X.1 X.2.1 hd ht (fun q => absurd hcd q) (fun _ => k2)
theorem so_icmp_ne {off : Int} (X : mCx p s m args c D cl dA pre base ρ tyL Ts G cc own nL) (hd : decode cc pc = .ok (.if_icmp .ne off, 3)) (hnx : nx = pc + 3) (ht : (pc : Int) + off = (x : Int)) (hz : stepI iv G M pc (.if_icmp .ne off) nx x y ls st h = some (.inr (.inr (.inr (alts, ls', st'))))) (hq : (cd, pc') ∈ alts) (hcd : cdP ρ cd) (kk : mGo p l e R s m args below meth c Q D cl dA pre base ρ nL pc' ls' st' h cells slots) : mGo p l e R s m args below meth c Q D cl dA pre base ρ nL pc ls st h cells slots := by
  obtain ⟨b, r1, rfl, hb, hz0⟩ := s1n_ok hz
  obtain ⟨a, r, rfl, ha, hz1⟩ := s1n_ok hz0
  clear hz0
  obtain ⟨rfl, rfl, hb0⟩ := brr_ok hz1 hq
  clear hz
  intro lsA H locs hL hR hS hZ
  have k2 := kk lsA H locs hL hR hS hZ
  rw [List.map_cons, List.map_cons, isI_em hb, isI_em ha]
  rcases hb0 with ⟨rfl, rfl⟩ | ⟨rfl, rfl⟩
  · exact lv_icmp_ne X.1 X.2.1 hd ht (fun _ => k2) (fun q => absurd q hcd)
  · subst hnx
    exact lv_icmp_ne X.1 X.2.1 hd ht (fun q => absurd hcd q) (fun _ => k2)
theorem so_if_lt {off : Int} (X : mCx p s m args c D cl dA pre base ρ tyL Ts G cc own nL) (hd : decode cc pc = .ok (.ifCond .lt off, 3)) (hnx : nx = pc + 3) (ht : (pc : Int) + off = (x : Int)) (hz : stepI iv G M pc (.ifCond .lt off) nx x y ls st h = some (.inr (.inr (.inr (alts, ls', st'))))) (hq : (cd, pc') ∈ alts) (hcd : cdP ρ cd) (kk : mGo p l e R s m args below meth c Q D cl dA pre base ρ nL pc' ls' st' h cells slots) : mGo p l e R s m args below meth c Q D cl dA pre base ρ nL pc ls st h cells slots := by
  obtain ⟨a, r, rfl, ha, hz1⟩ := s1n_ok hz
  obtain ⟨rfl, rfl, hb0⟩ := brr_ok hz1 hq
  clear hz
  intro lsA H locs hL hR hS hZ
  have k2 := kk lsA H locs hL hR hS hZ
  rw [List.map_cons, isI_em ha]
  rcases hb0 with ⟨rfl, rfl⟩ | ⟨rfl, rfl⟩
  · exact lv_if_lt X.1 X.2.1 hd ht (fun _ => k2) (fun q => absurd hcd q)
  · subst hnx
    exact lv_if_lt X.1 X.2.1 hd ht (fun q => absurd q (Int32.not_lt.mpr hcd)) (fun _ => k2)
theorem so_icmp_lt {off : Int} (X : mCx p s m args c D cl dA pre base ρ tyL Ts G cc own nL) (hd : decode cc pc = .ok (.if_icmp .lt off, 3)) (hnx : nx = pc + 3) (ht : (pc : Int) + off = (x : Int)) (hz : stepI iv G M pc (.if_icmp .lt off) nx x y ls st h = some (.inr (.inr (.inr (alts, ls', st'))))) (hq : (cd, pc') ∈ alts) (hcd : cdP ρ cd) (kk : mGo p l e R s m args below meth c Q D cl dA pre base ρ nL pc' ls' st' h cells slots) : mGo p l e R s m args below meth c Q D cl dA pre base ρ nL pc ls st h cells slots := by
  obtain ⟨b, r1, rfl, hb, hz0⟩ := s1n_ok hz
  obtain ⟨a, r, rfl, ha, hz1⟩ := s1n_ok hz0
  clear hz0
  obtain ⟨rfl, rfl, hb0⟩ := brr_ok hz1 hq
  clear hz
  intro lsA H locs hL hR hS hZ
  have k2 := kk lsA H locs hL hR hS hZ
  rw [List.map_cons, List.map_cons, isI_em hb, isI_em ha]
  rcases hb0 with ⟨rfl, rfl⟩ | ⟨rfl, rfl⟩
  · exact lv_icmp_lt X.1 X.2.1 hd ht (fun _ => k2) (fun q => absurd hcd q)
  · subst hnx
    exact lv_icmp_lt X.1 X.2.1 hd ht (fun q => absurd q (Int32.not_lt.mpr hcd)) (fun _ => k2)
theorem so_if_ge {off : Int} (X : mCx p s m args c D cl dA pre base ρ tyL Ts G cc own nL) (hd : decode cc pc = .ok (.ifCond .ge off, 3)) (hnx : nx = pc + 3) (ht : (pc : Int) + off = (x : Int)) (hz : stepI iv G M pc (.ifCond .ge off) nx x y ls st h = some (.inr (.inr (.inr (alts, ls', st'))))) (hq : (cd, pc') ∈ alts) (hcd : cdP ρ cd) (kk : mGo p l e R s m args below meth c Q D cl dA pre base ρ nL pc' ls' st' h cells slots) : mGo p l e R s m args below meth c Q D cl dA pre base ρ nL pc ls st h cells slots := by
  obtain ⟨a, r, rfl, ha, hz1⟩ := s1n_ok hz
  obtain ⟨rfl, rfl, hb0⟩ := brr_ok hz1 hq
  clear hz
  intro lsA H locs hL hR hS hZ
  have k2 := kk lsA H locs hL hR hS hZ
  rw [List.map_cons, isI_em ha]
  rcases hb0 with ⟨rfl, rfl⟩ | ⟨rfl, rfl⟩
  · exact lv_if_ge X.1 X.2.1 hd ht (fun _ => k2) (fun q => absurd hcd q)
  · subst hnx
    exact lv_if_ge X.1 X.2.1 hd ht (fun q => absurd q (Int32.not_le.mpr hcd)) (fun _ => k2)
theorem so_icmp_ge {off : Int} (X : mCx p s m args c D cl dA pre base ρ tyL Ts G cc own nL) (hd : decode cc pc = .ok (.if_icmp .ge off, 3)) (hnx : nx = pc + 3) (ht : (pc : Int) + off = (x : Int)) (hz : stepI iv G M pc (.if_icmp .ge off) nx x y ls st h = some (.inr (.inr (.inr (alts, ls', st'))))) (hq : (cd, pc') ∈ alts) (hcd : cdP ρ cd) (kk : mGo p l e R s m args below meth c Q D cl dA pre base ρ nL pc' ls' st' h cells slots) : mGo p l e R s m args below meth c Q D cl dA pre base ρ nL pc ls st h cells slots := by
  obtain ⟨b, r1, rfl, hb, hz0⟩ := s1n_ok hz
  obtain ⟨a, r, rfl, ha, hz1⟩ := s1n_ok hz0
  clear hz0
  obtain ⟨rfl, rfl, hb0⟩ := brr_ok hz1 hq
  clear hz
  intro lsA H locs hL hR hS hZ
  have k2 := kk lsA H locs hL hR hS hZ
  rw [List.map_cons, List.map_cons, isI_em hb, isI_em ha]
  rcases hb0 with ⟨rfl, rfl⟩ | ⟨rfl, rfl⟩
  · exact lv_icmp_ge X.1 X.2.1 hd ht (fun _ => k2) (fun q => absurd hcd q)
  · subst hnx
    exact lv_icmp_ge X.1 X.2.1 hd ht (fun q => absurd q (Int32.not_le.mpr hcd)) (fun _ => k2)
theorem so_if_gt {off : Int} (X : mCx p s m args c D cl dA pre base ρ tyL Ts G cc own nL) (hd : decode cc pc = .ok (.ifCond .gt off, 3)) (hnx : nx = pc + 3) (ht : (pc : Int) + off = (x : Int)) (hz : stepI iv G M pc (.ifCond .gt off) nx x y ls st h = some (.inr (.inr (.inr (alts, ls', st'))))) (hq : (cd, pc') ∈ alts) (hcd : cdP ρ cd) (kk : mGo p l e R s m args below meth c Q D cl dA pre base ρ nL pc' ls' st' h cells slots) : mGo p l e R s m args below meth c Q D cl dA pre base ρ nL pc ls st h cells slots := by
  obtain ⟨a, r, rfl, ha, hz1⟩ := s1n_ok hz
  obtain ⟨rfl, rfl, hb0⟩ := brr_ok hz1 hq
  clear hz
  intro lsA H locs hL hR hS hZ
  have k2 := kk lsA H locs hL hR hS hZ
  rw [List.map_cons, isI_em ha]
  rcases hb0 with ⟨rfl, rfl⟩ | ⟨rfl, rfl⟩
  · exact lv_if_gt X.1 X.2.1 hd ht (fun _ => k2) (fun q => absurd hcd q)
  · subst hnx
    exact lv_if_gt X.1 X.2.1 hd ht (fun q => absurd q (Int32.not_lt.mpr hcd)) (fun _ => k2)
theorem so_icmp_gt {off : Int} (X : mCx p s m args c D cl dA pre base ρ tyL Ts G cc own nL) (hd : decode cc pc = .ok (.if_icmp .gt off, 3)) (hnx : nx = pc + 3) (ht : (pc : Int) + off = (x : Int)) (hz : stepI iv G M pc (.if_icmp .gt off) nx x y ls st h = some (.inr (.inr (.inr (alts, ls', st'))))) (hq : (cd, pc') ∈ alts) (hcd : cdP ρ cd) (kk : mGo p l e R s m args below meth c Q D cl dA pre base ρ nL pc' ls' st' h cells slots) : mGo p l e R s m args below meth c Q D cl dA pre base ρ nL pc ls st h cells slots := by
  obtain ⟨b, r1, rfl, hb, hz0⟩ := s1n_ok hz
  obtain ⟨a, r, rfl, ha, hz1⟩ := s1n_ok hz0
  clear hz0
  obtain ⟨rfl, rfl, hb0⟩ := brr_ok hz1 hq
  clear hz
  intro lsA H locs hL hR hS hZ
  have k2 := kk lsA H locs hL hR hS hZ
  rw [List.map_cons, List.map_cons, isI_em hb, isI_em ha]
  rcases hb0 with ⟨rfl, rfl⟩ | ⟨rfl, rfl⟩
  · exact lv_icmp_gt X.1 X.2.1 hd ht (fun _ => k2) (fun q => absurd hcd q)
  · subst hnx
    exact lv_icmp_gt X.1 X.2.1 hd ht (fun q => absurd q (Int32.not_lt.mpr hcd)) (fun _ => k2)
theorem so_if_le {off : Int} (X : mCx p s m args c D cl dA pre base ρ tyL Ts G cc own nL) (hd : decode cc pc = .ok (.ifCond .le off, 3)) (hnx : nx = pc + 3) (ht : (pc : Int) + off = (x : Int)) (hz : stepI iv G M pc (.ifCond .le off) nx x y ls st h = some (.inr (.inr (.inr (alts, ls', st'))))) (hq : (cd, pc') ∈ alts) (hcd : cdP ρ cd) (kk : mGo p l e R s m args below meth c Q D cl dA pre base ρ nL pc' ls' st' h cells slots) : mGo p l e R s m args below meth c Q D cl dA pre base ρ nL pc ls st h cells slots := by
  obtain ⟨a, r, rfl, ha, hz1⟩ := s1n_ok hz
  obtain ⟨rfl, rfl, hb0⟩ := brr_ok hz1 hq
  clear hz
  intro lsA H locs hL hR hS hZ
  have k2 := kk lsA H locs hL hR hS hZ
  rw [List.map_cons, isI_em ha]
  rcases hb0 with ⟨rfl, rfl⟩ | ⟨rfl, rfl⟩
  · exact lv_if_le X.1 X.2.1 hd ht (fun _ => k2) (fun q => absurd hcd q)
  · subst hnx
    exact lv_if_le X.1 X.2.1 hd ht (fun q => absurd q (Int32.not_le.mpr hcd)) (fun _ => k2)
theorem so_icmp_le {off : Int} (X : mCx p s m args c D cl dA pre base ρ tyL Ts G cc own nL) (hd : decode cc pc = .ok (.if_icmp .le off, 3)) (hnx : nx = pc + 3) (ht : (pc : Int) + off = (x : Int)) (hz : stepI iv G M pc (.if_icmp .le off) nx x y ls st h = some (.inr (.inr (.inr (alts, ls', st'))))) (hq : (cd, pc') ∈ alts) (hcd : cdP ρ cd) (kk : mGo p l e R s m args below meth c Q D cl dA pre base ρ nL pc' ls' st' h cells slots) : mGo p l e R s m args below meth c Q D cl dA pre base ρ nL pc ls st h cells slots := by
  obtain ⟨b, r1, rfl, hb, hz0⟩ := s1n_ok hz
  obtain ⟨a, r, rfl, ha, hz1⟩ := s1n_ok hz0
  clear hz0
  obtain ⟨rfl, rfl, hb0⟩ := brr_ok hz1 hq
  clear hz
  intro lsA H locs hL hR hS hZ
  have k2 := kk lsA H locs hL hR hS hZ
  rw [List.map_cons, List.map_cons, isI_em hb, isI_em ha]
  rcases hb0 with ⟨rfl, rfl⟩ | ⟨rfl, rfl⟩
  · exact lv_icmp_le X.1 X.2.1 hd ht (fun _ => k2) (fun q => absurd hcd q)
  · subst hnx
    exact lv_icmp_le X.1 X.2.1 hd ht (fun q => absurd q (Int32.not_le.mpr hcd)) (fun _ => k2)
theorem swAlts_ok {v : Value} {pc' : Nat} {cd : CD} : ∀ {offs : List Nat} {lo : Int}, (cd, pc') ∈ swAlts v lo offs → ∃ k : Nat, cd = (0, v, .int (Int32.ofInt (lo + k))) ∧ offs[k]? = some pc' := by
  intro offs
  induction offs with
  | nil => intro lo h; cases h
  | cons o r ih =>
    intro lo h
    rcases List.mem_cons.mp h with h1 | h1
    · cases h1
      exact ⟨0, by simp, rfl⟩
    · obtain ⟨k, h2, h3⟩ := ih h1
      exact ⟨k + 1, by rw [h2, show lo + 1 + (k : Int) = lo + ((k + 1 : Nat) : Int) by omega], h3⟩
theorem ofI_toInt {n : Int} (h1 : -2147483648 ≤ n) (h2 : n ≤ 2147483647) : (Int32.ofInt n).toInt = n := Int32.toInt_ofInt_of_le (by omega) (by omega)
theorem so_tsw {d lo hi : Int} {offs : Array Int} {len : Nat} (X : mCx p s m args c D cl dA pre base ρ tyL Ts G cc own nL) (hd : decode cc pc = .ok (.tableswitch d lo hi offs, len)) (htd : 0 ≤ (pc : Int) + d) (hto : ∀ o ∈ offs.toList, 0 ≤ (pc : Int) + o) (hsz : lo + offs.toList.length ≤ hi + 1) (hz : stepI iv G M pc (.tableswitch d lo hi offs) nx x y ls st h = some (.inr (.inr (.inr (alts, ls', st'))))) (hq : (cd, pc') ∈ alts) (hcd : cdP ρ cd) (kk : mGo p l e R s m args below meth c Q D cl dA pre base ρ nL pc' ls' st' h cells slots) : mGo p l e R s m args below meth c Q D cl dA pre base ρ nL pc ls st h cells slots := by
  obtain ⟨a, r, rfl, ha, hz1⟩ := s1n_ok hz
  clear hz
  obtain ⟨hlh, hz2⟩ := if_ok hz1
  simp only [Bool.and_eq_true, decide_eq_true_eq] at hlh
  cases hz2
  intro lsA H locs hL hR hS hZ
  have k2 := kk lsA H locs hL hR hS hZ
  rw [List.map_cons, isI_em ha]
  rcases List.mem_cons.mp hq with h1 | h1
  · cases h1
    have h3 : (emI ρ a).toInt < lo := by
      have h2 := Int32.lt_iff_toInt_lt.mp hcd
      rcases Int.lt_or_le 2147483647 lo with h4 | h4
      · have := (emI ρ a).toInt_lt; omega
      · rw [show emI ρ (.int (Int32.ofInt lo)) = Int32.ofInt lo from rfl, ofI_toInt hlh.1 h4] at h2; exact h2
    exact lv_tableOut X.1 X.2.1 hd (Or.inl h3) (by unfold natI; omega) k2
  · rcases List.mem_cons.mp h1 with h2 | h2
    · cases h2
      have h3 : hi < (emI ρ a).toInt := by
        have h2 := Int32.lt_iff_toInt_lt.mp hcd
        rcases Int.lt_or_le hi (-2147483648) with h4 | h4
        · have := (emI ρ a).le_toInt; omega
        · rw [show emI ρ (.int (Int32.ofInt hi)) = Int32.ofInt hi from rfl, ofI_toInt h4 hlh.2] at h2; exact h2
      exact lv_tableOut X.1 X.2.1 hd (Or.inr h3) (by unfold natI; omega) k2
    · obtain ⟨k, rfl, h3⟩ := swAlts_ok h2
      rw [List.getElem?_map] at h3
      obtain ⟨o, h4, rfl⟩ := Option.map_eq_some_iff.mp h3
      have h5 := hto o (List.mem_of_getElem? h4)
      have h6 := (List.getElem?_eq_some_iff.mp h4).1
      have h7 : (emI ρ a).toInt = lo + (k : Int) := by
        have h8 : emI ρ a = Int32.ofInt (lo + (k : Int)) := hcd
        rw [h8, ofI_toInt (by omega) (by omega)]
      refine lv_tableIn X.1 X.2.1 hd (by omega) (by omega) (off := o) ?_ (by unfold natI; omega) k2
      rw [h7, show (lo + (k : Int) - lo).toNat = k by omega, ← Array.getElem?_toList]
      exact h4
/-- what an answer has to say: the answer, the cells behind it -/
def mQc (D : va_G) (cl : List vw_C) (dA : Nat → ClassId) (pre : Nat → Nat) (base : Nat) (ρ : Nat → Int32) (v : Option Value) (h : MH) (k : Nat) : Array Value → State → Outcome → State → Prop := fun _ U o t =>
  o = .returned (v.map (emv pre base ρ)) ∧ mR D cl dA pre base ρ h t.heap ∧ t.heap.size = U.heap.size + k ∧ (∀ q : Nat, q < U.heap.size → ¬ base ≤ q → t.heap[q]? = U.heap[q]?)
theorem mQc_of {D : va_G} {cl : List vw_C} {dA : Nat → ClassId} {pre : Nat → Nat} {base : Nat} {ρ : Nat → Int32} {v : Option Value} {h : MH} {k : Nat} {a : Array Value} {U t : State} {o : Outcome} {H : Heap} {locs : List Loc} (hR : mR D cl dA pre base ρ h H) (hS : va_S (fun q => base ≤ q) U.heap H locs) (hZ : U.heap.size + k = H.size) (ht : t.heap = H) (ho : o = .returned (v.map (emv pre base ρ))) : mQc D cl dA pre base ρ v h k a U o t :=
  ⟨ho, by rw [ht]; exact hR, by rw [ht]; exact hZ.symm, fun q h1 h2 => by rw [ht]; exact hS.2.1 q h1 h2⟩
theorem so_ireturn {v : Option Value} (X : mCx p s m args c D cl dA pre base ρ tyL Ts G cc own nL) (hd : decode cc pc = .ok (.ireturn, 1)) (hlocks : meth.locks = false) (hret : meth.sig.returnType = G.2.2.2.2.2.1 M) (hz : stepI iv G M pc (.ireturn) nx x y ls st h = some (.inr (.inr (.inl v)))) : mGo p l e R s m args below meth c (MQ below (mQc D cl dA pre base ρ v h cells) args s cells slots (fun q => base ≤ q)) D cl dA pre base ρ nL pc ls st h cells slots := by
  have hz1 : (match st with | [w] => _ | _ => none) = _ := hz
  clear hz
  rcases st with _ | ⟨w, _ | ⟨w2, r⟩⟩
  · cases hz1
  · obtain ⟨h1, h2⟩ := if_ok hz1
    simp only [Bool.and_eq_true, decide_eq_true_eq] at h1
    cases h2
    intro lsA H locs hL hR hS hZ
    cases hty : G.2.2.2.2.2.1 M with
    | none => rw [hty] at h1; exact absurd h1.2 (by intro q; cases q)
    | some ty =>
      rw [hty] at h1 hret
      cases w with
      | int a => exact W.zret X.1 X.2.1 hret (fitB_ok (pre := pre) (base := base) (ρ := ρ) h1.2).1 (fun t ht _ => mQc_of hR hS hZ ht rfl) hS.2.2 hd hlocks
      | retAddr j => exact W.zret (v := ρ j) X.1 X.2.1 hret (fitB_ok (pre := pre) (base := base) (ρ := ρ) h1.2).1 (fun t ht _ => mQc_of hR hS hZ ht rfl) hS.2.2 hd hlocks
      | _ => exact absurd h1.1 (by simp [isI])
  · cases hz1
theorem so_lreturn {v : Option Value} (X : mCx p s m args c D cl dA pre base ρ tyL Ts G cc own nL) (hd : decode cc pc = .ok (.lreturn, 1)) (hlocks : meth.locks = false) (hret : meth.sig.returnType = G.2.2.2.2.2.1 M) (hz : stepI iv G M pc (.lreturn) nx x y ls st h = some (.inr (.inr (.inl v)))) : mGo p l e R s m args below meth c (MQ below (mQc D cl dA pre base ρ v h cells) args s cells slots (fun q => base ≤ q)) D cl dA pre base ρ nL pc ls st h cells slots := by
  have hz1 : (match st with | [w] => _ | _ => none) = _ := hz
  clear hz
  rcases st with _ | ⟨w, _ | ⟨w2, r⟩⟩
  · cases hz1
  · obtain ⟨h1, h2⟩ := if_ok hz1
    simp only [Bool.and_eq_true, decide_eq_true_eq] at h1
    cases h2
    intro lsA H locs hL hR hS hZ
    rw [h1.2] at hret
    cases w with
    | long a => exact W.lret X.1 X.2.1 hret (fun t ht _ => mQc_of hR hS hZ ht rfl) hS.2.2 hd hlocks
    | _ => exact absurd h1.1 (by simp [isL])
  · cases hz1
theorem so_areturn {v : Option Value} (X : mCx p s m args c D cl dA pre base ρ tyL Ts G cc own nL) (hd : decode cc pc = .ok (.areturn, 1)) (hlocks : meth.locks = false) (hret : meth.sig.returnType = G.2.2.2.2.2.1 M) (hz : stepI iv G M pc (.areturn) nx x y ls st h = some (.inr (.inr (.inl v)))) : mGo p l e R s m args below meth c (MQ below (mQc D cl dA pre base ρ v h cells) args s cells slots (fun q => base ≤ q)) D cl dA pre base ρ nL pc ls st h cells slots := by
  have hz1 : (match st with | [w] => _ | _ => none) = _ := hz
  clear hz
  rcases st with _ | ⟨w, _ | ⟨w2, r⟩⟩
  · cases hz1
  · obtain ⟨h1, h2⟩ := if_ok hz1
    simp only [Bool.and_eq_true, decide_eq_true_eq] at h1
    cases h2
    intro lsA H locs hL hR hS hZ
    cases hty : G.2.2.2.2.2.1 M with
    | none => rw [hty] at h1; exact absurd h1.2 (by intro q; cases q)
    | some ty =>
      rw [hty] at h1 hret
      cases ty with
      | object C =>
        cases w with
        | ref a => exact W.aret X.1 X.2.1 hret (Or.inl ⟨C, rfl⟩) (Or.inr ⟨mad pre base a, rfl⟩) (fun t ht _ => mQc_of hR hS hZ ht rfl) hS.2.2 hd hlocks
        | null => exact W.aret X.1 X.2.1 hret (Or.inl ⟨C, rfl⟩) (Or.inl rfl) (fun t ht _ => mQc_of hR hS hZ ht rfl) hS.2.2 hd hlocks
        | _ => exact absurd h1.1 (by simp [isR])
      | _ => exact absurd h1.2 (by intro q; cases q)
  · cases hz1
theorem so_return {v : Option Value} (X : mCx p s m args c D cl dA pre base ρ tyL Ts G cc own nL) (hd : decode cc pc = .ok (.return_, 1)) (hlocks : meth.locks = false) (hret : meth.sig.returnType = G.2.2.2.2.2.1 M) (hz : stepI iv G M pc (.return_) nx x y ls st h = some (.inr (.inr (.inl v)))) : mGo p l e R s m args below meth c (MQ below (mQc D cl dA pre base ρ v h cells) args s cells slots (fun q => base ≤ q)) D cl dA pre base ρ nL pc ls st h cells slots := by
  obtain ⟨h1, h2⟩ := if_ok (show (if (decide (G.2.2.2.2.2.1 M = none) && st.isEmpty) = true then _ else none) = _ from hz)
  simp only [Bool.and_eq_true, decide_eq_true_eq] at h1
  cases h2
  rw [h1.1] at hret
  have h3 : st = [] := by cases st with
    | nil => rfl
    | cons _ _ => exact absurd h1.2 (by simp)
  subst h3
  intro lsA H locs hL hR hS hZ
  exact W.vret X.1 X.2.1 hret (fun t ht _ => mQc_of hR hS hZ ht rfl) hS.2.2 hd hlocks
end SO
end
