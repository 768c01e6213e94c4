/-! The small machine's cells, and the machine's. -/
/-- a number's address: those below 64 were there, the others were made, one behind another -/
def mad (pre : Nat → Nat) (base a : Nat) : Nat := if a < 64 then pre a else base + (a - 64)
/-- an int, the script's told by what it is -/
def emI (ρ : Nat → Int32) (v : Value) : Int32 := match v with
  | .int a => a
  | .retAddr j => ρ j
  | _ => 0
def emv (pre : Nat → Nat) (base : Nat) (ρ : Nat → Int32) (v : Value) : Value := match v with
  | .ref a => .ref (mad pre base a)
  | .retAddr j => .int (ρ j)
  | w => w
theorem isI_em {pre : Nat → Nat} {base : Nat} {ρ : Nat → Int32} {v : Value} (h : isI v = true) : emv pre base ρ v = .int (emI ρ v) := by
  cases v <;> first | rfl | cases h
def emA (pre : Nat → Nat) (base : Nat) (ρ : Nat → Int32) (f : MA) : (Nat → Int32) ⊕ (Nat → Int64) ⊕ (Nat → UInt32) ⊕ (Nat → UInt64) ⊕ (Nat → Option Nat) := match f with
  | .inl g => .inl (fun j => emI ρ (rdI g j))
  | .inr g => .inr (.inr (.inr (.inr (fun j => (rdQ g j).map (mad pre base)))))
def emE (dA : Nat → ClassId) (pre : Nat → Nat) (base : Nat) (ρ : Nat → Int32) (e : ME) : va_E := match e with
  | .inl (t, n, f) => .inl (dA t, n, emA pre base ρ f)
  | .inr (ci, fs) => .inr (ci, fs.map (emv pre base ρ))
def emL (pre : Nat → Nat) (base : Nat) (ρ : Nat → Int32) (ls : ML) : List (Nat × Value) := ls.map fun q => (q.1, emv pre base ρ q.2)
def mws (dA : Nat → ClassId) (pre : Nat → Nat) (base : Nat) (ρ : Nat → Int32) (h : MH) : va_W := (h.2.reverse.zipIdx base).map fun q => (q.2, emE dA pre base ρ q.1)
def mR (D : va_G) (cl : List vw_C) (dA : Nat → ClassId) (pre : Nat → Nat) (base : Nat) (ρ : Nat → Int32) (h : MH) (H : Heap) : Prop := h.1 = h.2.length + 64 ∧ va_P D cl (mws dA pre base ρ h) H ∧ H.size = base + h.2.length
theorem mws_at {dA : Nat → ClassId} {pre : Nat → Nat} {base : Nat} {ρ : Nat → Int32} (h : MH) (k : Nat) : (mws dA pre base ρ h)[k]? = (h.2.reverse[k]?).map (fun e => (base + k, emE dA pre base ρ e)) := by
  unfold mws
  rw [List.getElem?_map, List.getElem?_zipIdx]
  cases h.2.reverse[k]? <;> simp
theorem mget_at {h : MH} (hk : h.1 = h.2.length + 64) {a : Nat} (ha : 64 ≤ a) : mget h a = h.2.reverse[a - 64]? := by
  unfold mget
  by_cases h1 : a < h.1
  · rw [if_pos h1, List.getElem?_reverse (by omega)]
    congr 1
    omega
  · rw [if_neg h1, List.getElem?_eq_none (by rw [List.length_reverse]; omega)]
theorem mget_lt {h : MH} (hk : h.1 = h.2.length + 64) {a : Nat} {e : ME} (hg : mget h a = some e) : 64 ≤ a ∧ a < h.1 := by
  unfold mget at hg
  by_cases h1 : a < h.1
  · rw [if_pos h1] at hg
    have := (List.getElem?_eq_some_iff.mp hg).1
    omega
  · rw [if_neg h1] at hg
    cases hg
theorem mws_get {dA : Nat → ClassId} {pre : Nat → Nat} {base : Nat} {ρ : Nat → Int32} {h : MH} (hk : h.1 = h.2.length + 64) {a : Nat} {e : ME} (hg : mget h a = some e) : (mws dA pre base ρ h)[a - 64]? = some (mad pre base a, emE dA pre base ρ e) := by
  obtain ⟨h1, h2⟩ := mget_lt hk hg
  rw [mget_at hk h1] at hg
  rw [mws_at, hg]
  simp only [Option.map_some]
  unfold mad
  rw [if_neg (by omega)]
theorem mput_ok {h : MH} (hk : h.1 = h.2.length + 64) (a : Nat) (e : ME) : (mput h a e).1 = (mput h a e).2.length + 64 := by
  simp [mput, hk]
theorem mws_put {dA : Nat → ClassId} {pre : Nat → Nat} {base : Nat} {ρ : Nat → Int32} {h : MH} (hk : h.1 = h.2.length + 64) {a : Nat} {e0 e : ME} (hg : mget h a = some e0) : mws dA pre base ρ (mput h a e) = (mws dA pre base ρ h).set (a - 64) (mad pre base a, emE dA pre base ρ e) := by
  obtain ⟨h1, h2⟩ := mget_lt hk hg
  have hr : (mput h a e).2.reverse = h.2.reverse.set (a - 64) e := by
    unfold mput
    simp only
    apply List.ext_getElem?
    intro j
    by_cases hj : j < h.2.length
    · rw [List.getElem?_reverse (by simpa using hj), List.length_set, List.getElem?_set, List.getElem?_set, List.getElem?_reverse hj, List.length_reverse]
      by_cases h3 : a - 64 = j
      · rw [if_pos (by omega), if_pos h3, if_pos (by omega), if_pos (by omega)]
      · rw [if_neg (by omega), if_neg h3]
    · rw [List.getElem?_eq_none (by simp; omega), List.getElem?_eq_none (by simp; omega)]
  apply List.ext_getElem?
  intro j
  rw [mws_at, hr, List.getElem?_set, List.getElem?_set, mws_at]
  by_cases h3 : a - 64 = j
  · subst h3
    rw [if_pos rfl, if_pos rfl]
    have hl : List.length (mws dA pre base ρ h) = h.2.length := by simp [mws]
    rw [if_pos (show a - 64 < List.length h.2.reverse by rw [List.length_reverse]; omega), if_pos (show a - 64 < List.length (mws dA pre base ρ h) by omega)]
    simp only [Option.map_some]
    unfold mad
    rw [if_neg (by omega)]
  · rw [if_neg h3, if_neg h3]
theorem mws_push {dA : Nat → ClassId} {pre : Nat → Nat} {base : Nat} {ρ : Nat → Int32} (h : MH) (e : ME) : mws dA pre base ρ (mpush h e) = mws dA pre base ρ h ++ [(base + h.2.length, emE dA pre base ρ e)] := by
  unfold mws mpush
  simp [List.zipIdx_append]
theorem mws_D {dA : Nat → ClassId} {pre : Nat → Nat} {base : Nat} {ρ : Nat → Int32} (h : MH) : va_D (fun q => base ≤ q) (mws dA pre base ρ h) := by
  refine ⟨fun i j x y hi hj hxy => ?_, fun k q hq => ?_⟩
  · rw [mws_at] at hi hj
    obtain ⟨e1, -, rfl⟩ := Option.map_eq_some_iff.mp hi
    obtain ⟨e2, -, rfl⟩ := Option.map_eq_some_iff.mp hj
    simp only at hxy
    omega
  · rw [mws_at] at hq
    obtain ⟨e1, -, rfl⟩ := Option.map_eq_some_iff.mp hq
    show base ≤ base + k
    omega
theorem emv_cat (pre : Nat → Nat) (base : Nat) (ρ : Nat → Int32) (v : Value) : (emv pre base ρ v).category = v.category := by
  cases v <;> rfl
theorem emL_lk {pre : Nat → Nat} {base : Nat} {ρ : Nat → Int32} {ls : ML} {i : Nat} {v : Value} {lsA : Array Slot} {nL : Nat} (hl : lv_has lsA nL (emL pre base ρ ls)) (h : lkl ls i = some v) : lsA[i]? = some (.val (emv pre base ρ v)) := by
  unfold lkl at h
  obtain ⟨q, hq, rfl⟩ := Option.map_eq_some_iff.mp h
  have h1 := List.mem_of_find?_eq_some hq
  have h2 := List.find?_some hq
  have h3 : q.1 = i := by simpa using h2
  subst h3
  exact hl.2.2 (q.1, emv pre base ρ q.2) (List.mem_map.mpr ⟨q, h1, rfl⟩)
theorem emL_sto1 {pre : Nat → Nat} {base : Nat} {ρ : Nat → Int32} (ls : ML) (i : Nat) (v : Value) : (i, emv pre base ρ v) :: (emL pre base ρ ls).filter (fun q => !(q.1 == i) && !(q.1 + 1 == i && q.2.category == 2)) = emL pre base ρ (sto1 ls i v) := by
  unfold emL sto1
  rw [List.map_cons, List.filter_map]
  congr 2
  apply List.filter_congr
  intro q _
  simp [emv_cat]
theorem emL_sto2 {pre : Nat → Nat} {base : Nat} {ρ : Nat → Int32} (ls : ML) (i : Nat) (v : Value) : (i, emv pre base ρ v) :: (emL pre base ρ ls).filter (fun q => !(q.1 == i) && (!(q.1 == i + 1) && !(q.1 + 1 == i && q.2.category == 2))) = emL pre base ρ (sto2 ls i v) := by
  unfold emL sto2
  rw [List.map_cons, List.filter_map]
  congr 2
  apply List.filter_congr
  intro q _
  simp [emv_cat]
theorem fitB_ok {ty : FieldType} {v : Value} {pre : Nat → Nat} {base : Nat} {ρ : Nat → Int32} (h : fitB ty v = true) : narrow ty (emv pre base ρ v) = emv pre base ρ v ∧ fits ty (emv pre base ρ v) = true := by
  cases ty <;> cases v <;> simp [fitB, isI, isL, isR] at h <;> simp [emv, narrow, fits]
  rcases h with rfl | rfl <;> decide
theorem vin_ok {i : Int32} {n : Nat} (h : vin i n = true) : vp_in i n := by
  unfold vin at h
  simp only [Bool.and_eq_true, decide_eq_true_eq] at h
  rintro (h1 | h1)
  · exact Int32.not_lt.mpr h.1 h1
  · omega
theorem rdI_up (ρ : Nat → Int32) (f : List (Nat × Value)) (k : Nat) (v : Value) : (fun j => emI ρ (rdI ((k, v) :: f) j)) = upd (fun j => emI ρ (rdI f j)) k (emI ρ v) := by
  funext j
  show emI ρ (if j = k then v else rdI f j) = (if j = k then emI ρ v else emI ρ (rdI f j))
  by_cases h : j = k
  · rw [if_pos h, if_pos h]
  · rw [if_neg h, if_neg h]
/-- what a condition says -/
def cdP (ρ : Nat → Int32) (c : CD) : Prop := match c.1 with
  | 0 => emI ρ c.2.1 = emI ρ c.2.2
  | 1 => ¬ emI ρ c.2.1 = emI ρ c.2.2
  | 2 => emI ρ c.2.1 < emI ρ c.2.2
  | 3 => emI ρ c.2.2 ≤ emI ρ c.2.1
  | 4 => emI ρ c.2.2 < emI ρ c.2.1
  | 5 => emI ρ c.2.1 ≤ emI ρ c.2.2
  | _ => False
/-- the script's ints are within their bounds; two kinds of ints are made of them -/
def ivP (ρ : Nat → Int32) (iv : List (Int × Int)) : Prop := (∀ (j : Nat) (a b : Int), iv[j]? = some (a, b) → a ≤ (ρ j).toInt ∧ (ρ j).toInt ≤ b) ∧ (iv.length ≤ 5 → ∀ j : Nat, j < 4 → ρ (j + 4) = ρ j &&& 63 ∧ ρ (j + 8) = ρ j + Int32.ofInt (-1))
theorem lohi_ok {ρ : Nat → Int32} {iv : List (Int × Int)} (h : ivP ρ iv) {v : Value} {a b : Int} (e : lohi iv v = some (a, b)) : a ≤ (emI ρ v).toInt ∧ (emI ρ v).toInt ≤ b := by
  cases v with
  | int x =>
    cases e
    exact ⟨Int.le_refl _, Int.le_refl _⟩
  | retAddr j => exact h.1 j a b e
  | _ => cases e
theorem ent_ok {ρ : Nat → Int32} {iv : List (Int × Int)} (h : ivP ρ iv) {c : CD} (e : ent iv c = true) : cdP ρ c := by
  obtain ⟨n, v, w⟩ := c
  unfold ent at e
  cases h1 : lohi iv v with
  | none => rw [h1] at e; cases e
  | some p =>
    obtain ⟨a, b⟩ := p
    cases h2 : lohi iv w with
    | none => rw [h1, h2] at e; cases e
    | some q =>
      obtain ⟨u, z⟩ := q
      rw [h1, h2] at e
      obtain ⟨g1, g2⟩ := lohi_ok h h1
      obtain ⟨g3, g4⟩ := lohi_ok h h2
      unfold cdP
      match n, e with
      | 0, e =>
        simp only [Bool.or_eq_true, Bool.and_eq_true, decide_eq_true_eq] at e
        rcases e with e | e
        · show emI ρ v = emI ρ w
          exact Int32.toInt_inj.mp (by omega)
        · have e : v = w := e
          show emI ρ v = emI ρ w
          rw [e]
      | 1, e =>
        simp only [Bool.or_eq_true, decide_eq_true_eq] at e
        intro q
        have q : emI ρ v = emI ρ w := q
        rw [q] at g1 g2
        omega
      | 2, e =>
        show emI ρ v < emI ρ w
        exact Int32.lt_iff_toInt_lt.mpr (by have := of_decide_eq_true e; omega)
      | 3, e =>
        show emI ρ w ≤ emI ρ v
        exact Int32.le_iff_toInt_le.mpr (by have := of_decide_eq_true e; omega)
      | 4, e =>
        show emI ρ w < emI ρ v
        exact Int32.lt_iff_toInt_lt.mpr (by have := of_decide_eq_true e; omega)
      | 5, e =>
        show emI ρ v ≤ emI ρ w
        exact Int32.le_iff_toInt_le.mpr (by have := of_decide_eq_true e; omega)
      | _ + 6, e => cases e
theorem symv_ok {ρ : Nat → Int32} {iv : List (Int × Int)} (h : ivP ρ iv) (j : Nat) : emI ρ (symv iv j) = ρ j := by
  unfold symv
  cases hj : iv[j]? with
  | none => rfl
  | some p =>
    obtain ⟨a, b⟩ := p
    obtain ⟨g1, g2⟩ := h.1 j a b hj
    by_cases hab : a = b
    · simp only [if_pos hab]
      show Int32.ofInt a = ρ j
      rw [show a = (ρ j).toInt by omega, Int32.ofInt_toInt]
    · simp only [if_neg hab]
      rfl
theorem rdQ_up (pre : Nat → Nat) (base : Nat) (ρ : Nat → Int32) (f : List (Nat × Option Nat)) (k : Nat) (v : Option Nat) : (fun j => (rdQ ((k, v) :: f) j).map (mad pre base)) = va_up (fun j => (rdQ f j).map (mad pre base)) k (v.map (mad pre base)) := by
  funext j
  show ((if j = k then v else rdQ f j).map (mad pre base)) = (if j = k then v.map (mad pre base) else (rdQ f j).map (mad pre base))
  by_cases h : j = k
  · rw [if_pos h, if_pos h]
  · rw [if_neg h, if_neg h]
