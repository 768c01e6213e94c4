/-! The small machine's cells, and the machine's. -/
/-- a number's address: those below 64 were there, the others were made, one behind another -/
def mad (pre : Nat → Nat) (base a : Nat) : Nat := if a < 64 then pre a else base + (a - 64)
def emv (pre : Nat → Nat) (base : Nat) (v : Value) : Value := match v with
  | .ref a => .ref (mad pre base a)
  | w => w
def emA (pre : Nat → Nat) (base : Nat) (f : MA) : (Nat → Int32) ⊕ (Nat → Int64) ⊕ (Nat → UInt32) ⊕ (Nat → UInt64) ⊕ (Nat → Option Nat) := match f with
  | .inl g => .inl (rdI g)
  | .inr g => .inr (.inr (.inr (.inr (fun j => (rdQ g j).map (mad pre base)))))
def emE (dA : Nat → ClassId) (pre : Nat → Nat) (base : Nat) (e : ME) : va_E := match e with
  | .inl (t, n, f) => .inl (dA t, n, emA pre base f)
  | .inr (ci, fs) => .inr (ci, fs.map (emv pre base))
def emL (pre : Nat → Nat) (base : Nat) (ls : ML) : List (Nat × Value) := ls.map fun q => (q.1, emv pre base q.2)
def mws (dA : Nat → ClassId) (pre : Nat → Nat) (base : Nat) (h : MH) : va_W := (h.2.reverse.zipIdx base).map fun q => (q.2, emE dA pre base q.1)
def mR (D : va_G) (cl : List vw_C) (dA : Nat → ClassId) (pre : Nat → Nat) (base : Nat) (h : MH) (H : Heap) : Prop := h.1 = h.2.length + 64 ∧ va_P D cl (mws dA pre base h) H ∧ H.size = base + h.2.length
theorem mws_at {dA : Nat → ClassId} {pre : Nat → Nat} {base : Nat} (h : MH) (k : Nat) : (mws dA pre base h)[k]? = (h.2.reverse[k]?).map (fun e => (base + k, emE dA pre base e)) := by
  unfold mws
  rw [List.getElem?_map, List.getElem?_zipIdx]
  cases h.2.reverse[k]? <;> simp
theorem mget_at {h : MH} (hk : h.1 = h.2.length + 64) {a : Nat} (ha : 64 ≤ a) : mget h a = h.2.reverse[a - 64]? := by
  unfold mget
  by_cases h1 : a < h.1
  · rw [if_pos h1, List.getElem?_reverse (by omega)]
    congr 1
    omega
  · rw [if_neg h1, List.getElem?_eq_none (by rw [List.length_reverse]; omega)]
theorem mget_lt {h : MH} (hk : h.1 = h.2.length + 64) {a : Nat} {e : ME} (hg : mget h a = some e) : 64 ≤ a ∧ a < h.1 := by
  unfold mget at hg
  by_cases h1 : a < h.1
  · rw [if_pos h1] at hg
    have := (List.getElem?_eq_some_iff.mp hg).1
    omega
  · rw [if_neg h1] at hg
    cases hg
theorem mws_get {dA : Nat → ClassId} {pre : Nat → Nat} {base : Nat} {h : MH} (hk : h.1 = h.2.length + 64) {a : Nat} {e : ME} (hg : mget h a = some e) : (mws dA pre base h)[a - 64]? = some (mad pre base a, emE dA pre base e) := by
  obtain ⟨h1, h2⟩ := mget_lt hk hg
  rw [mget_at hk h1] at hg
  rw [mws_at, hg]
  simp only [Option.map_some]
  unfold mad
  rw [if_neg (by omega)]
theorem mput_ok {h : MH} (hk : h.1 = h.2.length + 64) (a : Nat) (e : ME) : (mput h a e).1 = (mput h a e).2.length + 64 := by
  simp [mput, hk]
theorem mws_put {dA : Nat → ClassId} {pre : Nat → Nat} {base : Nat} {h : MH} (hk : h.1 = h.2.length + 64) {a : Nat} {e0 e : ME} (hg : mget h a = some e0) : mws dA pre base (mput h a e) = (mws dA pre base h).set (a - 64) (mad pre base a, emE dA pre base e) := by
  obtain ⟨h1, h2⟩ := mget_lt hk hg
  have hr : (mput h a e).2.reverse = h.2.reverse.set (a - 64) e := by
    unfold mput
    simp only
    apply List.ext_getElem?
    intro j
    by_cases hj : j < h.2.length
    · rw [List.getElem?_reverse (by simpa using hj), List.length_set, List.getElem?_set, List.getElem?_set, List.getElem?_reverse hj, List.length_reverse]
      by_cases h3 : a - 64 = j
      · rw [if_pos (by omega), if_pos h3, if_pos (by omega), if_pos (by omega)]
      · rw [if_neg (by omega), if_neg h3]
    · rw [List.getElem?_eq_none (by simp; omega), List.getElem?_eq_none (by simp; omega)]
  apply List.ext_getElem?
  intro j
  rw [mws_at, hr, List.getElem?_set, List.getElem?_set, mws_at]
  by_cases h3 : a - 64 = j
  · subst h3
    rw [if_pos rfl, if_pos rfl]
    have hl : List.length (mws dA pre base h) = h.2.length := by simp [mws]
    rw [if_pos (show a - 64 < List.length h.2.reverse by rw [List.length_reverse]; omega), if_pos (show a - 64 < List.length (mws dA pre base h) by omega)]
    simp only [Option.map_some]
    unfold mad
    rw [if_neg (by omega)]
  · rw [if_neg h3, if_neg h3]
theorem mws_push {dA : Nat → ClassId} {pre : Nat → Nat} {base : Nat} (h : MH) (e : ME) : mws dA pre base (mpush h e) = mws dA pre base h ++ [(base + h.2.length, emE dA pre base e)] := by
  unfold mws mpush
  simp [List.zipIdx_append]
theorem mws_D {dA : Nat → ClassId} {pre : Nat → Nat} {base : Nat} (h : MH) : va_D (fun q => base ≤ q) (mws dA pre base h) := by
  refine ⟨fun i j x y hi hj hxy => ?_, fun k q hq => ?_⟩
  · rw [mws_at] at hi hj
    obtain ⟨e1, -, rfl⟩ := Option.map_eq_some_iff.mp hi
    obtain ⟨e2, -, rfl⟩ := Option.map_eq_some_iff.mp hj
    simp only at hxy
    omega
  · rw [mws_at] at hq
    obtain ⟨e1, -, rfl⟩ := Option.map_eq_some_iff.mp hq
    show base ≤ base + k
    omega
theorem emv_cat (pre : Nat → Nat) (base : Nat) (v : Value) : (emv pre base v).category = v.category := by
  cases v <;> rfl
theorem emL_lk {pre : Nat → Nat} {base : Nat} {ls : ML} {i : Nat} {v : Value} {lsA : Array Slot} {nL : Nat} (hl : lv_has lsA nL (emL pre base ls)) (h : lkl ls i = some v) : lsA[i]? = some (.val (emv pre base v)) := by
  unfold lkl at h
  obtain ⟨q, hq, rfl⟩ := Option.map_eq_some_iff.mp h
  have h1 := List.mem_of_find?_eq_some hq
  have h2 := List.find?_some hq
  have h3 : q.1 = i := by simpa using h2
  subst h3
  exact hl.2.2 (q.1, emv pre base q.2) (List.mem_map.mpr ⟨q, h1, rfl⟩)
theorem emL_sto1 {pre : Nat → Nat} {base : Nat} (ls : ML) (i : Nat) (v : Value) : (i, emv pre base v) :: (emL pre base ls).filter (fun q => !(q.1 == i) && !(q.1 + 1 == i && q.2.category == 2)) = emL pre base (sto1 ls i v) := by
  unfold emL sto1
  rw [List.map_cons, List.filter_map]
  congr 2
  apply List.filter_congr
  intro q _
  simp [emv_cat]
theorem emL_sto2 {pre : Nat → Nat} {base : Nat} (ls : ML) (i : Nat) (v : Value) : (i, emv pre base v) :: (emL pre base ls).filter (fun q => !(q.1 == i) && (!(q.1 == i + 1) && !(q.1 + 1 == i && q.2.category == 2))) = emL pre base (sto2 ls i v) := by
  unfold emL sto2
  rw [List.map_cons, List.filter_map]
  congr 2
  apply List.filter_congr
  intro q _
  simp [emv_cat]
theorem fitB_ok {ty : FieldType} {v : Value} {pre : Nat → Nat} {base : Nat} (h : fitB ty v = true) : narrow ty (emv pre base v) = emv pre base v ∧ fits ty (emv pre base v) = true := by
  cases ty <;> cases v <;> simp [fitB, isI, isL, isR] at h <;> simp [emv, narrow, fits]
  rcases h with rfl | rfl <;> decide
theorem vin_ok {i : Int32} {n : Nat} (h : vin i n = true) : vp_in i n := by
  unfold vin at h
  simp only [Bool.and_eq_true, decide_eq_true_eq] at h
  rintro (h1 | h1)
  · exact Int32.not_lt.mpr h.1 h1
  · omega
theorem rdI_up (f : List (Nat × Int32)) (k : Nat) (v : Int32) : rdI ((k, v) :: f) = upd (rdI f) k v := by
  funext j
  show (if j = k then v else rdI f j) = (if j = k then v else rdI f j)
  rfl
theorem rdQ_up (pre : Nat → Nat) (base : Nat) (f : List (Nat × Option Nat)) (k : Nat) (v : Option Nat) : (fun j => (rdQ ((k, v) :: f) j).map (mad pre base)) = va_up (fun j => (rdQ f j).map (mad pre base)) k (v.map (mad pre base)) := by
  funext j
  show ((if j = k then v else rdQ f j).map (mad pre base)) = (if j = k then v.map (mad pre base) else (rdQ f j).map (mad pre base))
  by_cases h : j = k
  · rw [if_pos h, if_pos h]
  · rw [if_neg h, if_neg h]
