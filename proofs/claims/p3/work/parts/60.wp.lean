/-! Contracts over the small machine: ints as Int, what cells hold by any relation. -/
/-- a value: an int, a long, a reference by its number (2: none) -/
abbrev VV : Type := Int ⊕ (Int ⊕ Nat)
abbrev vi (z : Int) : VV := .inl z
abbrev vl (z : Int) : VV := .inr (.inl z)
abbrev vr (a : Nat) : VV := .inr (.inr a)
def emb (v : VV) : Value := match v with
  | .inl z => .int (Int32.ofInt z)
  | .inr (.inl z) => .long (Int64.ofInt z)
  | .inr (.inr a) => if a = 2 then .null else .ref a
/-- locals by their places -/
abbrev LV : Type := List (Option VV)
abbrev li (z : Int) : Option VV := some (vi z)
abbrev ll (z : Int) : Option VV := some (vl z)
abbrev lr (a : Nat) : Option VV := some (vr a)
abbrev ln : Option VV := none
def ems (st : List VV) : List Value := st.map emb
def lk (ls : LV) (i : Nat) : Option VV := match ls, i with
  | [], _ => none
  | q :: _, 0 => q
  | _ :: r, i + 1 => lk r i
def setx (ls : LV) (i : Nat) (v : Option VV) : LV := match ls, i with
  | [], 0 => [v]
  | [], i + 1 => none :: setx [] i v
  | _ :: r, 0 => v :: r
  | q :: r, i + 1 => q :: setx r i v
def cat2 (v : VV) : Nat := match v with
  | .inr (.inl _) => 2
  | _ => 1
def clr (ls : LV) (i : Nat) : LV := match i with
  | 0 => ls
  | k + 1 => match lk ls k with
    | some (.inr (.inl _)) => setx ls k none
    | _ => ls
def st1 (ls : LV) (i : Nat) (v : VV) : LV := setx (clr ls i) i (some v)
def st2 (ls : LV) (i : Nat) (v : VV) : LV := setx (setx (clr ls i) (i + 1) none) i (some v)
def entv (vs : List VV) : LV := match vs with
  | [] => []
  | .inr (.inl z) :: r => some (.inr (.inl z)) :: none :: entv r
  | v :: r => some v :: entv r
def relL (ls : LV) (lc : ML) : Prop := ∀ (i : Nat) (v : VV), lk ls i = some v → lkl lc i = some (emb v)
theorem cat_em (v : VV) : (emb v).category = cat2 v := by
  rcases v with z | z | a
  · rfl
  · rfl
  · unfold emb cat2
    by_cases h : a = 2
    · simp only [if_pos h]; rfl
    · simp only [if_neg h]; rfl
theorem lk_setx : ∀ (ls : LV) (i : Nat) (v : Option VV) (j : Nat), lk (setx ls i v) j = if j = i then v else lk ls j := by
  intro ls
  induction ls with
  | nil =>
    intro i
    induction i with
    | zero => intro v j; cases j <;> rfl
    | succ i ih =>
      intro v j
      cases j with
      | zero => rfl
      | succ j =>
        show lk (setx [] i v) j = if j + 1 = i + 1 then v else none
        rw [ih]
        by_cases h : j = i
        · rw [if_pos h, if_pos (by omega)]
        · rw [if_neg h, if_neg (by omega)]; cases j <;> rfl
  | cons q r ih =>
    intro i v j
    cases i with
    | zero => cases j <;> rfl
    | succ i =>
      cases j with
      | zero => rfl
      | succ j =>
        show lk (setx r i v) j = if j + 1 = i + 1 then v else lk r j
        rw [ih]
        by_cases h : j = i
        · rw [if_pos h, if_pos (by omega)]
        · rw [if_neg h, if_neg (by omega)]
theorem lk_clr {ls : LV} {i j : Nat} {v : VV} (h : lk (clr ls i) j = some v) : lk ls j = some v ∧ ¬ (j + 1 = i ∧ cat2 v = 2) := by
  unfold clr at h
  split at h
  · exact ⟨h, fun e => by omega⟩
  · rename_i k
    split at h
    · rw [lk_setx] at h
      by_cases e : j = k
      · rw [if_pos e] at h; cases h
      · rw [if_neg e] at h; exact ⟨h, fun q => e (by omega)⟩
    · rename_i hn
      refine ⟨h, fun q => ?_⟩
      obtain rfl : j = k := by omega
      rcases v with z | z | z
      · exact absurd (show (1 : Nat) = 2 from q.2) (by decide)
      · exact hn z h
      · exact absurd (show (1 : Nat) = 2 from q.2) (by decide)
theorem lkl_cons (q : Nat × Value) (r : ML) (i : Nat) : lkl (q :: r) i = if q.1 = i then some q.2 else lkl r i := by
  unfold lkl
  rw [List.find?_cons]
  by_cases h : q.1 = i
  · rw [if_pos h, beq_iff_eq.mpr h]; rfl
  · rw [if_neg h, beq_eq_false_iff_ne.mpr h]
theorem lkl_filter (p : Nat × Value → Bool) (l : ML) (i : Nat) (v : Value) (hl : lkl l i = some v) (hp : p (i, v) = true) : lkl (l.filter p) i = some v := by
  induction l with
  | nil => cases hl
  | cons q r ih =>
    rw [lkl_cons] at hl
    by_cases hq : q.1 = i
    · rw [if_pos hq] at hl
      cases hl
      have e : q = (i, q.2) := by rw [← hq]
      rw [List.filter_cons, if_pos (by rw [e]; exact hp), lkl_cons, if_pos hq]
    · rw [if_neg hq] at hl
      rw [List.filter_cons]
      split
      · rw [lkl_cons, if_neg hq]
        exact ih hl
      · exact ih hl
theorem relL_1 {ls : LV} {lc : ML} (h : relL ls lc) (i : Nat) (v : VV) : relL (st1 ls i v) (sto1 lc i (emb v)) := by
  intro j w hj
  unfold st1 at hj
  rw [lk_setx] at hj
  unfold sto1
  rw [lkl_cons]
  by_cases e : j = i
  · rw [if_pos e] at hj
    cases hj
    rw [if_pos e.symm]
  · rw [if_neg e] at hj
    obtain ⟨h1, h2⟩ := lk_clr hj
    rw [if_neg (Ne.symm e)]
    refine lkl_filter _ lc j _ (h j w h1) ?_
    simp only [cat_em, Bool.and_eq_true, Bool.not_eq_true', Bool.and_eq_false_iff, beq_eq_false_iff_ne]
    exact ⟨e, by by_cases q : j + 1 = i
                 · exact Or.inr (fun c => h2 ⟨q, c⟩)
                 · exact Or.inl q⟩
theorem relL_2 {ls : LV} {lc : ML} (h : relL ls lc) (i : Nat) (v : VV) : relL (st2 ls i v) (sto2 lc i (emb v)) := by
  intro j w hj
  unfold st2 at hj
  rw [lk_setx] at hj
  unfold sto2
  rw [lkl_cons]
  by_cases e : j = i
  · rw [if_pos e] at hj
    cases hj
    rw [if_pos e.symm]
  · rw [if_neg e, lk_setx] at hj
    by_cases e1 : j = i + 1
    · rw [if_pos e1] at hj; cases hj
    · rw [if_neg e1] at hj
      obtain ⟨h1, h2⟩ := lk_clr hj
      rw [if_neg (Ne.symm e)]
      refine lkl_filter _ lc j _ (h j w h1) ?_
      simp only [cat_em, Bool.and_eq_true, Bool.not_eq_true', Bool.and_eq_false_iff, beq_eq_false_iff_ne]
      exact ⟨e, e1, by by_cases q : j + 1 = i
                       · exact Or.inr (fun c => h2 ⟨q, c⟩)
                       · exact Or.inl q⟩
theorem relL_ent : ∀ (vs : List VV) (k i : Nat) (v : VV), lk (entv vs) i = some v → lkl (ment k (ems vs)) (k + i) = some (emb v) := by
  intro vs
  induction vs with
  | nil => intro k i v h; cases i <;> cases h
  | cons w r ih =>
    intro k i v h
    show lkl ((k, emb w) :: ment (k + (emb w).category) (ems r)) (k + i) = _
    rw [lkl_cons, cat_em]
    rcases w with z | z | z
    · cases i with
      | zero => cases h; exact if_pos (show k = k + 0 from rfl)
      | succ i =>
        rw [if_neg (by simp only; omega), show k + (i + 1) = (k + 1) + i by omega]
        exact ih (k + 1) i v h
    · match i, h with
      | 0, h => cases h; exact if_pos (show k = k + 0 from rfl)
      | 1, h => cases h
      | i + 2, h =>
        rw [if_neg (by simp only; omega), show k + (i + 2) = (k + 2) + i by omega]
        exact ih (k + 2) i v h
    · cases i with
      | zero => cases h; exact if_pos (show k = k + 0 from rfl)
      | succ i =>
        rw [if_neg (by simp only; omega), show k + (i + 1) = (k + 1) + i by omega]
        exact ih (k + 1) i v h
def inR (z : Int) : Prop := -2147483648 ≤ z ∧ z ≤ 2147483647
def inL (z : Int) : Prop := -9223372036854775808 ≤ z ∧ z ≤ 9223372036854775807
def okV (v : VV) : Prop := match v with
  | .inl z => inR z
  | _ => True
def okL (ls : LV) : Prop := ∀ (i : Nat) (v : VV), lk ls i = some v → okV v
def okS (st : List VV) : Prop := ∀ v ∈ st, okV v
theorem okS_c {v : VV} {st : List VV} (h1 : okV v) (h2 : okS st) : okS (v :: st) := fun w hw => by
  rcases List.mem_cons.mp hw with rfl | h
  · exact h1
  · exact h2 w h
theorem okS_ci {z : Int} {st : List VV} (h1 : inR z) (h2 : okS st) : okS (vi z :: st) := okS_c (v := vi z) h1 h2
theorem okS_t {v : VV} {st : List VV} (h : okS (v :: st)) : okS st := fun w hw => h w (List.mem_cons_of_mem _ hw)
theorem okS_h {v : VV} {st : List VV} (h : okS (v :: st)) : okV v := h v (List.mem_cons_self ..)
theorem okL_1 {ls : LV} {i : Nat} {v : VV} (h : okL ls) (h1 : okV v) : okL (st1 ls i v) := fun j w hj => by
  unfold st1 at hj
  rw [lk_setx] at hj
  by_cases e : j = i
  · rw [if_pos e] at hj; cases hj; exact h1
  · rw [if_neg e] at hj; exact h j w (lk_clr hj).1
theorem okL_2 {ls : LV} {i : Nat} {v : VV} (h : okL ls) (h1 : okV v) : okL (st2 ls i v) := fun j w hj => by
  unfold st2 at hj
  rw [lk_setx] at hj
  by_cases e : j = i
  · rw [if_pos e] at hj; cases hj; exact h1
  · rw [if_neg e, lk_setx] at hj
    by_cases e1 : j = i + 1
    · rw [if_pos e1] at hj; cases hj
    · rw [if_neg e1] at hj; exact h j w (lk_clr hj).1
theorem okL_ent : ∀ (vs : List VV), okS vs → okL (entv vs) := by
  intro vs
  induction vs with
  | nil => intro _ i v h; cases i <;> cases h
  | cons w r ih =>
    intro h i v hv
    have h1 := ih (okS_t h)
    rcases w with z | z | z
    · cases i with
      | zero => cases hv; exact okS_h h
      | succ i => exact h1 i v hv
    · match i, hv with
      | 0, hv => cases hv; trivial
      | 1, hv => cases hv
      | i + 2, hv => exact h1 i v hv
    · cases i with
      | zero => cases hv; trivial
      | succ i => exact h1 i v hv
/-- fewer locals -/
def subL (l1 l2 : LV) : Prop := ∀ (i : Nat) (v : VV), lk l1 i = some v → lk l2 i = some v
theorem sl_0 {l : LV} : subL [] l := fun i v h => by cases i <;> cases h
theorem sl_n {r t : LV} {q : Option VV} (h : subL r t) : subL (none :: r) (q :: t) := fun i v hv => by
  cases i with
  | zero => cases hv
  | succ i => exact h i v hv
theorem sl_s {r t : LV} {q : VV} (h : subL r t) : subL (some q :: r) (some q :: t) := fun i v hv => by
  cases i with
  | zero => exact hv
  | succ i => exact h i v hv
/-! ints -/
theorem i_to {z : Int} (h : inR z) : (Int32.ofInt z).toInt = z := Int32.toInt_ofInt_of_le h.1 (by have := h.2; omega)
def w32 (z : Int) : Int := (Int32.ofInt z).toInt
theorem w32_of (z : Int) : Int32.ofInt (w32 z) = Int32.ofInt z := Int32.ofInt_toInt _
theorem w32_in (z : Int) : inR (w32 z) := by
  have h1 := (Int32.ofInt z).toInt_lt
  have h2 := (Int32.ofInt z).le_toInt
  unfold inR w32
  omega
theorem w32_id {z : Int} (h : inR z) : w32 z = z := i_to h
def w8 (z : Int) : Int := (Int8.ofInt z).toInt
theorem w8_in (z : Int) : inR (w8 z) := by
  have h1 := (Int8.ofInt z).toInt_lt
  have h2 := (Int8.ofInt z).le_toInt
  unfold inR w8
  omega
theorem w8_id {z : Int} (h1 : -128 ≤ z) (h2 : z ≤ 127) : w8 z = z := Int8.toInt_ofInt_of_le h1 (by omega)
theorem i_eq {a b : Int} (ha : inR a) (hb : inR b) : (Int32.ofInt a = Int32.ofInt b) ↔ a = b := ⟨fun h => by rw [← i_to ha, h, i_to hb], fun h => by rw [h]⟩
theorem l_to {z : Int} (h : inL z) : (Int64.ofInt z).toInt = z := Int64.toInt_ofInt_of_le h.1 (by have := h.2; omega)
theorem i_cl {z : Int} (h : inR z) : (Int32.ofInt z).toNatClampNeg = z.toNat := Int32.toNatClampNeg_ofInt_of_le h.1 (by have := h.2; omega)
theorem i_vin {z : Int} {n : Nat} (h : inR z) (h0 : 0 ≤ z) (h1 : z < n) : vin (Int32.ofInt z) n = true := by
  unfold vin
  simp only [Bool.and_eq_true, decide_eq_true_eq]
  rw [i_cl h, Int32.le_iff_toInt_le, i_to h]
  exact ⟨h0, by omega⟩
theorem isI_vi (z : Int) : isI (emb (vi z)) = true := rfl
theorem isR_em (a : Nat) : isR (emb (vr a)) = true := by
  unfold emb
  by_cases h : a = 2
  · simp only [if_pos h]; rfl
  · simp only [if_neg h]; rfl
/-! conditions -/
theorem ent_i (iv : List (Int × Int)) (n : Nat) {a b : Int} (ha : inR a) (hb : inR b) : ent iv (n, emb (vi a), emb (vi b)) = (match n with
    | 0 => decide (a = b)
    | 1 => decide (a ≠ b)
    | 2 => decide (a < b)
    | 3 => decide (b ≤ a)
    | 4 => decide (b < a)
    | 5 => decide (a ≤ b)
    | _ => false) := by
  have h1 : lohi iv (emb (vi a)) = some (a, a) := by show some ((Int32.ofInt a).toInt, (Int32.ofInt a).toInt) = _; rw [i_to ha]
  have h2 : lohi iv (emb (vi b)) = some (b, b) := by show some ((Int32.ofInt b).toInt, (Int32.ofInt b).toInt) = _; rw [i_to hb]
  unfold ent
  simp only [h1, h2]
  match n with
  | 0 =>
    by_cases h : a = b
    · subst h; simp
    · have h3 : ¬ emb (vi a) = emb (vi b) := fun q => h ((i_eq ha hb).mp (Value.int.inj q))
      simp [h, h3]
  | 1 =>
    simp only
    by_cases h : a = b
    · subst h; simp
    · rcases Int.lt_or_gt_of_ne h with h4 | h4
      · simp [h, h4]
      · simp [h, h4]
  | 2 => rfl
  | 3 => rfl
  | 4 => rfl
  | 5 => rfl
  | _ + 6 => rfl
/-! the run -/
theorem mrun_f {iv : List (Int × Int)} {G : GI} : ∀ (f g d e M pc : Nat) (ls : ML) (st : List Value) (h : MH) (k n : Nat) (r : Option Value × MH × Nat × Nat), f ≤ g → d ≤ e → mrun iv G f d M pc ls st h k n = some r → mrun iv G g e M pc ls st h k n = some r := by
  intro f
  induction f with
  | zero => intro g d e M pc ls st h k n r _ _ hr; rw [mrun_0] at hr; cases hr
  | succ f ih =>
    intro g d e M pc ls st h k n r hfg hde hr
    obtain ⟨g, rfl⟩ : ∃ g', g = g' + 1 := ⟨g - 1, by omega⟩
    rw [mrun_s] at hr ⊢
    cases hst : mstep iv G M pc ls st h with
    | none => rw [hst] at hr; cases hr
    | some z =>
      rw [hst] at hr
      rcases z with ⟨pc', ls', st', h1, dk, dn⟩ | ⟨y, as, r1, pc'⟩ | w | ⟨alts, ls', st'⟩
      · exact ih _ _ _ _ _ _ _ _ _ _ _ (by omega) hde hr
      · obtain ⟨hc, hr⟩ := if_ok hr
        simp only [if_pos hc]
        cases d with
        | zero => cases hr
        | succ d =>
          obtain ⟨e, rfl⟩ : ∃ e', e = e' + 1 := ⟨e - 1, by omega⟩
          simp only at hr ⊢
          cases hcal : mrun iv G f d y 0 (ment 0 as) [] h 0 0 with
          | none => rw [hcal] at hr; cases hr
          | some q =>
            rw [hcal] at hr
            rw [ih g d e _ _ _ _ _ _ _ _ (by omega) (by omega) hcal]
            obtain ⟨v1, h1, k1, n1⟩ := q
            exact ih _ _ _ _ _ _ _ _ _ _ _ (by omega) hde hr
      · exact hr
      · simp only at hr ⊢
        cases hfind : alts.find? (fun q => ent iv q.1) with
        | none => rw [hfind] at hr; cases hr
        | some q =>
          rw [hfind] at hr
          exact ih _ _ _ _ _ _ _ _ _ _ _ (by omega) hde hr
theorem mrun_k {iv : List (Int × Int)} {G : GI} : ∀ (f d M pc : Nat) (ls : ML) (st : List Value) (h : MH) (k n : Nat) (v : Option Value) (h' : MH) (k' n' : Nat) (a b : Nat), mrun iv G f d M pc ls st h k n = some (v, h', k', n') → mrun iv G f d M pc ls st h (a + k) (b + n) = some (v, h', a + k', b + n') := by
  intro f
  induction f with
  | zero => intro d M pc ls st h k n v h' k' n' a b hr; rw [mrun_0] at hr; cases hr
  | succ f ih =>
    intro d M pc ls st h k n v h' k' n' a b hr
    rw [mrun_s] at hr ⊢
    cases hst : mstep iv G M pc ls st h with
    | none => rw [hst] at hr; cases hr
    | some z =>
      rw [hst] at hr
      rcases z with ⟨pc', ls', st', h1, dk, dn⟩ | ⟨y, as, r1, pc'⟩ | w | ⟨alts, ls', st'⟩
      · have := ih _ _ _ _ _ _ _ _ _ _ _ _ a b hr
        simp only
        rw [← Nat.add_assoc, ← Nat.add_assoc] at this
        exact this
      · obtain ⟨hc, hr⟩ := if_ok hr
        simp only [if_pos hc]
        cases d with
        | zero => cases hr
        | succ d =>
          simp only at hr ⊢
          cases hcal : mrun iv G f d y 0 (ment 0 as) [] h 0 0 with
          | none => rw [hcal] at hr; cases hr
          | some q =>
            obtain ⟨v1, h1, k1, n1⟩ := q
            rw [hcal] at hr
            have := ih _ _ _ _ _ _ _ _ _ _ _ _ a b hr
            simp only
            rw [← Nat.add_assoc, ← Nat.add_assoc] at this
            exact this
      · cases hr
        rfl
      · simp only at hr ⊢
        cases hfind : alts.find? (fun q => ent iv q.1) with
        | none => rw [hfind] at hr; cases hr
        | some q =>
          rw [hfind] at hr
          exact ih _ _ _ _ _ _ _ _ _ _ _ _ a b hr
