section
/-! Contracts over the small machine: ints as Int, what cells hold by any relation. -/
/-- a value: an int, a long, a reference by its number (2: none) -/
abbrev VV : Type := Int ⊕ (Int ⊕ Nat)
abbrev vi (z : Int) : VV := .inl z
abbrev vl (z : Int) : VV := .inr (.inl z)
abbrev vr (a : Nat) : VV := .inr (.inr a)
def emb (v : VV) : Value := match v with
  | .inl z => .int (Int32.ofInt z)
  | .inr (.inl z) => .long (Int64.ofInt z)
  | .inr (.inr a) => if a = 2 then .null else .ref a
/-- locals by their places -/
abbrev LV : Type := List (Option VV)
abbrev li (z : Int) : Option VV := some (vi z)
abbrev ll (z : Int) : Option VV := some (vl z)
abbrev lr (a : Nat) : Option VV := some (vr a)
abbrev ln : Option VV := none
def ems (st : List VV) : List Value := st.map emb
def lk (ls : LV) (i : Nat) : Option VV := match ls, i with
  | [], _ => none
  | q :: _, 0 => q
  | _ :: r, i + 1 => lk r i
def setx (ls : LV) (i : Nat) (v : Option VV) : LV := match ls, i with
  | [], 0 => [v]
  | [], i + 1 => none :: setx [] i v
  | _ :: r, 0 => v :: r
  | q :: r, i + 1 => q :: setx r i v
def cat2 (v : VV) : Nat := match v with
  | .inr (.inl _) => 2
  | _ => 1
def clr (ls : LV) (i : Nat) : LV := match i with
  | 0 => ls
  | k + 1 => match lk ls k with
    | some (.inr (.inl _)) => setx ls k none
    | _ => ls
def st1 (ls : LV) (i : Nat) (v : VV) : LV := setx (clr ls i) i (some v)
def st2 (ls : LV) (i : Nat) (v : VV) : LV := setx (setx (clr ls i) (i + 1) none) i (some v)
def entv (vs : List VV) : LV := match vs with
  | [] => []
  | .inr (.inl z) :: r => some (.inr (.inl z)) :: none :: entv r
  | v :: r => some v :: entv r
def relL (ls : LV) (lc : ML) : Prop := ∀ (i : Nat) (v : VV), lk ls i = some v → lkl lc i = some (emb v)
theorem cat_em (v : VV) : (emb v).category = cat2 v := by
  rcases v with z | z | a
  · rfl
  · rfl
  · unfold emb cat2
    by_cases h : a = 2
    · simp only [if_pos h]; rfl
    · simp only [if_neg h]; rfl
theorem lk_setx : ∀ (ls : LV) (i : Nat) (v : Option VV) (j : Nat), lk (setx ls i v) j = if j = i then v else lk ls j := by
  intro ls
  induction ls with
  | nil =>
    intro i
    induction i with
    | zero => intro v j; cases j <;> rfl
    | succ i ih =>
      intro v j
      cases j with
      | zero => rfl
      | succ j =>
        show lk (setx [] i v) j = if j + 1 = i + 1 then v else none
        rw [ih]
        by_cases h : j = i
        · rw [if_pos h, if_pos (by omega)]
        · rw [if_neg h, if_neg (by omega)]; cases j <;> rfl
  | cons q r ih =>
    intro i v j
    cases i with
    | zero => cases j <;> rfl
    | succ i =>
      cases j with
      | zero => rfl
      | succ j =>
        show lk (setx r i v) j = if j + 1 = i + 1 then v else lk r j
        rw [ih]
        by_cases h : j = i
        · rw [if_pos h, if_pos (by omega)]
        · rw [if_neg h, if_neg (by omega)]
theorem lk_clr {ls : LV} {i j : Nat} {v : VV} (h : lk (clr ls i) j = some v) : lk ls j = some v ∧ ¬ (j + 1 = i ∧ cat2 v = 2) := by
  unfold clr at h
  split at h
  · exact ⟨h, fun e => by omega⟩
  · rename_i k
    split at h
    · rw [lk_setx] at h
      by_cases e : j = k
      · rw [if_pos e] at h; cases h
      · rw [if_neg e] at h; exact ⟨h, fun q => e (by omega)⟩
    · rename_i hn
      refine ⟨h, fun q => ?_⟩
      obtain rfl : j = k := by omega
      rcases v with z | z | z
      · exact absurd (show (1 : Nat) = 2 from q.2) (by decide)
      · exact hn z h
      · exact absurd (show (1 : Nat) = 2 from q.2) (by decide)
theorem lkl_cons (q : Nat × Value) (r : ML) (i : Nat) : lkl (q :: r) i = if q.1 = i then some q.2 else lkl r i := by
  unfold lkl
  rw [List.find?_cons]
  by_cases h : q.1 = i
  · rw [if_pos h, beq_iff_eq.mpr h]; rfl
  · rw [if_neg h, beq_eq_false_iff_ne.mpr h]
theorem lkl_filter (p : Nat × Value → Bool) (l : ML) (i : Nat) (v : Value) (hl : lkl l i = some v) (hp : p (i, v) = true) : lkl (l.filter p) i = some v := by
  induction l with
  | nil => cases hl
  | cons q r ih =>
    rw [lkl_cons] at hl
    by_cases hq : q.1 = i
    · rw [if_pos hq] at hl
      cases hl
      have e : q = (i, q.2) := by rw [← hq]
      rw [List.filter_cons, if_pos (by rw [e]; exact hp), lkl_cons, if_pos hq]
    · rw [if_neg hq] at hl
      rw [List.filter_cons]
      split
      · rw [lkl_cons, if_neg hq]
        exact ih hl
      · exact ih hl
theorem relL_1 {ls : LV} {lc : ML} (h : relL ls lc) (i : Nat) (v : VV) : relL (st1 ls i v) (sto1 lc i (emb v)) := by
  intro j w hj
  unfold st1 at hj
  rw [lk_setx] at hj
  unfold sto1
  rw [lkl_cons]
  by_cases e : j = i
  · rw [if_pos e] at hj
    cases hj
    rw [if_pos e.symm]
  · rw [if_neg e] at hj
    obtain ⟨h1, h2⟩ := lk_clr hj
    rw [if_neg (Ne.symm e)]
    refine lkl_filter _ lc j _ (h j w h1) ?_
    simp only [cat_em, Bool.and_eq_true, Bool.not_eq_true', Bool.and_eq_false_iff, beq_eq_false_iff_ne]
    exact ⟨e, by by_cases q : j + 1 = i
                 · exact Or.inr (fun c => h2 ⟨q, c⟩)
                 · exact Or.inl q⟩
theorem relL_2 {ls : LV} {lc : ML} (h : relL ls lc) (i : Nat) (v : VV) : relL (st2 ls i v) (sto2 lc i (emb v)) := by
  intro j w hj
  unfold st2 at hj
  rw [lk_setx] at hj
  unfold sto2
  rw [lkl_cons]
  by_cases e : j = i
  · rw [if_pos e] at hj
    cases hj
    rw [if_pos e.symm]
  · rw [if_neg e, lk_setx] at hj
    by_cases e1 : j = i + 1
    · rw [if_pos e1] at hj; cases hj
    · rw [if_neg e1] at hj
      obtain ⟨h1, h2⟩ := lk_clr hj
      rw [if_neg (Ne.symm e)]
      refine lkl_filter _ lc j _ (h j w h1) ?_
      simp only [cat_em, Bool.and_eq_true, Bool.not_eq_true', Bool.and_eq_false_iff, beq_eq_false_iff_ne]
      exact ⟨e, e1, by by_cases q : j + 1 = i
                       · exact Or.inr (fun c => h2 ⟨q, c⟩)
                       · exact Or.inl q⟩
theorem relL_ent : ∀ (vs : List VV) (k i : Nat) (v : VV), lk (entv vs) i = some v → lkl (ment k (ems vs)) (k + i) = some (emb v) := by
  intro vs
  induction vs with
  | nil => intro k i v h; cases i <;> cases h
  | cons w r ih =>
    intro k i v h
    show lkl ((k, emb w) :: ment (k + (emb w).category) (ems r)) (k + i) = _
    rw [lkl_cons, cat_em]
    rcases w with z | z | z
    · cases i with
      | zero => cases h; exact if_pos (show k = k + 0 from rfl)
      | succ i =>
        rw [if_neg (by simp only; omega), show k + (i + 1) = (k + 1) + i by omega]
        exact ih (k + 1) i v h
    · match i, h with
      | 0, h => cases h; exact if_pos (show k = k + 0 from rfl)
      | 1, h => cases h
      | i + 2, h =>
        rw [if_neg (by simp only; omega), show k + (i + 2) = (k + 2) + i by omega]
        exact ih (k + 2) i v h
    · cases i with
      | zero => cases h; exact if_pos (show k = k + 0 from rfl)
      | succ i =>
        rw [if_neg (by simp only; omega), show k + (i + 1) = (k + 1) + i by omega]
        exact ih (k + 1) i v h
def inR (z : Int) : Prop := -2147483648 ≤ z ∧ z ≤ 2147483647
def inL (z : Int) : Prop := -9223372036854775808 ≤ z ∧ z ≤ 9223372036854775807
def okV (v : VV) : Prop := match v with
  | .inl z => inR z
  | _ => True
def okL (ls : LV) : Prop := ∀ (i : Nat) (v : VV), lk ls i = some v → okV v
def okS (st : List VV) : Prop := ∀ v ∈ st, okV v
theorem okS_c {v : VV} {st : List VV} (h1 : okV v) (h2 : okS st) : okS (v :: st) := fun w hw => by
  rcases List.mem_cons.mp hw with rfl | h
  · exact h1
  · exact h2 w h
theorem okS_ci {z : Int} {st : List VV} (h1 : inR z) (h2 : okS st) : okS (vi z :: st) := okS_c (v := vi z) h1 h2
theorem okS_t {v : VV} {st : List VV} (h : okS (v :: st)) : okS st := fun w hw => h w (List.mem_cons_of_mem _ hw)
theorem okS_h {v : VV} {st : List VV} (h : okS (v :: st)) : okV v := h v (List.mem_cons_self ..)
theorem okL_1 {ls : LV} {i : Nat} {v : VV} (h : okL ls) (h1 : okV v) : okL (st1 ls i v) := fun j w hj => by
  unfold st1 at hj
  rw [lk_setx] at hj
  by_cases e : j = i
  · rw [if_pos e] at hj; cases hj; exact h1
  · rw [if_neg e] at hj; exact h j w (lk_clr hj).1
theorem okL_2 {ls : LV} {i : Nat} {v : VV} (h : okL ls) (h1 : okV v) : okL (st2 ls i v) := fun j w hj => by
  unfold st2 at hj
  rw [lk_setx] at hj
  by_cases e : j = i
  · rw [if_pos e] at hj; cases hj; exact h1
  · rw [if_neg e, lk_setx] at hj
    by_cases e1 : j = i + 1
    · rw [if_pos e1] at hj; cases hj
    · rw [if_neg e1] at hj; exact h j w (lk_clr hj).1
theorem okL_ent : ∀ (vs : List VV), okS vs → okL (entv vs) := by
  intro vs
  induction vs with
  | nil => intro _ i v h; cases i <;> cases h
  | cons w r ih =>
    intro h i v hv
    have h1 := ih (okS_t h)
    rcases w with z | z | z
    · cases i with
      | zero => cases hv; exact okS_h h
      | succ i => exact h1 i v hv
    · match i, hv with
      | 0, hv => cases hv; trivial
      | 1, hv => cases hv
      | i + 2, hv => exact h1 i v hv
    · cases i with
      | zero => cases hv; trivial
      | succ i => exact h1 i v hv
/-- fewer locals -/
def subL (l1 l2 : LV) : Prop := ∀ (i : Nat) (v : VV), lk l1 i = some v → lk l2 i = some v
theorem sl_0 {l : LV} : subL [] l := fun i v h => by cases i <;> cases h
theorem sl_n {r t : LV} {q : Option VV} (h : subL r t) : subL (none :: r) (q :: t) := fun i v hv => by
  cases i with
  | zero => cases hv
  | succ i => exact h i v hv
theorem sl_s {r t : LV} {q : VV} (h : subL r t) : subL (some q :: r) (some q :: t) := fun i v hv => by
  cases i with
  | zero => exact hv
  | succ i => exact h i v hv
/-! ints -/
theorem i_to {z : Int} (h : inR z) : (Int32.ofInt z).toInt = z := Int32.toInt_ofInt_of_le h.1 (by have := h.2; omega)
def w32 (z : Int) : Int := (Int32.ofInt z).toInt
theorem w32_of (z : Int) : Int32.ofInt (w32 z) = Int32.ofInt z := Int32.ofInt_toInt _
theorem w32_in (z : Int) : inR (w32 z) := by
  have h1 := (Int32.ofInt z).toInt_lt
  have h2 := (Int32.ofInt z).le_toInt
  unfold inR w32
  omega
theorem w32_id {z : Int} (h : inR z) : w32 z = z := i_to h
def w8 (z : Int) : Int := (Int8.ofInt z).toInt
theorem w8_in (z : Int) : inR (w8 z) := by
  have h1 := (Int8.ofInt z).toInt_lt
  have h2 := (Int8.ofInt z).le_toInt
  unfold inR w8
  omega
theorem w8_id {z : Int} (h1 : -128 ≤ z) (h2 : z ≤ 127) : w8 z = z := Int8.toInt_ofInt_of_le h1 (by omega)
theorem i_eq {a b : Int} (ha : inR a) (hb : inR b) : (Int32.ofInt a = Int32.ofInt b) ↔ a = b := ⟨fun h => by rw [← i_to ha, h, i_to hb], fun h => by rw [h]⟩
theorem l_to {z : Int} (h : inL z) : (Int64.ofInt z).toInt = z := Int64.toInt_ofInt_of_le h.1 (by have := h.2; omega)
theorem i_cl {z : Int} (h : inR z) : (Int32.ofInt z).toNatClampNeg = z.toNat := Int32.toNatClampNeg_ofInt_of_le h.1 (by have := h.2; omega)
theorem i_vin {z : Int} {n : Nat} (h : inR z) (h0 : 0 ≤ z) (h1 : z < n) : vin (Int32.ofInt z) n = true := by
  unfold vin
  simp only [Bool.and_eq_true, decide_eq_true_eq]
  rw [i_cl h, Int32.le_iff_toInt_le, i_to h]
  exact ⟨h0, by omega⟩
theorem isI_vi (z : Int) : isI (emb (vi z)) = true := rfl
theorem isR_em (a : Nat) : isR (emb (vr a)) = true := by
  unfold emb
  by_cases h : a = 2
  · simp only [if_pos h]; rfl
  · simp only [if_neg h]; rfl
/-! conditions -/
theorem ent_i (iv : List (Int × Int)) (n : Nat) {a b : Int} (ha : inR a) (hb : inR b) : ent iv (n, emb (vi a), emb (vi b)) = (match n with
    | 0 => decide (a = b)
    | 1 => decide (a ≠ b)
    | 2 => decide (a < b)
    | 3 => decide (b ≤ a)
    | 4 => decide (b < a)
    | 5 => decide (a ≤ b)
    | _ => false) := by
  have h1 : lohi iv (emb (vi a)) = some (a, a) := by show some ((Int32.ofInt a).toInt, (Int32.ofInt a).toInt) = _; rw [i_to ha]
  have h2 : lohi iv (emb (vi b)) = some (b, b) := by show some ((Int32.ofInt b).toInt, (Int32.ofInt b).toInt) = _; rw [i_to hb]
  unfold ent
  simp only [h1, h2]
  match n with
  | 0 =>
    by_cases h : a = b
    · subst h; simp
    · have h3 : ¬ emb (vi a) = emb (vi b) := fun q => h ((i_eq ha hb).mp (Value.int.inj q))
      simp [h, h3]
  | 1 =>
    simp only
    by_cases h : a = b
    · subst h; simp
    · rcases Int.lt_or_gt_of_ne h with h4 | h4
      · simp [h, h4]
      · simp [h, h4]
  | 2 => rfl
  | 3 => rfl
  | 4 => rfl
  | 5 => rfl
  | _ + 6 => rfl
/-! the run -/
theorem mrun_f {iv : List (Int × Int)} {G : GI} : ∀ (f g d e M pc : Nat) (ls : ML) (st : List Value) (h : MH) (k n : Nat) (r : Option Value × MH × Nat × Nat), f ≤ g → d ≤ e → mrun iv G f d M pc ls st h k n = some r → mrun iv G g e M pc ls st h k n = some r := by
  intro f
  induction f with
  | zero => intro g d e M pc ls st h k n r _ _ hr; rw [mrun_0] at hr; cases hr
  | succ f ih =>
    intro g d e M pc ls st h k n r hfg hde hr
    obtain ⟨g, rfl⟩ : ∃ g', g = g' + 1 := ⟨g - 1, by omega⟩
    rw [mrun_s] at hr ⊢
    cases hst : mstep iv G M pc ls st h with
    | none => rw [hst] at hr; cases hr
    | some z =>
      rw [hst] at hr
      rcases z with ⟨pc', ls', st', h1, dk, dn⟩ | ⟨y, as, r1, pc'⟩ | w | ⟨alts, ls', st'⟩
      · exact ih _ _ _ _ _ _ _ _ _ _ _ (by omega) hde hr
      · obtain ⟨hc, hr⟩ := if_ok hr
        simp only [if_pos hc]
        cases d with
        | zero => cases hr
        | succ d =>
          obtain ⟨e, rfl⟩ : ∃ e', e = e' + 1 := ⟨e - 1, by omega⟩
          simp only at hr ⊢
          cases hcal : mrun iv G f d y 0 (ment 0 as) [] h 0 0 with
          | none => rw [hcal] at hr; cases hr
          | some q =>
            rw [hcal] at hr
            rw [ih g d e _ _ _ _ _ _ _ _ (by omega) (by omega) hcal]
            obtain ⟨v1, h1, k1, n1⟩ := q
            exact ih _ _ _ _ _ _ _ _ _ _ _ (by omega) hde hr
      · exact hr
      · simp only at hr ⊢
        cases hfind : alts.find? (fun q => ent iv q.1) with
        | none => rw [hfind] at hr; cases hr
        | some q =>
          rw [hfind] at hr
          exact ih _ _ _ _ _ _ _ _ _ _ _ (by omega) hde hr
theorem mrun_k {iv : List (Int × Int)} {G : GI} : ∀ (f d M pc : Nat) (ls : ML) (st : List Value) (h : MH) (k n : Nat) (v : Option Value) (h' : MH) (k' n' : Nat) (a b : Nat), mrun iv G f d M pc ls st h k n = some (v, h', k', n') → mrun iv G f d M pc ls st h (a + k) (b + n) = some (v, h', a + k', b + n') := by
  intro f
  induction f with
  | zero => intro d M pc ls st h k n v h' k' n' a b hr; rw [mrun_0] at hr; cases hr
  | succ f ih =>
    intro d M pc ls st h k n v h' k' n' a b hr
    rw [mrun_s] at hr ⊢
    cases hst : mstep iv G M pc ls st h with
    | none => rw [hst] at hr; cases hr
    | some z =>
      rw [hst] at hr
      rcases z with ⟨pc', ls', st', h1, dk, dn⟩ | ⟨y, as, r1, pc'⟩ | w | ⟨alts, ls', st'⟩
      · have := ih _ _ _ _ _ _ _ _ _ _ _ _ a b hr
        simp only
        rw [← Nat.add_assoc, ← Nat.add_assoc] at this
        exact this
      · obtain ⟨hc, hr⟩ := if_ok hr
        simp only [if_pos hc]
        cases d with
        | zero => cases hr
        | succ d =>
          simp only at hr ⊢
          cases hcal : mrun iv G f d y 0 (ment 0 as) [] h 0 0 with
          | none => rw [hcal] at hr; cases hr
          | some q =>
            obtain ⟨v1, h1, k1, n1⟩ := q
            rw [hcal] at hr
            have := ih _ _ _ _ _ _ _ _ _ _ _ _ a b hr
            simp only
            rw [← Nat.add_assoc, ← Nat.add_assoc] at this
            exact this
      · cases hr
        rfl
      · simp only at hr ⊢
        cases hfind : alts.find? (fun q => ent iv q.1) with
        | none => rw [hfind] at hr; cases hr
        | some q =>
          rw [hfind] at hr
          exact ih _ _ _ _ _ _ _ _ _ _ _ _ a b hr
end
section
/-! The rules: an instruction, a row. -/
def rngB (n : Int) : Bool := decide (-2147483648 ≤ n) && decide (n ≤ 2147483647)
theorem rngB_ok {n : Int} (h : rngB n = true) : inR n := by
  unfold rngB at h
  simp only [Bool.and_eq_true, decide_eq_true_eq] at h
  exact h
def wp {S : Type} (iv : List (Int × Int)) (L : Nat) (Rp : S → MH → Prop) (cs : S → Nat × Nat) (d M pc : Nat) (ls : LV) (st : List VV) (s : S) (Q : Option VV → S → Prop) : Prop :=
  okL ls → okS st → ∀ (h : MH) (lc : ML), relL ls lc → Rp s h → ∃ (f : Nat) (v : Option VV) (h' : MH) (k n : Nat) (s' : S), mrun iv (mG L (fun _ => 0)) f d M pc lc (ems st) h 0 0 = some (v.map emb, h', k, n) ∧ (∀ w, v = some w → okV w) ∧ Rp s' h' ∧ (cs s).1 + k = (cs s').1 ∧ (cs s).2 + n = (cs s').2 ∧ Q v s'
/-- what a method comes to, from its entry -/
def wc {S : Type} (iv : List (Int × Int)) (L : Nat) (Rp : S → MH → Prop) (cs : S → Nat × Nat) (d M : Nat) (as : List VV) (s : S) (Q : Option VV → S → Prop) : Prop := wp iv L Rp cs d M 0 (entv as) [] s Q
def qi {S : Type} (F : Int → S → Prop) (v : Option VV) (s : S) : Prop := ∃ z, v = some (vi z) ∧ F z s
def ql {S : Type} (F : Int → S → Prop) (v : Option VV) (s : S) : Prop := ∃ z, v = some (vl z) ∧ F z s
def qa {S : Type} (F : Nat → S → Prop) (v : Option VV) (s : S) : Prop := ∃ a, v = some (vr a) ∧ F a s
def qv {S : Type} (F : S → Prop) (v : Option VV) (s : S) : Prop := v = none ∧ F s
section
variable {S : Type} {iv : List (Int × Int)} {L : Nat} {Rp : S → MH → Prop} {cs : S → Nat × Nat} {d M pc nx x y : Nat} {ls : LV} {st : List VV} {s : S} {Q : Option VV → S → Prop}
theorem wp_mono {d' : Nat} {Q' : Option VV → S → Prop} (h : wp iv L Rp cs d M pc ls st s Q) (hd : d ≤ d') (hq : ∀ v s', Q v s' → Q' v s') : wp iv L Rp cs d' M pc ls st s Q' := by
  intro h1 h2 H lc hl hr
  obtain ⟨f, v, h', k, n, s', q1, q2, q3, q4, q5, q6⟩ := h h1 h2 H lc hl hr
  exact ⟨f, v, h', k, n, s', mrun_f f f d d' _ _ _ _ _ _ _ _ (Nat.le_refl _) hd q1, q2, q3, q4, q5, hq _ _ q6⟩
theorem wc_mono {as : List VV} {d' : Nat} {Q' : Option VV → S → Prop} (h : wc iv L Rp cs d M as s Q) (hd : d ≤ d') (hq : ∀ v s', Q v s' → Q' v s') : wc iv L Rp cs d' M as s Q' := wp_mono h hd hq
theorem wci_mono {as : List VV} {d' : Nat} {F F' : Int → S → Prop} (h : wc iv L Rp cs d M as s (qi F)) (hd : d ≤ d') (hq : ∀ z s', F z s' → F' z s') : wc iv L Rp cs d' M as s (qi F') := wp_mono h hd (fun _ _ ⟨z, e, q⟩ => ⟨z, e, hq _ _ q⟩)
theorem wcv_mono {as : List VV} {d' : Nat} {F F' : S → Prop} (h : wc iv L Rp cs d M as s (qv F)) (hd : d ≤ d') (hq : ∀ s', F s' → F' s') : wc iv L Rp cs d' M as s (qv F') := wp_mono h hd (fun _ _ ⟨e, q⟩ => ⟨e, hq _ q⟩)
theorem wca_mono {as : List VV} {d' : Nat} {F F' : Nat → S → Prop} (h : wc iv L Rp cs d M as s (qa F)) (hd : d ≤ d') (hq : ∀ z s', F z s' → F' z s') : wc iv L Rp cs d' M as s (qa F') := wp_mono h hd (fun _ _ ⟨z, e, q⟩ => ⟨z, e, hq _ _ q⟩)
theorem wp_ls {l2 : LV} (hs : subL ls l2) (h : wp iv L Rp cs d M pc ls st s Q) : wp iv L Rp cs d M pc l2 st s Q := fun h1 h2 H lc hl hr => h (fun i v hv => h1 i v (hs i v hv)) h2 H lc (fun i v hv => hl i v (hs i v hv)) hr
/-- what is known of locals and cells may be used -/
theorem wp_ok (h : okL ls → okS st → (∃ H, Rp s H) → wp iv L Rp cs d M pc ls st s Q) : wp iv L Rp cs d M pc ls st s Q := fun h1 h2 H lc hl hr => h h1 h2 ⟨H, hr⟩ h1 h2 H lc hl hr
theorem ent_mem {v : VV} : ∀ (as : List VV), v ∈ as → ∃ i, lk (entv as) i = some v := by
  intro as
  induction as with
  | nil => intro h; cases h
  | cons w r ih =>
    intro h
    rcases List.mem_cons.mp h with rfl | h
    · exact ⟨0, by rcases v with z | z | z <;> rfl⟩
    · obtain ⟨i, hi⟩ := ih h
      rcases w with z | z | z
      · exact ⟨i + 1, hi⟩
      · exact ⟨i + 2, hi⟩
      · exact ⟨i + 1, hi⟩
theorem wc_ok {as : List VV} (h : okS as → (∃ H, Rp s H) → wc iv L Rp cs d M as s Q) : wc iv L Rp cs d M as s Q := fun h1 h2 H lc hl hr => h (fun v hv => by
  obtain ⟨i, hi⟩ := ent_mem as hv
  exact h1 i v hi) ⟨H, hr⟩ h1 h2 H lc hl hr
/-- one step on, locals too -/
theorem wp_on {i : Instr} {pc' : Nat} {ls' : LV} {st' : List VV} (he : (mG L (fun _ => 0)).1 M pc = some (i, nx, x, y)) (hz : okL ls → okS st → okL ls' ∧ okS st' ∧ ∀ (h : MH) (lc : ML), relL ls lc → ∃ lc', relL ls' lc' ∧ stepI iv (mG L (fun _ => 0)) M pc i nx x y lc (ems st) h = some (.inl (pc', lc', ems st', h, 0, 0)))
    (hw : wp iv L Rp cs d M pc' ls' st' s Q) : wp iv L Rp cs d M pc ls st s Q := by
  intro h1 h2 H lc hl hr
  obtain ⟨h3, h4, h5⟩ := hz h1 h2
  obtain ⟨lc', hl', h6⟩ := h5 H lc hl
  obtain ⟨f, v, h', k, n, s', q1, q2⟩ := hw h3 h4 H lc' hl' hr
  refine ⟨f + 1, v, h', k, n, s', ?_, q2⟩
  rw [mrun_s]
  unfold mstep
  rw [he]
  simp only
  rw [h6]
  exact q1
/-- one step on, the stack alone -/
theorem wp_os {i : Instr} {pc' : Nat} {st' : List VV} (he : (mG L (fun _ => 0)).1 M pc = some (i, nx, x, y)) (hz : okL ls → okS st → okS st' ∧ ∀ (h : MH) (lc : ML), relL ls lc → stepI iv (mG L (fun _ => 0)) M pc i nx x y lc (ems st) h = some (.inl (pc', lc, ems st', h, 0, 0)))
    (hw : wp iv L Rp cs d M pc' ls st' s Q) : wp iv L Rp cs d M pc ls st s Q := wp_on he (fun h1 h2 => ⟨h1, (hz h1 h2).1, fun h lc hl => ⟨lc, hl, (hz h1 h2).2 h lc hl⟩⟩) hw
/-- one step on, cells -/
theorem wp_onh {i : Instr} {pc' : Nat} {st' : List VV} {s1 : S} (he : (mG L (fun _ => 0)).1 M pc = some (i, nx, x, y)) (hz : okS st → ∀ (h : MH) (lc : ML), Rp s h → okS st' ∧ ∃ h1 k1 n1, stepI iv (mG L (fun _ => 0)) M pc i nx x y lc (ems st) h = some (.inl (pc', lc, ems st', h1, k1, n1)) ∧ Rp s1 h1 ∧ (cs s).1 + k1 = (cs s1).1 ∧ (cs s).2 + n1 = (cs s1).2)
    (hw : wp iv L Rp cs d M pc' ls st' s1 Q) : wp iv L Rp cs d M pc ls st s Q := by
  intro h1 h2 H lc hl hr
  obtain ⟨h4, H1, k1, n1, h5, h6, h7, h8⟩ := hz h2 H lc hr
  obtain ⟨f, v, h', k, n, s', q1, q2, q3, q4, q5, q6⟩ := hw h1 h4 H1 lc hl h6
  refine ⟨f + 1, v, h', k1 + k, n1 + n, s', ?_, q2, q3, by omega, by omega, q6⟩
  rw [mrun_s]
  unfold mstep
  rw [he]
  simp only
  rw [h5]
  have q7 := mrun_k _ _ _ _ _ _ _ _ _ _ _ _ _ k1 n1 q1
  simp only [Nat.add_zero, Nat.zero_add] at q7 ⊢
  exact q7
/-- a branch -/
theorem wp_br {i : Instr} {n : Nat} {a b : Int} {st' : List VV} {P : Prop} (he : (mG L (fun _ => 0)).1 M pc = some (i, nx, x, y)) (hz : ∀ (h : MH) (lc : ML), stepI iv (mG L (fun _ => 0)) M pc i nx x y lc (ems st) h = brr n (emb (vi a)) (emb (vi b)) x nx lc (ems st')) (ho : okS st → inR a ∧ inR b ∧ okS st')
    (hp : inR a → inR b → ((ent iv (n, emb (vi a), emb (vi b)) = true ∧ P) ∨ (ent iv (n, emb (vi a), emb (vi b)) = false ∧ ent iv (cno n, emb (vi a), emb (vi b)) = true ∧ ¬ P)))
    (h1 : P → wp iv L Rp cs d M x ls st' s Q) (h2 : ¬ P → wp iv L Rp cs d M nx ls st' s Q) : wp iv L Rp cs d M pc ls st s Q := by
  intro g1 g2 H lc hl hr
  obtain ⟨ha, hb, hs⟩ := ho g2
  rcases hp ha hb with ⟨e1, p1⟩ | ⟨e1, e2, p1⟩
  · obtain ⟨f, v, h', k, n, s', q1, q2⟩ := h1 p1 g1 hs H lc hl hr
    refine ⟨f + 1, v, h', k, n, s', ?_, q2⟩
    rw [mrun_s]
    unfold mstep
    rw [he]
    simp only
    rw [hz H lc]
    unfold brr
    simp only [List.find?_cons, e1]
    exact q1
  · obtain ⟨f, v, h', k, n, s', q1, q2⟩ := h2 p1 g1 hs H lc hl hr
    refine ⟨f + 1, v, h', k, n, s', ?_, q2⟩
    rw [mrun_s]
    unfold mstep
    rw [he]
    simp only
    rw [hz H lc]
    unfold brr
    simp only [List.find?_cons, e1, e2]
    exact q1
theorem okS2 {v w : VV} {st : List VV} (h : okS (v :: w :: st)) : okV w ∧ okV v ∧ okS st := ⟨okS_h (okS_t h), okS_h h, okS_t (okS_t h)⟩
theorem w_icmp_eq {off : Int} {a b : Int} (he : (mG L (fun _ => 0)).1 M pc = some (.if_icmp .eq off, nx, x, y)) (h1 : a = b → wp iv L Rp cs d M x ls st s Q) (h2 : a ≠ b → wp iv L Rp cs d M nx ls st s Q) : wp iv L Rp cs d M pc ls (vi b :: vi a :: st) s Q :=
  wp_br (n := 0) (a := a) (b := b) (st' := st) (P := a = b) he (fun _ _ => rfl) (fun h => okS2 h) (fun ha hb => by
    simp only [ent_i iv _ ha hb, cno, decide_eq_true_eq, decide_eq_false_iff_not]
    omega) h1 (fun h => h2 (by omega))
theorem w_if_eq {off : Int} {a : Int} (he : (mG L (fun _ => 0)).1 M pc = some (.ifCond .eq off, nx, x, y)) (h1 : a = 0 → wp iv L Rp cs d M x ls st s Q) (h2 : a ≠ 0 → wp iv L Rp cs d M nx ls st s Q) : wp iv L Rp cs d M pc ls (vi a :: st) s Q :=
  wp_br (n := 0) (a := a) (b := 0) (st' := st) (P := a = 0) he (fun _ _ => rfl) (fun h => ⟨okS_h h, by unfold inR; omega, okS_t h⟩) (fun ha hb => by
    simp only [ent_i iv _ ha hb, cno, decide_eq_true_eq, decide_eq_false_iff_not]
    omega) h1 (fun h => h2 (by omega))
theorem w_icmp_ne {off : Int} {a b : Int} (he : (mG L (fun _ => 0)).1 M pc = some (.if_icmp .ne off, nx, x, y)) (h1 : a ≠ b → wp iv L Rp cs d M x ls st s Q) (h2 : a = b → wp iv L Rp cs d M nx ls st s Q) : wp iv L Rp cs d M pc ls (vi b :: vi a :: st) s Q :=
  wp_br (n := 1) (a := a) (b := b) (st' := st) (P := a ≠ b) he (fun _ _ => rfl) (fun h => okS2 h) (fun ha hb => by
    simp only [ent_i iv _ ha hb, cno, decide_eq_true_eq, decide_eq_false_iff_not]
    omega) h1 (fun h => h2 (by omega))
theorem w_if_ne {off : Int} {a : Int} (he : (mG L (fun _ => 0)).1 M pc = some (.ifCond .ne off, nx, x, y)) (h1 : a ≠ 0 → wp iv L Rp cs d M x ls st s Q) (h2 : a = 0 → wp iv L Rp cs d M nx ls st s Q) : wp iv L Rp cs d M pc ls (vi a :: st) s Q :=
  wp_br (n := 1) (a := a) (b := 0) (st' := st) (P := a ≠ 0) he (fun _ _ => rfl) (fun h => ⟨okS_h h, by unfold inR; omega, okS_t h⟩) (fun ha hb => by
    simp only [ent_i iv _ ha hb, cno, decide_eq_true_eq, decide_eq_false_iff_not]
    omega) h1 (fun h => h2 (by omega))
theorem w_icmp_lt {off : Int} {a b : Int} (he : (mG L (fun _ => 0)).1 M pc = some (.if_icmp .lt off, nx, x, y)) (h1 : a < b → wp iv L Rp cs d M x ls st s Q) (h2 : b ≤ a → wp iv L Rp cs d M nx ls st s Q) : wp iv L Rp cs d M pc ls (vi b :: vi a :: st) s Q :=
  wp_br (n := 2) (a := a) (b := b) (st' := st) (P := a < b) he (fun _ _ => rfl) (fun h => okS2 h) (fun ha hb => by
    simp only [ent_i iv _ ha hb, cno, decide_eq_true_eq, decide_eq_false_iff_not]
    omega) h1 (fun h => h2 (by omega))
theorem w_if_lt {off : Int} {a : Int} (he : (mG L (fun _ => 0)).1 M pc = some (.ifCond .lt off, nx, x, y)) (h1 : a < 0 → wp iv L Rp cs d M x ls st s Q) (h2 : 0 ≤ a → wp iv L Rp cs d M nx ls st s Q) : wp iv L Rp cs d M pc ls (vi a :: st) s Q :=
  wp_br (n := 2) (a := a) (b := 0) (st' := st) (P := a < 0) he (fun _ _ => rfl) (fun h => ⟨okS_h h, by unfold inR; omega, okS_t h⟩) (fun ha hb => by
    simp only [ent_i iv _ ha hb, cno, decide_eq_true_eq, decide_eq_false_iff_not]
    omega) h1 (fun h => h2 (by omega))
theorem w_icmp_ge {off : Int} {a b : Int} (he : (mG L (fun _ => 0)).1 M pc = some (.if_icmp .ge off, nx, x, y)) (h1 : b ≤ a → wp iv L Rp cs d M x ls st s Q) (h2 : a < b → wp iv L Rp cs d M nx ls st s Q) : wp iv L Rp cs d M pc ls (vi b :: vi a :: st) s Q :=
  wp_br (n := 3) (a := a) (b := b) (st' := st) (P := b ≤ a) he (fun _ _ => rfl) (fun h => okS2 h) (fun ha hb => by
    simp only [ent_i iv _ ha hb, cno, decide_eq_true_eq, decide_eq_false_iff_not]
    omega) h1 (fun h => h2 (by omega))
theorem w_if_ge {off : Int} {a : Int} (he : (mG L (fun _ => 0)).1 M pc = some (.ifCond .ge off, nx, x, y)) (h1 : 0 ≤ a → wp iv L Rp cs d M x ls st s Q) (h2 : a < 0 → wp iv L Rp cs d M nx ls st s Q) : wp iv L Rp cs d M pc ls (vi a :: st) s Q :=
  wp_br (n := 3) (a := a) (b := 0) (st' := st) (P := 0 ≤ a) he (fun _ _ => rfl) (fun h => ⟨okS_h h, by unfold inR; omega, okS_t h⟩) (fun ha hb => by
    simp only [ent_i iv _ ha hb, cno, decide_eq_true_eq, decide_eq_false_iff_not]
    omega) h1 (fun h => h2 (by omega))
theorem w_icmp_gt {off : Int} {a b : Int} (he : (mG L (fun _ => 0)).1 M pc = some (.if_icmp .gt off, nx, x, y)) (h1 : b < a → wp iv L Rp cs d M x ls st s Q) (h2 : a ≤ b → wp iv L Rp cs d M nx ls st s Q) : wp iv L Rp cs d M pc ls (vi b :: vi a :: st) s Q :=
  wp_br (n := 4) (a := a) (b := b) (st' := st) (P := b < a) he (fun _ _ => rfl) (fun h => okS2 h) (fun ha hb => by
    simp only [ent_i iv _ ha hb, cno, decide_eq_true_eq, decide_eq_false_iff_not]
    omega) h1 (fun h => h2 (by omega))
theorem w_if_gt {off : Int} {a : Int} (he : (mG L (fun _ => 0)).1 M pc = some (.ifCond .gt off, nx, x, y)) (h1 : 0 < a → wp iv L Rp cs d M x ls st s Q) (h2 : a ≤ 0 → wp iv L Rp cs d M nx ls st s Q) : wp iv L Rp cs d M pc ls (vi a :: st) s Q :=
  wp_br (n := 4) (a := a) (b := 0) (st' := st) (P := 0 < a) he (fun _ _ => rfl) (fun h => ⟨okS_h h, by unfold inR; omega, okS_t h⟩) (fun ha hb => by
    simp only [ent_i iv _ ha hb, cno, decide_eq_true_eq, decide_eq_false_iff_not]
    omega) h1 (fun h => h2 (by omega))
theorem w_icmp_le {off : Int} {a b : Int} (he : (mG L (fun _ => 0)).1 M pc = some (.if_icmp .le off, nx, x, y)) (h1 : a ≤ b → wp iv L Rp cs d M x ls st s Q) (h2 : b < a → wp iv L Rp cs d M nx ls st s Q) : wp iv L Rp cs d M pc ls (vi b :: vi a :: st) s Q :=
  wp_br (n := 5) (a := a) (b := b) (st' := st) (P := a ≤ b) he (fun _ _ => rfl) (fun h => okS2 h) (fun ha hb => by
    simp only [ent_i iv _ ha hb, cno, decide_eq_true_eq, decide_eq_false_iff_not]
    omega) h1 (fun h => h2 (by omega))
theorem w_if_le {off : Int} {a : Int} (he : (mG L (fun _ => 0)).1 M pc = some (.ifCond .le off, nx, x, y)) (h1 : a ≤ 0 → wp iv L Rp cs d M x ls st s Q) (h2 : 0 < a → wp iv L Rp cs d M nx ls st s Q) : wp iv L Rp cs d M pc ls (vi a :: st) s Q :=
  wp_br (n := 5) (a := a) (b := 0) (st' := st) (P := a ≤ 0) he (fun _ _ => rfl) (fun h => ⟨okS_h h, by unfold inR; omega, okS_t h⟩) (fun ha hb => by
    simp only [ent_i iv _ ha hb, cno, decide_eq_true_eq, decide_eq_false_iff_not]
    omega) h1 (fun h => h2 (by omega))
theorem w_iload_n {k : Fin 4} {z : Int} (he : (mG L (fun _ => 0)).1 M pc = some (.iload_n k, nx, x, y)) (hl : lk ls k.val = some (vi z)) (hw : wp iv L Rp cs d M nx ls (vi z :: st) s Q) : wp iv L Rp cs d M pc ls st s Q :=
  wp_os he (fun h1 h2 => ⟨okS_c (h1 _ _ hl) h2, fun h lc hlc => by
    show stload lc k.val nx (ems st) h isI = _
    unfold stload
    rw [hlc _ _ hl]
    simp only
    rw [if_pos (show isI (emb (vi z)) = true from rfl)]
    rfl⟩) hw
theorem w_iload {k : Nat} {z : Int} (he : (mG L (fun _ => 0)).1 M pc = some (.iload k, nx, x, y)) (hl : lk ls k = some (vi z)) (hw : wp iv L Rp cs d M nx ls (vi z :: st) s Q) : wp iv L Rp cs d M pc ls st s Q :=
  wp_os he (fun h1 h2 => ⟨okS_c (h1 _ _ hl) h2, fun h lc hlc => by
    show stload lc k nx (ems st) h isI = _
    unfold stload
    rw [hlc _ _ hl]
    simp only
    rw [if_pos (show isI (emb (vi z)) = true from rfl)]
    rfl⟩) hw
theorem w_lload_n {k : Fin 4} {z : Int} (he : (mG L (fun _ => 0)).1 M pc = some (.lload_n k, nx, x, y)) (hl : lk ls k.val = some (vl z)) (hw : wp iv L Rp cs d M nx ls (vl z :: st) s Q) : wp iv L Rp cs d M pc ls st s Q :=
  wp_os he (fun h1 h2 => ⟨okS_c (h1 _ _ hl) h2, fun h lc hlc => by
    show stload lc k.val nx (ems st) h isL = _
    unfold stload
    rw [hlc _ _ hl]
    simp only
    rw [if_pos (show isL (emb (vl z)) = true from rfl)]
    rfl⟩) hw
theorem w_lload {k : Nat} {z : Int} (he : (mG L (fun _ => 0)).1 M pc = some (.lload k, nx, x, y)) (hl : lk ls k = some (vl z)) (hw : wp iv L Rp cs d M nx ls (vl z :: st) s Q) : wp iv L Rp cs d M pc ls st s Q :=
  wp_os he (fun h1 h2 => ⟨okS_c (h1 _ _ hl) h2, fun h lc hlc => by
    show stload lc k nx (ems st) h isL = _
    unfold stload
    rw [hlc _ _ hl]
    simp only
    rw [if_pos (show isL (emb (vl z)) = true from rfl)]
    rfl⟩) hw
theorem w_aload_n {k : Fin 4} {z : Nat} (he : (mG L (fun _ => 0)).1 M pc = some (.aload_n k, nx, x, y)) (hl : lk ls k.val = some (vr z)) (hw : wp iv L Rp cs d M nx ls (vr z :: st) s Q) : wp iv L Rp cs d M pc ls st s Q :=
  wp_os he (fun h1 h2 => ⟨okS_c (h1 _ _ hl) h2, fun h lc hlc => by
    show stload lc k.val nx (ems st) h isR = _
    unfold stload
    rw [hlc _ _ hl]
    simp only
    rw [if_pos (show isR (emb (vr z)) = true from isR_em z)]
    rfl⟩) hw
theorem w_aload {k : Nat} {z : Nat} (he : (mG L (fun _ => 0)).1 M pc = some (.aload k, nx, x, y)) (hl : lk ls k = some (vr z)) (hw : wp iv L Rp cs d M nx ls (vr z :: st) s Q) : wp iv L Rp cs d M pc ls st s Q :=
  wp_os he (fun h1 h2 => ⟨okS_c (h1 _ _ hl) h2, fun h lc hlc => by
    show stload lc k nx (ems st) h isR = _
    unfold stload
    rw [hlc _ _ hl]
    simp only
    rw [if_pos (show isR (emb (vr z)) = true from isR_em z)]
    rfl⟩) hw
theorem w_istore_n {k : Fin 4} {z : Int} (he : (mG L (fun _ => 0)).1 M pc = some (.istore_n k, nx, x, y)) (hk : Nat.blt k.val ((mG L (fun _ => 0)).2.1 M) = true) (hw : wp iv L Rp cs d M nx (st1 ls k.val (vi z)) st s Q) : wp iv L Rp cs d M pc ls (vi z :: st) s Q :=
  wp_on he (fun h1 h2 => ⟨okL_1 h1 (okS_h h2), okS_t h2, fun h lc hlc => ⟨_, relL_1 hlc _ _, by
    show (if isI (emb (vi z)) && decide (k.val < (mG L (fun _ => 0)).2.1 M) then okk nx (sto1 lc k.val (emb (vi z))) (ems st) h else none) = _
    rw [if_pos (by rw [show isI (emb (vi z)) = true from rfl, decide_eq_true (show _ < _ from Nat.le_of_ble_eq_true hk)]; rfl)]
    rfl⟩⟩) hw
theorem w_istore {k : Nat} {z : Int} (he : (mG L (fun _ => 0)).1 M pc = some (.istore k, nx, x, y)) (hk : Nat.blt k ((mG L (fun _ => 0)).2.1 M) = true) (hw : wp iv L Rp cs d M nx (st1 ls k (vi z)) st s Q) : wp iv L Rp cs d M pc ls (vi z :: st) s Q :=
  wp_on he (fun h1 h2 => ⟨okL_1 h1 (okS_h h2), okS_t h2, fun h lc hlc => ⟨_, relL_1 hlc _ _, by
    show (if isI (emb (vi z)) && decide (k < (mG L (fun _ => 0)).2.1 M) then okk nx (sto1 lc k (emb (vi z))) (ems st) h else none) = _
    rw [if_pos (by rw [show isI (emb (vi z)) = true from rfl, decide_eq_true (show _ < _ from Nat.le_of_ble_eq_true hk)]; rfl)]
    rfl⟩⟩) hw
theorem w_astore_n {k : Fin 4} {z : Nat} (he : (mG L (fun _ => 0)).1 M pc = some (.astore_n k, nx, x, y)) (hk : Nat.blt k.val ((mG L (fun _ => 0)).2.1 M) = true) (hw : wp iv L Rp cs d M nx (st1 ls k.val (vr z)) st s Q) : wp iv L Rp cs d M pc ls (vr z :: st) s Q :=
  wp_on he (fun h1 h2 => ⟨okL_1 h1 (okS_h h2), okS_t h2, fun h lc hlc => ⟨_, relL_1 hlc _ _, by
    show (if isR (emb (vr z)) && decide (k.val < (mG L (fun _ => 0)).2.1 M) then okk nx (sto1 lc k.val (emb (vr z))) (ems st) h else none) = _
    rw [if_pos (by rw [show isR (emb (vr z)) = true from isR_em z, decide_eq_true (show _ < _ from Nat.le_of_ble_eq_true hk)]; rfl)]
    rfl⟩⟩) hw
theorem w_astore {k : Nat} {z : Nat} (he : (mG L (fun _ => 0)).1 M pc = some (.astore k, nx, x, y)) (hk : Nat.blt k ((mG L (fun _ => 0)).2.1 M) = true) (hw : wp iv L Rp cs d M nx (st1 ls k (vr z)) st s Q) : wp iv L Rp cs d M pc ls (vr z :: st) s Q :=
  wp_on he (fun h1 h2 => ⟨okL_1 h1 (okS_h h2), okS_t h2, fun h lc hlc => ⟨_, relL_1 hlc _ _, by
    show (if isR (emb (vr z)) && decide (k < (mG L (fun _ => 0)).2.1 M) then okk nx (sto1 lc k (emb (vr z))) (ems st) h else none) = _
    rw [if_pos (by rw [show isR (emb (vr z)) = true from isR_em z, decide_eq_true (show _ < _ from Nat.le_of_ble_eq_true hk)]; rfl)]
    rfl⟩⟩) hw
theorem w_lstore_n {k : Fin 4} {z : Int} (he : (mG L (fun _ => 0)).1 M pc = some (.lstore_n k, nx, x, y)) (hk : Nat.blt (k.val + 1) ((mG L (fun _ => 0)).2.1 M) = true) (hw : wp iv L Rp cs d M nx (st2 ls k.val (vl z)) st s Q) : wp iv L Rp cs d M pc ls (vl z :: st) s Q :=
  wp_on he (fun h1 h2 => ⟨okL_2 (v := vl z) h1 trivial, okS_t h2, fun h lc hlc => ⟨_, relL_2 hlc _ _, by
    show (if isL (emb (vl z)) && decide (k.val + 1 < (mG L (fun _ => 0)).2.1 M) then okk nx (sto2 lc k.val (emb (vl z))) (ems st) h else none) = _
    rw [if_pos (by rw [show isL (emb (vl z)) = true from rfl, decide_eq_true (show _ < _ from Nat.le_of_ble_eq_true hk)]; rfl)]
    rfl⟩⟩) hw
theorem w_lstore {k : Nat} {z : Int} (he : (mG L (fun _ => 0)).1 M pc = some (.lstore k, nx, x, y)) (hk : Nat.blt (k + 1) ((mG L (fun _ => 0)).2.1 M) = true) (hw : wp iv L Rp cs d M nx (st2 ls k (vl z)) st s Q) : wp iv L Rp cs d M pc ls (vl z :: st) s Q :=
  wp_on he (fun h1 h2 => ⟨okL_2 (v := vl z) h1 trivial, okS_t h2, fun h lc hlc => ⟨_, relL_2 hlc _ _, by
    show (if isL (emb (vl z)) && decide (k + 1 < (mG L (fun _ => 0)).2.1 M) then okk nx (sto2 lc k (emb (vl z))) (ems st) h else none) = _
    rw [if_pos (by rw [show isL (emb (vl z)) = true from rfl, decide_eq_true (show _ < _ from Nat.le_of_ble_eq_true hk)]; rfl)]
    rfl⟩⟩) hw
theorem w_iconst {n : Int} (he : (mG L (fun _ => 0)).1 M pc = some (.iconst n, nx, x, y)) (hn : rngB n = true) (hw : wp iv L Rp cs d M nx ls (vi n :: st) s Q) : wp iv L Rp cs d M pc ls (st) s Q :=
  wp_os he (fun h1 h2 => ⟨okS_ci (rngB_ok hn) h2, fun h lc _ => rfl⟩) hw
theorem w_bipush {n : Int} (he : (mG L (fun _ => 0)).1 M pc = some (.bipush n, nx, x, y)) (hn : (Int8.ofInt n).toInt32 = Int32.ofInt n) (hr : rngB n = true) (hw : wp iv L Rp cs d M nx ls (vi n :: st) s Q) : wp iv L Rp cs d M pc ls st s Q :=
  wp_os he (fun h1 h2 => ⟨okS_ci (rngB_ok hr) h2, fun h lc _ => by
    show okk nx (lc) (.int (Int8.ofInt n).toInt32 :: ems st) h = _
    rw [hn]
    rfl⟩) hw
theorem w_sipush {n : Int} (he : (mG L (fun _ => 0)).1 M pc = some (.sipush n, nx, x, y)) (hn : (Int16.ofInt n).toInt32 = Int32.ofInt n) (hr : rngB n = true) (hw : wp iv L Rp cs d M nx ls (vi n :: st) s Q) : wp iv L Rp cs d M pc ls st s Q :=
  wp_os he (fun h1 h2 => ⟨okS_ci (rngB_ok hr) h2, fun h lc _ => by
    show okk nx (lc) (.int (Int16.ofInt n).toInt32 :: ems st) h = _
    rw [hn]
    rfl⟩) hw
theorem w_lconst {n : Fin 2} {z : Int} (he : (mG L (fun _ => 0)).1 M pc = some (.lconst n, nx, x, y)) (hn : Int64.ofNat (n : Nat) = Int64.ofInt z) (hw : wp iv L Rp cs d M nx ls (vl z :: st) s Q) : wp iv L Rp cs d M pc ls (st) s Q :=
  wp_os he (fun h1 h2 => ⟨okS_c (by exact trivial) h2, fun h lc _ => by show okk nx (lc) (.long (Int64.ofNat (n : Nat)) :: ems st) h = _; rw [hn]; rfl⟩) hw
theorem w_null  (he : (mG L (fun _ => 0)).1 M pc = some (.aconst_null, nx, x, y)) (hw : wp iv L Rp cs d M nx ls (vr 2 :: st) s Q) : wp iv L Rp cs d M pc ls (st) s Q :=
  wp_os he (fun h1 h2 => ⟨okS_c (by exact trivial) h2, fun h lc _ => rfl⟩) hw
theorem w_ldc {n : Nat} {z : Int} (he : (mG L (fun _ => 0)).1 M pc = some (.ldc n, nx, x, y)) (hy : y = 0) (hn : Int32.ofNat x = Int32.ofInt z) (hr : rngB z = true) (hw : wp iv L Rp cs d M nx ls (vi z :: st) s Q) : wp iv L Rp cs d M pc ls (st) s Q :=
  wp_os he (fun h1 h2 => ⟨okS_ci (rngB_ok hr) h2, fun h lc _ => by subst hy; show okk nx (lc) (.int (Int32.ofNat x) :: ems st) h = _; rw [hn]; rfl⟩) hw
theorem w_ldc_w {n : Nat} {z : Int} (he : (mG L (fun _ => 0)).1 M pc = some (.ldc_w n, nx, x, y)) (hy : y = 0) (hn : Int32.ofNat x = Int32.ofInt z) (hr : rngB z = true) (hw : wp iv L Rp cs d M nx ls (vi z :: st) s Q) : wp iv L Rp cs d M pc ls (st) s Q :=
  wp_os he (fun h1 h2 => ⟨okS_ci (rngB_ok hr) h2, fun h lc _ => by subst hy; show okk nx lc (.int (Int32.ofNat x) :: ems st) h = _; rw [hn]; rfl⟩) hw
theorem w_ldcws {n : Nat} (he : (mG L (fun _ => 0)).1 M pc = some (.ldc_w n, nx, x, y)) (hy : y = 1) (hx : x ≠ 2) (hw : wp iv L Rp cs d M nx ls (vr x :: st) s Q) : wp iv L Rp cs d M pc ls (st) s Q :=
  wp_os he (fun h1 h2 => ⟨okS_c (by exact trivial) h2, fun h lc _ => by subst hy; show okk nx lc (.ref x :: ems st) h = _; show _ = some (Sum.inl (nx, lc, emb (vr x) :: ems st, h, 0, 0)); unfold emb; simp only [if_neg hx]; rfl⟩) hw
theorem w_ldcs {n : Nat} (he : (mG L (fun _ => 0)).1 M pc = some (.ldc n, nx, x, y)) (hy : y = 1) (hx : x ≠ 2) (hw : wp iv L Rp cs d M nx ls (vr x :: st) s Q) : wp iv L Rp cs d M pc ls (st) s Q :=
  wp_os he (fun h1 h2 => ⟨okS_c (by exact trivial) h2, fun h lc _ => by subst hy; show okk nx (lc) (.ref x :: ems st) h = _; show _ = some (Sum.inl (nx, lc, emb (vr x) :: ems st, h, 0, 0)); unfold emb; simp only [if_neg hx]; rfl⟩) hw
theorem w_ldc2 {n : Nat} {z : Int} (he : (mG L (fun _ => 0)).1 M pc = some (.ldc2_w n, nx, x, y)) (hn : Int64.ofNat x = Int64.ofInt z) (hw : wp iv L Rp cs d M nx ls (vl z :: st) s Q) : wp iv L Rp cs d M pc ls (st) s Q :=
  wp_os he (fun h1 h2 => ⟨okS_c (by exact trivial) h2, fun h lc _ => by show okk nx (lc) (.long (Int64.ofNat x) :: ems st) h = _; rw [hn]; rfl⟩) hw
theorem w_getst {n : Nat} (he : (mG L (fun _ => 0)).1 M pc = some (.getstatic n, nx, x, y)) (hx : x ≠ 2) (hw : wp iv L Rp cs d M nx ls (vr x :: st) s Q) : wp iv L Rp cs d M pc ls (st) s Q :=
  wp_os he (fun h1 h2 => ⟨okS_c (by exact trivial) h2, fun h lc _ => by show okk nx (lc) (.ref x :: ems st) h = _; show _ = some (Sum.inl (nx, lc, emb (vr x) :: ems st, h, 0, 0)); unfold emb; simp only [if_neg hx]; rfl⟩) hw
theorem w_iadd {a b : Int} (he : (mG L (fun _ => 0)).1 M pc = some (.iadd, nx, x, y)) (hr : inR (a + b)) (hw : wp iv L Rp cs d M nx ls (vi (a + b) :: st) s Q) : wp iv L Rp cs d M pc ls (vi b :: vi a :: st) s Q :=
  wp_os he (fun h1 h2 => ⟨okS_ci hr (okS_t (okS_t h2)), fun h lc _ => by show okk nx (lc) (.int (Int32.ofInt a + Int32.ofInt b) :: ems st) h = _; rw [← Int32.ofInt_add]; rfl⟩) hw
theorem w_iaddw {a b : Int} (he : (mG L (fun _ => 0)).1 M pc = some (.iadd, nx, x, y)) (hw : wp iv L Rp cs d M nx ls (vi (w32 (a + b)) :: st) s Q) : wp iv L Rp cs d M pc ls (vi b :: vi a :: st) s Q :=
  wp_os he (fun h1 h2 => ⟨okS_ci (w32_in _) (okS_t (okS_t h2)), fun h lc _ => by show okk nx (lc) (.int (Int32.ofInt a + Int32.ofInt b) :: ems st) h = some (Sum.inl (nx, lc, .int (Int32.ofInt (w32 (a + b))) :: ems st, h, 0, 0)); rw [← Int32.ofInt_add, w32_of]; rfl⟩) hw
theorem w_isub {a b : Int} (he : (mG L (fun _ => 0)).1 M pc = some (.isub, nx, x, y)) (hr : inR (a - b)) (hw : wp iv L Rp cs d M nx ls (vi (a - b) :: st) s Q) : wp iv L Rp cs d M pc ls (vi b :: vi a :: st) s Q :=
  wp_os he (fun h1 h2 => ⟨okS_ci hr (okS_t (okS_t h2)), fun h lc _ => by show okk nx (lc) (.int (Int32.ofInt a - Int32.ofInt b) :: ems st) h = _; rw [← Int32.ofInt_sub]; rfl⟩) hw
theorem w_isubw {a b : Int} (he : (mG L (fun _ => 0)).1 M pc = some (.isub, nx, x, y)) (hw : wp iv L Rp cs d M nx ls (vi (w32 (a - b)) :: st) s Q) : wp iv L Rp cs d M pc ls (vi b :: vi a :: st) s Q :=
  wp_os he (fun h1 h2 => ⟨okS_ci (w32_in _) (okS_t (okS_t h2)), fun h lc _ => by show okk nx (lc) (.int (Int32.ofInt a - Int32.ofInt b) :: ems st) h = some (Sum.inl (nx, lc, .int (Int32.ofInt (w32 (a - b))) :: ems st, h, 0, 0)); rw [← Int32.ofInt_sub, w32_of]; rfl⟩) hw
theorem w_imul {a b : Int} (he : (mG L (fun _ => 0)).1 M pc = some (.imul, nx, x, y)) (hr : inR (a * b)) (hw : wp iv L Rp cs d M nx ls (vi (a * b) :: st) s Q) : wp iv L Rp cs d M pc ls (vi b :: vi a :: st) s Q :=
  wp_os he (fun h1 h2 => ⟨okS_ci hr (okS_t (okS_t h2)), fun h lc _ => by show okk nx (lc) (.int (Int32.ofInt a * Int32.ofInt b) :: ems st) h = _; rw [← Int32.ofInt_mul]; rfl⟩) hw
theorem w_imulw {a b : Int} (he : (mG L (fun _ => 0)).1 M pc = some (.imul, nx, x, y)) (hw : wp iv L Rp cs d M nx ls (vi (w32 (a * b)) :: st) s Q) : wp iv L Rp cs d M pc ls (vi b :: vi a :: st) s Q :=
  wp_os he (fun h1 h2 => ⟨okS_ci (w32_in _) (okS_t (okS_t h2)), fun h lc _ => by show okk nx (lc) (.int (Int32.ofInt a * Int32.ofInt b) :: ems st) h = some (Sum.inl (nx, lc, .int (Int32.ofInt (w32 (a * b))) :: ems st, h, 0, 0)); rw [← Int32.ofInt_mul, w32_of]; rfl⟩) hw
theorem w_ineg {a : Int} (he : (mG L (fun _ => 0)).1 M pc = some (.ineg, nx, x, y)) (hr : inR (-a)) (hw : wp iv L Rp cs d M nx ls (vi (-a) :: st) s Q) : wp iv L Rp cs d M pc ls (vi a :: st) s Q :=
  wp_os he (fun h1 h2 => ⟨okS_ci hr (okS_t h2), fun h lc _ => by show okk nx (lc) (.int (-Int32.ofInt a) :: ems st) h = _; rw [← Int32.ofInt_neg]; rfl⟩) hw
theorem w_inegw {a : Int} (he : (mG L (fun _ => 0)).1 M pc = some (.ineg, nx, x, y)) (hw : wp iv L Rp cs d M nx ls (vi (w32 (-a)) :: st) s Q) : wp iv L Rp cs d M pc ls (vi a :: st) s Q :=
  wp_os he (fun h1 h2 => ⟨okS_ci (w32_in _) (okS_t h2), fun h lc _ => by show okk nx (lc) (.int (-Int32.ofInt a) :: ems st) h = some (Sum.inl (nx, lc, .int (Int32.ofInt (w32 (-a))) :: ems st, h, 0, 0)); rw [← Int32.ofInt_neg, w32_of]; rfl⟩) hw
theorem i_div {a b : Int} (ha : inR a) (hb : inR b) (hr : inR (a.tdiv b)) : Int32.ofInt a / Int32.ofInt b = Int32.ofInt (a.tdiv b) := by
  apply Int32.toInt.inj
  rw [Int32.toInt_div, i_to ha, i_to hb, i_to hr]
  have h := i_to hr
  rw [Int32.toInt_ofInt] at h
  exact h
theorem i_nz {b : Int} (hb : inR b) (h : b ≠ 0) : ¬ Int32.ofInt b = 0 := fun q => h ((i_eq hb (by unfold inR; omega)).mp q)
theorem w_idiv {a b : Int} (he : (mG L (fun _ => 0)).1 M pc = some (.idiv, nx, x, y)) (hb : b ≠ 0) (hr : inR (a.tdiv b)) (hw : wp iv L Rp cs d M nx ls (vi (a.tdiv b) :: st) s Q) : wp iv L Rp cs d M pc ls (vi b :: vi a :: st) s Q :=
  wp_os he (fun h1 h2 => ⟨okS_ci hr (okS_t (okS_t h2)), fun h lc _ => by show (if Int32.ofInt b = 0 then none else okk nx (lc) (.int (Int32.ofInt a / Int32.ofInt b) :: ems st) h) = _; rw [if_neg (i_nz (okS_h h2) hb), i_div (okS_h (okS_t h2)) (okS_h h2) hr]; rfl⟩) hw
theorem w_irem {a b : Int} (he : (mG L (fun _ => 0)).1 M pc = some (.irem, nx, x, y)) (hb : b ≠ 0) (hq : inR (a.tdiv b)) (hr : inR (a - a.tdiv b * b)) (hw : wp iv L Rp cs d M nx ls (vi (a - a.tdiv b * b) :: st) s Q) : wp iv L Rp cs d M pc ls (vi b :: vi a :: st) s Q :=
  wp_os he (fun h1 h2 => ⟨okS_ci hr (okS_t (okS_t h2)), fun h lc _ => by show (if Int32.ofInt b = 0 then none else okk nx (lc) (.int (Int32.ofInt a - Int32.ofInt a / Int32.ofInt b * Int32.ofInt b) :: ems st) h) = _; rw [if_neg (i_nz (okS_h h2) hb), i_div (okS_h (okS_t h2)) (okS_h h2) hq, ← Int32.ofInt_mul, ← Int32.ofInt_sub]; rfl⟩) hw
theorem w_i2l {a : Int} (he : (mG L (fun _ => 0)).1 M pc = some (.i2l, nx, x, y)) (hw : wp iv L Rp cs d M nx ls (vl a :: st) s Q) : wp iv L Rp cs d M pc ls (vi a :: st) s Q :=
  wp_os he (fun h1 h2 => ⟨okS_c (by exact trivial) (okS_t h2), fun h lc _ => by show okk nx (lc) (.long (Int32.ofInt a).toInt64 :: ems st) h = _; rw [show (Int32.ofInt a).toInt64 = Int64.ofInt a from by rw [← Int64.ofInt_int32ToInt, i_to (okS_h h2)]]; rfl⟩) hw
theorem w_i2b {a : Int} (he : (mG L (fun _ => 0)).1 M pc = some (.i2b, nx, x, y)) (hw : wp iv L Rp cs d M nx ls (vi (w8 a) :: st) s Q) : wp iv L Rp cs d M pc ls (vi a :: st) s Q :=
  wp_os he (fun h1 h2 => ⟨okS_ci (w8_in _) (okS_t h2), fun h lc _ => by show okk nx (lc) (.int (Int32.ofInt a).toInt8.toInt32 :: ems st) h = some (Sum.inl (nx, lc, .int (Int32.ofInt (w8 a)) :: ems st, h, 0, 0)); unfold w8; rw [Int32.ofInt_int8ToInt, Int32.toInt8_ofInt]; rfl⟩) hw
theorem w_l2i {a : Int} (he : (mG L (fun _ => 0)).1 M pc = some (.l2i, nx, x, y)) (hw : wp iv L Rp cs d M nx ls (vi (w32 a) :: st) s Q) : wp iv L Rp cs d M pc ls (vl a :: st) s Q :=
  wp_os he (fun h1 h2 => ⟨okS_ci (w32_in _) (okS_t h2), fun h lc _ => by show okk nx (lc) (.int (Int64.ofInt a).toInt32 :: ems st) h = some (Sum.inl (nx, lc, .int (Int32.ofInt (w32 a)) :: ems st, h, 0, 0)); rw [w32_of, Int64.toInt32_ofInt]; rfl⟩) hw
theorem w_ladd {a b : Int} (he : (mG L (fun _ => 0)).1 M pc = some (.ladd, nx, x, y)) (hw : wp iv L Rp cs d M nx ls (vl (a + b) :: st) s Q) : wp iv L Rp cs d M pc ls (vl b :: vl a :: st) s Q :=
  wp_os he (fun h1 h2 => ⟨okS_c (by exact trivial) (okS_t (okS_t h2)), fun h lc _ => by show okk nx (lc) (.long (Int64.ofInt a + Int64.ofInt b) :: ems st) h = _; rw [← Int64.ofInt_add]; rfl⟩) hw
theorem w_lmul {a b : Int} (he : (mG L (fun _ => 0)).1 M pc = some (.lmul, nx, x, y)) (hw : wp iv L Rp cs d M nx ls (vl (a * b) :: st) s Q) : wp iv L Rp cs d M pc ls (vl b :: vl a :: st) s Q :=
  wp_os he (fun h1 h2 => ⟨okS_c (by exact trivial) (okS_t (okS_t h2)), fun h lc _ => by show okk nx (lc) (.long (Int64.ofInt a * Int64.ofInt b) :: ems st) h = _; rw [← Int64.ofInt_mul]; rfl⟩) hw
theorem w_lneg {a : Int} (he : (mG L (fun _ => 0)).1 M pc = some (.lneg, nx, x, y)) (hw : wp iv L Rp cs d M nx ls (vl (-a) :: st) s Q) : wp iv L Rp cs d M pc ls (vl a :: st) s Q :=
  wp_os he (fun h1 h2 => ⟨okS_c (by exact trivial) (okS_t h2), fun h lc _ => by show okk nx (lc) (.long (-Int64.ofInt a) :: ems st) h = _; rw [← Int64.ofInt_neg]; rfl⟩) hw
theorem l_eq {a b : Int} (ha : inL a) (hb : inL b) : (Int64.ofInt a = Int64.ofInt b) ↔ a = b := ⟨fun h => by rw [← l_to ha, h, l_to hb], fun h => by rw [h]⟩
theorem l_nz {b : Int} (hb : inL b) (h : b ≠ 0) : ¬ Int64.ofInt b = 0 := fun q => h ((l_eq hb (by unfold inL; omega)).mp q)
theorem l_div {a b : Int} (ha : inL a) (hb : inL b) (hr : inL (a.tdiv b)) : Int64.ofInt a / Int64.ofInt b = Int64.ofInt (a.tdiv b) := by
  apply Int64.toInt.inj
  rw [Int64.toInt_div, l_to ha, l_to hb, l_to hr]
  have h := l_to hr
  rw [Int64.toInt_ofInt] at h
  exact h
def lcp (a b : Int) : Int := if b < a then 1 else if a = b then 0 else -1
theorem lcp_ok {a b : Int} (ha : inL a) (hb : inL b) : lg_cmp (Int64.ofInt a) (Int64.ofInt b) = Int32.ofInt (lcp a b) := by
  unfold lg_cmp lcp
  have e1 : (Int64.ofInt a > Int64.ofInt b) ↔ b < a := by rw [gt_iff_lt, Int64.lt_iff_toInt_lt, l_to ha, l_to hb]
  have e2 := l_eq ha hb
  by_cases h1 : b < a
  · rw [if_pos (e1.mpr h1), if_pos h1]; rfl
  · rw [if_neg (fun q => h1 (e1.mp q)), if_neg h1]
    by_cases h2 : a = b
    · simp [h2]
    · have h3 : ¬ Int64.ofInt a = Int64.ofInt b := fun q => h2 (e2.mp q)
      simp [h2, h3]
theorem lcp_in (a b : Int) : inR (lcp a b) := by
  unfold lcp inR
  split
  · omega
  · split <;> omega
theorem w_ldiv {a b : Int} (he : (mG L (fun _ => 0)).1 M pc = some (.ldiv, nx, x, y)) (ha : inL a) (hl : inL b) (hb : b ≠ 0) (hr : inL (a.tdiv b)) (hw : wp iv L Rp cs d M nx ls (vl (a.tdiv b) :: st) s Q) : wp iv L Rp cs d M pc ls (vl b :: vl a :: st) s Q :=
  wp_os he (fun h1 h2 => ⟨okS_c (by exact trivial) (okS_t (okS_t h2)), fun h lc _ => by show (if Int64.ofInt b = 0 then none else okk nx (lc) (.long (Int64.ofInt a / Int64.ofInt b) :: ems st) h) = _; rw [if_neg (l_nz hl hb), l_div ha hl hr]; rfl⟩) hw
theorem w_lrem {a b : Int} (he : (mG L (fun _ => 0)).1 M pc = some (.lrem, nx, x, y)) (ha : inL a) (hl : inL b) (hb : b ≠ 0) (hr : inL (a.tdiv b)) (hw : wp iv L Rp cs d M nx ls (vl (a - a.tdiv b * b) :: st) s Q) : wp iv L Rp cs d M pc ls (vl b :: vl a :: st) s Q :=
  wp_os he (fun h1 h2 => ⟨okS_c (by exact trivial) (okS_t (okS_t h2)), fun h lc _ => by show (if Int64.ofInt b = 0 then none else okk nx (lc) (.long (Int64.ofInt a - Int64.ofInt a / Int64.ofInt b * Int64.ofInt b) :: ems st) h) = _; rw [if_neg (l_nz hl hb), l_div ha hl hr, ← Int64.ofInt_mul, ← Int64.ofInt_sub]; rfl⟩) hw
theorem w_lcmp {a b : Int} (he : (mG L (fun _ => 0)).1 M pc = some (.lcmp, nx, x, y)) (ha : inL a) (hb : inL b) (hw : wp iv L Rp cs d M nx ls (vi (lcp a b) :: st) s Q) : wp iv L Rp cs d M pc ls (vl b :: vl a :: st) s Q :=
  wp_os he (fun h1 h2 => ⟨okS_ci (lcp_in _ _) (okS_t (okS_t h2)), fun h lc _ => by show okk nx (lc) (.int (lg_cmp (Int64.ofInt a) (Int64.ofInt b)) :: ems st) h = _; rw [lcp_ok ha hb]; rfl⟩) hw
theorem cat1_i (z : Int) : cat1 (emb (vi z)) = true := rfl
theorem cat1_a (z : Nat) : cat1 (emb (vr z)) = true := by
  unfold emb
  by_cases h : z = 2
  · simp only [if_pos h]; rfl
  · simp only [if_neg h]; rfl
def is1 (v : VV) : Bool := match v with
  | .inr (.inl _) => false
  | _ => true
theorem cat1_v {v : VV} (h : is1 v = true) : cat1 (emb v) = true := by
  rcases v with z | z | a
  · rfl
  · cases h
  · exact cat1_a a
theorem w_dup {v : VV} (he : (mG L (fun _ => 0)).1 M pc = some (.dup, nx, x, y)) (hv : is1 v = true) (hw : wp iv L Rp cs d M nx ls (v :: v :: st) s Q) : wp iv L Rp cs d M pc ls (v :: st) s Q :=
  wp_os he (fun h1 h2 => ⟨okS_c (okS_h h2) h2, fun h lc _ => by show (if cat1 (emb v) then okk nx (lc) (emb v :: emb v :: ems st) h else none) = _; rw [if_pos (cat1_v hv)]; rfl⟩) hw
theorem w_pop {v : VV} (he : (mG L (fun _ => 0)).1 M pc = some (.pop, nx, x, y)) (hv : is1 v = true) (hw : wp iv L Rp cs d M nx ls (st) s Q) : wp iv L Rp cs d M pc ls (v :: st) s Q :=
  wp_os he (fun h1 h2 => ⟨okS_t h2, fun h lc _ => by show (if cat1 (emb v) then okk nx (lc) (ems st) h else none) = _; rw [if_pos (cat1_v hv)]; rfl⟩) hw
theorem w_dup_x1 {v w : VV} (he : (mG L (fun _ => 0)).1 M pc = some (.dup_x1, nx, x, y)) (hv : is1 v = true) (hw1 : is1 w = true) (hw : wp iv L Rp cs d M nx ls (v :: w :: v :: st) s Q) : wp iv L Rp cs d M pc ls (v :: w :: st) s Q :=
  wp_os he (fun h1 h2 => ⟨okS_c (okS_h h2) (okS_c (okS_h (okS_t h2)) (okS_c (okS_h h2) (okS_t (okS_t h2)))), fun h lc _ => by show (if cat1 (emb v) && cat1 (emb w) then okk nx (lc) (emb v :: emb w :: emb v :: ems st) h else none) = _; rw [cat1_v hv, cat1_v hw1]; rfl⟩) hw
theorem w_dup2 {v w : VV} (he : (mG L (fun _ => 0)).1 M pc = some (.dup2, nx, x, y)) (hv : is1 v = true) (hw1 : is1 w = true) (hw : wp iv L Rp cs d M nx ls (v :: w :: v :: w :: st) s Q) : wp iv L Rp cs d M pc ls (v :: w :: st) s Q :=
  wp_os he (fun h1 h2 => ⟨okS_c (okS_h h2) (okS_c (okS_h (okS_t h2)) h2), fun h lc _ => by show (if cat1 (emb v) && cat1 (emb w) then okk nx (lc) (emb v :: emb w :: emb v :: emb w :: ems st) h else none) = _; rw [cat1_v hv, cat1_v hw1]; rfl⟩) hw
theorem w_goto {n : Int} (he : (mG L (fun _ => 0)).1 M pc = some (.goto n, nx, x, y)) (hw : wp iv L Rp cs d M x ls st s Q) : wp iv L Rp cs d M pc ls st s Q :=
  wp_os he (fun h1 h2 => ⟨h2, fun h lc _ => rfl⟩) hw
theorem w_iinc {k : Nat} {n z : Int} (he : (mG L (fun _ => 0)).1 M pc = some (.iinc k n, nx, x, y)) (hl : lk ls k = some (vi z)) (hk : Nat.blt k ((mG L (fun _ => 0)).2.1 M) = true) (hr : inR (z + n)) (hw : wp iv L Rp cs d M nx (st1 ls k (vi (z + n))) st s Q) : wp iv L Rp cs d M pc ls st s Q :=
  wp_on he (fun h1 h2 => ⟨okL_1 (v := vi _) h1 hr, h2, fun h lc hlc => ⟨_, relL_1 hlc _ _, by
    show (match lkl lc k with
      | some (.int a) => if k < (mG L (fun _ => 0)).2.1 M then okk nx (sto1 lc k (.int (a + Int32.ofInt n))) (ems st) h else none
      | some (.retAddr j) => if decide (k < (mG L (fun _ => 0)).2.1 M) && (decide (j < 4) && (decide (n = -1) && decide (iv.length ≤ 5))) then okk nx (sto1 lc k (.retAddr (j + 8))) (ems st) h else none
      | _ => none) = _
    rw [hlc _ _ hl]
    show (if k < (mG L (fun _ => 0)).2.1 M then okk nx (sto1 lc k (.int (Int32.ofInt z + Int32.ofInt n))) (ems st) h else none) = _
    rw [if_pos (show k < _ from Nat.le_of_ble_eq_true hk), ← Int32.ofInt_add]
    rfl⟩⟩) hw
theorem wp_end {i : Instr} {v : Option VV} (he : (mG L (fun _ => 0)).1 M pc = some (i, nx, x, y)) (hz : ∀ (h : MH) (lc : ML), stepI iv (mG L (fun _ => 0)) M pc i nx x y lc (ems st) h = some (Sum.inr (Sum.inr (Sum.inl (v.map emb))))) (ho : okS st → ∀ w, v = some w → okV w) (hq : Q v s) : wp iv L Rp cs d M pc ls st s Q := by
  intro h1 h2 H lc hl hr
  refine ⟨1, v, H, 0, 0, s, ?_, ho h2, hr, rfl, rfl, hq⟩
  rw [mrun_s]
  unfold mstep
  rw [he]
  simp only
  rw [hz H lc]
theorem w_iret {z : Int} (he : (mG L (fun _ => 0)).1 M pc = some (.ireturn, nx, x, y)) (hty : (mG L (fun _ => 0)).2.2.2.2.2.1 M = some .int) (hq : Q (some (vi z)) s) : wp iv L Rp cs d M pc ls [vi z] s Q :=
  wp_end (v := some (vi z)) he (fun h lc => by
    show (if isI (emb (vi z)) && (match (mG L (fun _ => 0)).2.2.2.2.2.1 M with
      | some ty => fitB ty (emb (vi z))
      | none => false) then some (Sum.inr (Sum.inr (Sum.inl (some (emb (vi z)))))) else none) = _
    rw [hty]
    rfl) (fun h2 w hw => by cases hw; exact okS_h h2) hq
theorem w_iretz {z : Int} (he : (mG L (fun _ => 0)).1 M pc = some (.ireturn, nx, x, y)) (hty : (mG L (fun _ => 0)).2.2.2.2.2.1 M = some .boolean) (hz : z = 0 ∨ z = 1) (hq : Q (some (vi z)) s) : wp iv L Rp cs d M pc ls [vi z] s Q :=
  wp_end (v := some (vi z)) he (fun h lc => by
    show (if isI (emb (vi z)) && (match (mG L (fun _ => 0)).2.2.2.2.2.1 M with
      | some ty => fitB ty (emb (vi z))
      | none => false) then some (Sum.inr (Sum.inr (Sum.inl (some (emb (vi z)))))) else none) = _
    rw [hty]
    rcases hz with rfl | rfl
    · rfl
    · rfl) (fun h2 w hw => by cases hw; exact okS_h h2) hq
theorem w_lret {z : Int} (he : (mG L (fun _ => 0)).1 M pc = some (.lreturn, nx, x, y)) (hty : (mG L (fun _ => 0)).2.2.2.2.2.1 M = some .long) (hq : Q (some (vl z)) s) : wp iv L Rp cs d M pc ls [vl z] s Q :=
  wp_end (v := some (vl z)) he (fun h lc => by
    show (if isL (emb (vl z)) && decide ((mG L (fun _ => 0)).2.2.2.2.2.1 M = some .long) then some (Sum.inr (Sum.inr (Sum.inl (some (emb (vl z)))))) else none) = _
    rw [hty]
    rfl) (fun h2 w hw => by cases hw; exact trivial) hq
theorem w_aret {a : Nat} {C : String} (he : (mG L (fun _ => 0)).1 M pc = some (.areturn, nx, x, y)) (hty : (mG L (fun _ => 0)).2.2.2.2.2.1 M = some (.object C)) (hq : Q (some (vr a)) s) : wp iv L Rp cs d M pc ls [vr a] s Q :=
  wp_end (v := some (vr a)) he (fun h lc => by
    show (if isR (emb (vr a)) && (match (mG L (fun _ => 0)).2.2.2.2.2.1 M with
      | some (.object _) => true
      | _ => false) then some (Sum.inr (Sum.inr (Sum.inl (some (emb (vr a)))))) else none) = _
    rw [hty, isR_em]
    rfl) (fun h2 w hw => by cases hw; exact trivial) hq
theorem w_ret (he : (mG L (fun _ => 0)).1 M pc = some (.return_, nx, x, y)) (hty : (mG L (fun _ => 0)).2.2.2.2.2.1 M = none) (hq : Q none s) : wp iv L Rp cs d M pc ls [] s Q :=
  wp_end (v := none) he (fun h lc => by
    show (if decide ((mG L (fun _ => 0)).2.2.2.2.2.1 M = none) && ([] : List Value).isEmpty then some (Sum.inr (Sum.inr (Sum.inl none))) else none) = _
    rw [hty]
    rfl) (fun _ w hw => by cases hw) hq
theorem mwid_em (st : List VV) : mwid (ems st) = (st.map cat2).sum := by
  unfold mwid ems
  rw [List.map_map]
  congr 1
  exact List.map_congr_left fun v _ => cat_em v
theorem wp_call {i : Instr} {as r : List VV} {cy pc' : Nat} (he : (mG L (fun _ => 0)).1 M pc = some (i, nx, x, y)) (hz : ∀ (h : MH) (lc : ML), Rp s h → stepI iv (mG L (fun _ => 0)) M pc i nx x y lc (ems st) h = some (.inr (.inl (cy, ems as, ems r, pc')))) (ho : okS st → okS as ∧ okS r) (hm : (Nat.ble (r.map cat2).sum 8 && (Nat.ble (as.map cat2).sum ((mG L (fun _ => 0)).2.1 cy) && Nat.ble ((mG L (fun _ => 0)).2.1 cy) 21)) = true)
    (hw : wc iv L Rp cs d cy as s (fun v s' => wp iv L Rp cs (d + 1) M pc' ls (v.toList ++ r) s' Q)) : wp iv L Rp cs (d + 1) M pc ls st s Q := by
  intro h1 h2 H lc hl hr
  obtain ⟨h3, h4⟩ := ho h2
  obtain ⟨f, v, h', k, n, s', q1, q2, q3, q4, q5, q6⟩ := hw (okL_ent as h3) (fun _ h => by cases h) H (ment 0 (ems as)) (fun i v h => by have := relL_ent as 0 i v h; rwa [Nat.zero_add] at this) hr
  have h5 : okS (v.toList ++ r) := fun w hw => by
    rcases List.mem_append.mp hw with h | h
    · exact q2 w (by cases v with
        | none => cases h
        | some u => rw [List.mem_singleton.mp h])
    · exact h4 w h
  have q1 : mrun iv (mG L (fun _ => 0)) f d cy 0 (ment 0 (ems as)) [] H 0 0 = some (v.map emb, h', k, n) := q1
  obtain ⟨f2, v2, h2', k2, n2, s2, p1, p2, p3, p4, p5, p6⟩ := q6 h1 h5 h' lc hl q3
  simp only [Bool.and_eq_true] at hm
  refine ⟨max f f2 + 1, v2, h2', k + k2, n + n2, s2, ?_, p2, p3, by omega, by omega, p6⟩
  rw [mrun_s]
  unfold mstep
  rw [he]
  simp only
  rw [hz H lc hr]
  simp only
  rw [if_pos (by rw [mwid_em, mwid_em]; simp only [Bool.and_eq_true, decide_eq_true_eq]; exact ⟨Nat.le_of_ble_eq_true hm.1, Nat.le_of_ble_eq_true hm.2.1, Nat.le_of_ble_eq_true hm.2.2⟩)]
  rw [mrun_f f (max f f2) d d _ _ _ _ _ _ _ _ (Nat.le_max_left ..) (Nat.le_refl _) q1]
  have p7 := mrun_k _ _ _ _ _ _ _ _ _ _ _ _ _ k n (mrun_f f2 (max f f2) (d + 1) (d + 1) _ _ _ _ _ _ _ _ (Nat.le_max_right ..) (Nat.le_refl _) p1)
  simp only [Nat.add_zero, Nat.zero_add] at p7 ⊢
  rw [← p7]
  congr 1
  unfold ems
  cases v <;> rfl
theorem w_static {n : Nat} {as r : List VV} (he : (mG L (fun _ => 0)).1 M pc = some (.invokestatic n, nx, x, y)) (hx : Nat.beq x 9000 = false) (hs : st = as.reverse ++ r) (hy : y = as.length) (hm : (Nat.ble (r.map cat2).sum 8 && (Nat.ble (as.map cat2).sum ((mG L (fun _ => 0)).2.1 x) && Nat.ble ((mG L (fun _ => 0)).2.1 x) 21)) = true)
    (hw : wc iv L Rp cs d x as s (fun v s' => wp iv L Rp cs (d + 1) M nx ls (v.toList ++ r) s' Q)) : wp iv L Rp cs (d + 1) M pc ls st s Q := by
  subst hs
  subst hy
  refine wp_call he (fun h lc _ => ?_) (fun h => ⟨fun w hw => h w (List.mem_append_left _ (List.mem_reverse.mpr hw)), fun w hw => h w (List.mem_append_right _ hw)⟩) hm hw
  show (if x = 9000 then _ else if as.length ≤ (ems (as.reverse ++ r)).length then some (Sum.inr (Sum.inl (x, ((ems (as.reverse ++ r)).take as.length).reverse, (ems (as.reverse ++ r)).drop as.length, nx))) else none) = _
  have hl : (ems as.reverse).length = as.length := by simp [ems]
  rw [if_neg (by intro h; rw [h] at hx; cases hx), show ems (as.reverse ++ r) = ems as.reverse ++ ems r from List.map_append, if_pos (by rw [List.length_append, hl]; omega), ← hl, List.take_left, List.drop_left]
  simp [ems]
/-! switches -/
def swA (W : Nat → Prop) (a lo : Int) (ts : List Nat) : Prop := match ts with
  | [] => True
  | t :: r => (a = lo → W t) ∧ swA W a (lo + 1) r
theorem swA_at {W : Nat → Prop} {a : Int} : ∀ (ts : List Nat) (lo : Int) (k t : Nat), swA W a lo ts → ts[k]? = some t → a = lo + k → W t := by
  intro ts
  induction ts with
  | nil => intro lo k t _ h _; cases h
  | cons u r ih =>
    intro lo k t h1 h2 h3
    cases k with
    | zero => cases h2; exact h1.1 (by omega)
    | succ k => exact ih (lo + 1) k t h1.2 h2 (by omega)
theorem swA_n {W : Nat → Prop} {a lo : Int} : swA W a lo [] := trivial
theorem swA_c {W : Nat → Prop} {a lo : Int} {t : Nat} {r : List Nat} (h1 : a = lo → W t) (h2 : swA W a (lo + 1) r) : swA W a lo (t :: r) := ⟨h1, h2⟩
theorem swAlts_find (iv : List (Int × Int)) {a : Int} (ha : inR a) : ∀ (ts : List Nat) (lo : Int) (k t : Nat), ts[k]? = some t → a = lo + k → -2147483648 ≤ lo → lo + ts.length ≤ 2147483648 → ∃ c, (swAlts (emb (vi a)) lo ts).find? (fun q => ent iv q.1) = some (c, t) := by
  intro ts
  induction ts with
  | nil => intro lo k t h; cases h
  | cons u r ih =>
    intro lo k t h1 h2 h3 h4
    have h5 : (u :: r).length = r.length + 1 := rfl
    have hlo : inR lo := by unfold inR; omega
    have he : ent iv (0, emb (vi a), Value.int (Int32.ofInt lo)) = decide (a = lo) := ent_i iv 0 ha hlo
    show ∃ c, (((0, emb (vi a), Value.int (Int32.ofInt lo)), u) :: swAlts (emb (vi a)) (lo + 1) r).find? _ = _
    cases k with
    | zero =>
      cases h1
      have h7 : a = lo := by omega
      exact ⟨_, List.find?_cons_of_pos (by show ent iv (0, emb (vi a), Value.int (Int32.ofInt lo)) = true; rw [he, decide_eq_true h7])⟩
    | succ k =>
      have h7 : ¬ a = lo := by omega
      rw [List.find?_cons_of_neg (by show ¬ ent iv (0, emb (vi a), Value.int (Int32.ofInt lo)) = true; rw [he, decide_eq_false h7]; decide)]
      exact ih (lo + 1) k t h1 (by omega) (by omega) (by omega)
theorem w_tsw {dd lo hi : Int} {offs : Array Int} {a : Int} {ts : List Nat} {td : Nat} (he : (mG L (fun _ => 0)).1 M pc = some (.tableswitch dd lo hi offs, nx, x, y)) (h1 : (decide (-2147483648 ≤ lo) && decide (hi ≤ 2147483647)) = true) (h2 : natI ((pc : Int) + dd) = td) (h3 : (offs.toList.map fun o => natI ((pc : Int) + o)) = ts) (h4 : decide (lo + ts.length = hi + 1) = true) (h5 : decide (lo ≤ hi) = true)
    (hd : a < lo ∨ hi < a → wp iv L Rp cs d M td ls st s Q) (hc : swA (fun t => wp iv L Rp cs d M t ls st s Q) a lo ts) : wp iv L Rp cs d M pc ls (vi a :: st) s Q := by
  intro g1 g2 H lc hl hr
  have ha := okS_h g2
  have hg := okS_t g2
  have h1' := h1
  simp only [Bool.and_eq_true, decide_eq_true_eq] at h1'
  have h4 := of_decide_eq_true h4
  have h5 := of_decide_eq_true h5
  have e1 : ent iv (2, emb (vi a), Value.int (Int32.ofInt lo)) = decide (a < lo) := ent_i iv 2 ha (by unfold inR; omega)
  have e2 : ent iv (4, emb (vi a), Value.int (Int32.ofInt hi)) = decide (hi < a) := ent_i iv 4 ha (by unfold inR; omega)
  have key : ∃ (t : Nat) (c : CD), wp iv L Rp cs d M t ls st s Q ∧ (((2, emb (vi a), Value.int (Int32.ofInt lo)), natI ((pc : Int) + dd)) :: ((4, emb (vi a), Value.int (Int32.ofInt hi)), natI ((pc : Int) + dd)) :: swAlts (emb (vi a)) lo (offs.toList.map fun o => natI ((pc : Int) + o))).find? (fun q => ent iv q.1) = some (c, t) := by
    by_cases c1 : a < lo
    · refine ⟨td, (2, emb (vi a), Value.int (Int32.ofInt lo)), hd (Or.inl c1), ?_⟩
      rw [List.find?_cons_of_pos (by show ent iv (2, emb (vi a), Value.int (Int32.ofInt lo)) = true; rw [e1, decide_eq_true c1]), h2]
    · rw [List.find?_cons_of_neg (by show ¬ ent iv (2, emb (vi a), Value.int (Int32.ofInt lo)) = true; rw [e1, decide_eq_false c1]; decide)]
      by_cases c2 : hi < a
      · refine ⟨td, (4, emb (vi a), Value.int (Int32.ofInt hi)), hd (Or.inr c2), ?_⟩
        rw [List.find?_cons_of_pos (by show ent iv (4, emb (vi a), Value.int (Int32.ofInt hi)) = true; rw [e2, decide_eq_true c2]), h2]
      · rw [List.find?_cons_of_neg (by show ¬ ent iv (4, emb (vi a), Value.int (Int32.ofInt hi)) = true; rw [e2, decide_eq_false c2]; decide), h3]
        have hk : (a - lo).toNat < ts.length := by omega
        obtain ⟨c, hf⟩ := swAlts_find iv ha ts lo (a - lo).toNat _ (List.getElem?_eq_getElem hk) (by omega) h1'.1 (by omega)
        exact ⟨_, c, swA_at ts lo (a - lo).toNat _ hc (List.getElem?_eq_getElem hk) (by omega), hf⟩
  obtain ⟨t, c, hw, hf⟩ := key
  obtain ⟨f, v, h', k, n, s', q1, q2⟩ := hw g1 hg H lc hl hr
  refine ⟨f + 1, v, h', k, n, s', ?_, q2⟩
  rw [mrun_s]
  unfold mstep
  rw [he]
  have hz : stepI iv (mG L (fun _ => 0)) M pc (.tableswitch dd lo hi offs) nx x y lc (ems (vi a :: st)) H = some (Sum.inr (Sum.inr (Sum.inr (((2, emb (vi a), Value.int (Int32.ofInt lo)), natI ((pc : Int) + dd)) :: ((4, emb (vi a), Value.int (Int32.ofInt hi)), natI ((pc : Int) + dd)) :: swAlts (emb (vi a)) lo (offs.toList.map fun o => natI ((pc : Int) + o)), lc, ems st)))) := by
    show (if decide (-2147483648 ≤ lo) && decide (hi ≤ 2147483647) then some (Sum.inr (Sum.inr (Sum.inr (((2, emb (vi a), Value.int (Int32.ofInt lo)), natI ((pc : Int) + dd)) :: ((4, emb (vi a), Value.int (Int32.ofInt hi)), natI ((pc : Int) + dd)) :: swAlts (emb (vi a)) lo (offs.toList.map fun o => natI ((pc : Int) + o)), lc, ems st)))) else none) = _
    rw [if_pos h1]
  simp only
  rw [hz]
  simp only
  rw [hf]
  exact q1
/-! texts, the row of parts -/
def strT (a : Nat) : List Int32 := (sstr[a - 8]?).getD []
def slen (a : Nat) : Int := ((strT a).length : Int)
def scat (a : Nat) (i : Int) : Int := ((strT a).getD i.toNat 0).toInt
theorem ns_le : NS0 ≤ sstr.length := by decide
theorem sstr_le : ∀ r ∈ sstr, r.length ≤ 100 := by decide
theorem str_at {a : Nat} (h : 8 ≤ a ∧ a < 8 + NS0) : mext L (fun _ => 0) a = some ((strT a).length, fun j => (strT a).getD j 0) ∧ (strT a).length ≤ 100 := by
  have h1 := ns_le
  have h2 : a - 8 < sstr.length := by omega
  have h3 : strT a = sstr[a - 8] := by unfold strT; rw [List.getElem?_eq_getElem h2]; rfl
  refine ⟨?_, by rw [h3]; exact sstr_le _ (List.getElem_mem h2)⟩
  unfold mext
  rw [if_neg (by omega), if_neg (by omega), if_neg (by omega), h3, List.getElem?_eq_getElem h2]
theorem w_slen {n a : Nat} (he : (mG L (fun _ => 0)).1 M pc = some (.invokevirtual n, nx, 9002, y)) (ha : 8 ≤ a ∧ a < 8 + NS0) (h8 : Nat.ble (st.map cat2).sum 8 = true) (hw : wp iv L Rp cs d M nx ls (vi (slen a) :: st) s Q) : wp iv L Rp cs d M pc ls (vr a :: st) s Q :=
  wp_os he (fun h1 h2 => ⟨okS_c (by have := (str_at (L := L) ha).2; unfold slen okV inR; simp only; omega) (okS_t h2), fun h lc _ => by
    show s1r (emb (vr a) :: ems st) (fun a r => if 8 ≤ a ∧ a < 8 + NS0 then (match (mG L (fun _ => 0)).2.2.1 a with
      | some (n, _) => if mwid r ≤ 8 then okk nx lc (.int (Int32.ofNat n) :: r) h else none
      | none => none) else none) = _
    unfold emb
    simp only [if_neg (show ¬ a = 2 by omega)]
    show (if 8 ≤ a ∧ a < 8 + NS0 then (match mext L (fun _ => 0) a with
      | some (n, _) => if mwid (ems st) ≤ 8 then okk nx lc (.int (Int32.ofNat n) :: ems st) h else none
      | none => none) else none) = _
    rw [if_pos ha, (str_at (L := L) ha).1]
    simp only
    rw [mwid_em, if_pos (Nat.le_of_ble_eq_true h8)]
    show okk nx lc (.int (Int32.ofNat (strT a).length) :: ems st) h = some (Sum.inl (nx, lc, .int (Int32.ofInt (slen a)) :: ems st, h, 0, 0))
    unfold slen
    rw [Int32.ofInt_eq_ofNat]
    rfl⟩) hw
theorem w_sat {n a : Nat} {i : Int} (he : (mG L (fun _ => 0)).1 M pc = some (.invokevirtual n, nx, 9001, y)) (ha : 8 ≤ a ∧ a < 8 + NS0) (hi : 0 ≤ i ∧ i < slen a) (h8 : Nat.ble (st.map cat2).sum 8 = true) (hw : wp iv L Rp cs d M nx ls (vi (scat a i) :: st) s Q) : wp iv L Rp cs d M pc ls (vi i :: vr a :: st) s Q :=
  wp_os he (fun h1 h2 => ⟨okS_c (by
      have h1 := ((strT a).getD i.toNat 0).toInt_lt
      have h2 := ((strT a).getD i.toNat 0).le_toInt
      unfold scat okV inR
      simp only
      omega) (okS_t (okS_t h2)), fun h lc _ => by
    have hr := okS_h h2
    show s1i (.int (Int32.ofInt i) :: emb (vr a) :: ems st) (fun i r => s1r r fun a r => if 8 ≤ a ∧ a < 8 + NS0 then (match (mG L (fun _ => 0)).2.2.1 a with
      | some (n, f) => if vin i n && decide (mwid r ≤ 8) then okk nx lc (.int (f i.toNatClampNeg) :: r) h else none
      | none => none) else none) = _
    unfold emb
    simp only [if_neg (show ¬ a = 2 by omega)]
    show (if 8 ≤ a ∧ a < 8 + NS0 then (match mext L (fun _ => 0) a with
      | some (n, f) => if vin (Int32.ofInt i) n && decide (mwid (ems st) ≤ 8) then okk nx lc (.int (f (Int32.ofInt i).toNatClampNeg) :: ems st) h else none
      | none => none) else none) = _
    rw [if_pos ha, (str_at (L := L) ha).1]
    simp only
    rw [i_vin hr hi.1 hi.2, mwid_em, decide_eq_true (Nat.le_of_ble_eq_true h8), i_cl hr]
    show okk nx lc (.int ((strT a).getD i.toNat 0) :: ems st) h = some (Sum.inl (nx, lc, .int (Int32.ofInt (scat a i)) :: ems st, h, 0, 0))
    unfold scat
    rw [Int32.ofInt_toInt]
    rfl⟩) hw
end
end
section
/-! What the reference holds: its numbers, its rows. Printed by wip/gen2/model.py. -/
/-- the fields: a number, or a row (where, of which type, how long) -/
def mfl : List (Option (Nat × Nat × Nat)) := [none, some (308, 0, 6), none, none, some (309, 0, 6000), some (310, 0, 6000), some (311, 0, 6000), some (312, 0, 6000), none, some (313, 0, 3004), some (314, 0, 3004), some (315, 0, 3004), some (316, 0, 3004), some (317, 0, 3004), some (318, 0, 9012), none, none, some (319, 0, 80), none, some (320, 0, 3004), some (321, 0, 3004), some (322, 0, 3004), some (323, 1, 64), none, none, some (324, 0, 20), some (325, 0, 20), some (326, 0, 1600), some (327, 0, 1600), some (328, 0, 4800), none, none, some (329, 0, 80), some (330, 0, 80), some (331, 0, 240), none, some (332, 2, 80), some (333, 0, 6), some (334, 0, 360), some (335, 0, 360), some (336, 0, 360), none, some (337, 0, 3004), some (338, 0, 64), some (339, 0, 64), none, some (340, 0, 2600), some (341, 0, 2600), some (342, 0, 2600), some (343, 0, 2600), some (344, 0, 2600), some (345, 2, 2600), none, some (346, 0, 33280), none, none, none, none, none, none, none, none, none, none, some (347, 0, 80), some (348, 0, 80), some (349, 1, 400), none, some (350, 0, 400), none, some (351, 0, 12), none, some (352, 0, 8), none]
/-- numbers by their fields, rows by theirs -/
abbrev SM : Type := (Nat → Int) × (Nat → Int → Int)
def us (s : SM) (y : Nat) (z : Int) : SM := (fun k => if k = y then z else s.1 k, s.2)
def ua (s : SM) (y : Nat) (i z : Int) : SM := (s.1, fun k j => if k = y ∧ j = i then z else s.2 k j)
def mfS (s : SM) (fs : List Value) (y : Nat) : Prop := match mfl[y]? with
  | some none => fs[y]? = some (.int (Int32.ofInt (s.1 y))) ∧ inR (s.1 y)
  | some (some (a, _, _)) => fs[y]? = some (.ref a)
  | none => True
def mfA (s : SM) (h : MH) (y a t n : Nat) : Prop := ∃ l, mget h a = some (.inl (t, n, .inl l)) ∧ ∀ j : Nat, j < n → rdI l j = .int (Int32.ofInt (s.2 y j)) ∧ inR (s.2 y j)
def RepM (h0 : MH) (s : SM) (h : MH) : Prop := (h.1 = h.2.length + 64 ∧ h.1 = h0.1) ∧ (∀ a, a < 307 ∨ 353 ≤ a → mget h a = mget h0 a) ∧ (∃ fs, mget h 307 = some (.inr (12, fs)) ∧ fs.length = 74 ∧ ∀ y, mfS s fs y) ∧ ∀ y a t n, mfl[y]? = some (some (a, t, n)) → mfA s h y a t n
def c0 (_ : SM) : Nat × Nat := (0, 0)
abbrev wm (iv : List (Int × Int)) (L : Nat) (h0 : MH) (d M pc : Nat) (ls : LV) (st : List VV) (s : SM) (Q : Option VV → SM → Prop) : Prop := wp iv L (RepM h0) c0 d M pc ls st s Q
abbrev cm (iv : List (Int × Int)) (L : Nat) (h0 : MH) (d M : Nat) (as : List VV) (s : SM) (Q : Option VV → SM → Prop) : Prop := wc iv L (RepM h0) c0 d M as s Q
theorem mget_put {h : MH} (hk : h.1 = h.2.length + 64) {a : Nat} {e0 e : ME} (hg : mget h a = some e0) (b : Nat) : mget (mput h a e) b = if b = a then some e else mget h b := by
  obtain ⟨h1, h2⟩ := mget_lt hk hg
  unfold mget mput
  simp only
  by_cases hb : b = a
  · subst hb
    rw [if_pos h2, if_pos rfl, List.getElem?_set_self (by omega)]
  · rw [if_neg hb]
    by_cases h3 : b < h.1
    · rw [if_pos h3, if_pos h3, List.getElem?_set_ne (by omega)]
    · rw [if_neg h3, if_neg h3]
theorem mfl_adr {y a t n : Nat} (h : mfl[y]? = some (some (a, t, n))) : 307 < a ∧ a < 353 := by
  have h1 : mfl.all (fun q => match q with
    | some (a, _, _) => decide (307 < a ∧ a < 353)
    | none => true) = true := by decide +kernel
  have h2 := List.all_eq_true.mp h1 _ (List.mem_of_getElem? h)
  exact of_decide_eq_true h2
theorem mfl_inj {y y' a t n t' n' : Nat} (h : mfl[y]? = some (some (a, t, n))) (h' : mfl[y']? = some (some (a, t', n'))) : y = y' := by
  have h1 : (List.range 74).all (fun i => (List.range 74).all (fun j => match mfl[i]?, mfl[j]? with
    | some (some (a, _, _)), some (some (b, _, _)) => decide (a = b → i = j)
    | _, _ => true)) = true := by decide +kernel
  have e1 := (List.getElem?_eq_some_iff.mp h).1
  have e2 := (List.getElem?_eq_some_iff.mp h').1
  have h2 := List.all_eq_true.mp (List.all_eq_true.mp h1 y (List.mem_range.mpr e1)) y' (List.mem_range.mpr e2)
  simp only [h, h'] at h2
  exact of_decide_eq_true h2 trivial
section
variable {iv : List (Int × Int)} {L : Nat} {h0 : MH} {d M pc nx x y : Nat} {ls : LV} {st : List VV} {s : SM} {Q : Option VV → SM → Prop}
theorem m_get {n : Nat} (he : (mG L (fun _ => 0)).1 M pc = some (.getfield n, nx, 12, y)) (hy : mfl[y]? = some none) (hw : wm iv L h0 d M nx ls (vi (s.1 y) :: st) s Q) : wm iv L h0 d M pc ls (vr 307 :: st) s Q :=
  wp_onh (s1 := s) he (fun h2 h lc hr => by
    obtain ⟨hk, hf, ⟨fs, g1, g2, g3⟩, hA⟩ := id hr
    have g4 := g3 y
    unfold mfS at g4
    rw [hy] at g4
    refine ⟨okS_c g4.2 (okS_t h2), h, 0, 0, ?_, hr, rfl, rfl⟩
    show (match mget h 307 with
      | some (.inr (ci, fs)) => if ci = 12 then (match fs[y]? with
        | some v => okk nx (lc) (v :: ems st) h
        | none => none) else none
      | _ => none) = _
    rw [g1]
    simp only [if_true, g4.1]
    rfl) hw
theorem m_geta {n a t k : Nat} (he : (mG L (fun _ => 0)).1 M pc = some (.getfield n, nx, 12, y)) (hy : mfl[y]? = some (some (a, t, k))) (hw : wm iv L h0 d M nx ls (vr a :: st) s Q) : wm iv L h0 d M pc ls (vr 307 :: st) s Q :=
  wp_onh (s1 := s) he (fun h2 h lc hr => by
    obtain ⟨hk, hf, ⟨fs, g1, g2, g3⟩, hA⟩ := id hr
    have g4 := g3 y
    unfold mfS at g4
    rw [hy] at g4
    refine ⟨okS_c trivial (okS_t h2), h, 0, 0, ?_, hr, rfl, rfl⟩
    show (match mget h 307 with
      | some (.inr (ci, fs)) => if ci = 12 then (match fs[y]? with
        | some v => okk nx (lc) (v :: ems st) h
        | none => none) else none
      | _ => none) = _
    rw [g1]
    simp only [if_true, g4]
    have := mfl_adr hy
    show okk nx (lc) (.ref a :: ems st) h = some (.inl (nx, lc, emb (vr a) :: ems st, h, 0, 0))
    unfold emb
    simp only [if_neg (show ¬ a = 2 by omega)]
    rfl) hw
theorem repm_us {s : SM} {h : MH} {z : Int} (hy : mfl[y]? = some none) (hz : inR z) (hr : RepM h0 s h) {fs : List Value} (hg : mget h 307 = some (.inr (12, fs))) : RepM h0 (us s y z) (mput h 307 (.inr (12, fs.set y (emb (vi z))))) := by
  obtain ⟨hk, hf, ⟨fs', g1, g2, g3⟩, hA⟩ := hr
  rw [hg] at g1
  cases g1
  refine ⟨⟨mput_ok hk.1 _ _, hk.2⟩, fun a ha => ?_, ⟨fs.set y (emb (vi z)), ?_, by rw [List.length_set]; exact g2, fun k => ?_⟩, fun k a t n hk2 => ?_⟩
  · rw [mget_put hk.1 hg, if_neg (by omega)]
    exact hf a ha
  · rw [mget_put hk.1 hg, if_pos rfl]
  · have g4 := g3 k
    unfold mfS at g4 ⊢
    by_cases hky : k = y
    · subst hky
      rw [hy]
      refine ⟨?_, ?_⟩
      · rw [List.getElem?_set_self (by have := (List.getElem?_eq_some_iff.mp hy).1; rw [g2]; exact this)]
        show some (emb (vi z)) = some (.int (Int32.ofInt (if k = k then z else s.1 k)))
        rw [if_pos rfl]
        rfl
      · show inR (if k = k then z else s.1 k)
        rw [if_pos rfl]
        exact hz
    · rw [List.getElem?_set_ne (Ne.symm hky)]
      show match mfl[k]? with
        | some none => fs[k]? = some (.int (Int32.ofInt (if k = y then z else s.1 k))) ∧ inR (if k = y then z else s.1 k)
        | some (some (a, _, _)) => fs[k]? = some (.ref a)
        | none => True
      rw [if_neg hky]
      exact g4
  · obtain ⟨l, l1, l2⟩ := hA k a t n hk2
    have := mfl_adr hk2
    exact ⟨l, by rw [mget_put hk.1 hg, if_neg (by omega)]; exact l1, l2⟩
theorem m_putg {n : Nat} {z : Int} (he : (mG L (fun _ => 0)).1 M pc = some (.putfield n, nx, 12, y)) (hy : mfl[y]? = some none) (hb : fitB ((mG L (fun _ => 0)).2.2.2.2.1 12 y) (emb (vi z)) = true) (hw : wm iv L h0 d M nx ls st (us s y z) Q) : wm iv L h0 d M pc ls (vi z :: vr 307 :: st) s Q :=
  wp_onh (s1 := us s y z) he (fun h2 h lc hr => by
    obtain ⟨hk, hf, ⟨fs, g1, g2, g3⟩, hA⟩ := id hr
    refine ⟨okS_t (okS_t h2), mput h 307 (.inr (12, fs.set y (emb (vi z)))), 0, 0, ?_, repm_us hy (okS_h h2) hr g1, rfl, rfl⟩
    show (match mget h 307 with
      | some (.inr (ci, fs)) => if ci = 12 && fitB ((mG L (fun _ => 0)).2.2.2.2.1 12 y) (emb (vi z)) && decide (y < fs.length) then okk nx (lc) (ems st) (mput h 307 (.inr (ci, fs.set y (emb (vi z))))) else none
      | _ => none) = _
    rw [g1]
    simp only
    rw [if_pos (by rw [hb, g2, decide_eq_true (show y < 74 from (List.getElem?_eq_some_iff.mp hy).1)]; rfl)]
    rfl) hw
theorem m_put {n : Nat} {z : Int} (he : (mG L (fun _ => 0)).1 M pc = some (.putfield n, nx, 12, y)) (hy : mfl[y]? = some none) (hb : (mG L (fun _ => 0)).2.2.2.2.1 12 y = .int) (hw : wm iv L h0 d M nx ls st (us s y z) Q) : wm iv L h0 d M pc ls (vi z :: vr 307 :: st) s Q := m_putg he hy (by rw [hb]; rfl) hw
theorem m_putz {n : Nat} {z : Int} (he : (mG L (fun _ => 0)).1 M pc = some (.putfield n, nx, 12, y)) (hy : mfl[y]? = some none) (hb : (mG L (fun _ => 0)).2.2.2.2.1 12 y = .boolean) (hz : z = 0 ∨ z = 1) (hw : wm iv L h0 d M nx ls st (us s y z) Q) : wm iv L h0 d M pc ls (vi z :: vr 307 :: st) s Q := m_putg he hy (by rw [hb]; rcases hz with rfl | rfl <;> rfl) hw
theorem m_irow {i : Int} {a t k : Nat} {h : MH} (hy : mfl[y]? = some (some (a, t, k))) (hr : RepM h0 s h) : ∃ l, irow iv (mG L (fun _ => 0)) h a t = some (k, rdI l) ∧ mget h a = some (.inl (t, k, .inl l)) ∧ ∀ j : Nat, j < k → rdI l j = .int (Int32.ofInt (s.2 y j)) ∧ inR (s.2 y j) := by
  obtain ⟨l, l1, l2⟩ := hr.2.2.2 y a t k hy
  have := mfl_adr hy
  refine ⟨l, ?_, l1, l2⟩
  unfold irow
  rw [if_neg (by omega), l1]
  simp only [if_true]
theorem m_ald {i : Int} {a k : Nat} (he : (mG L (fun _ => 0)).1 M pc = some (.iaload, nx, x, y)) {f : Nat} (hy : mfl[f]? = some (some (a, 0, k))) (hg : 0 ≤ i ∧ i < k) (hw : wm iv L h0 d M nx ls (vi (s.2 f i) :: st) s Q) : wm iv L h0 d M pc ls (vi i :: vr a :: st) s Q :=
  wp_onh (s1 := s) he (fun h2 h lc hr => by
    obtain ⟨l, l1, l2, l3⟩ := m_irow (i := i) (iv := iv) (L := L) hy hr
    have hi := okS_h h2
    have l4 := l3 i.toNat (by omega)
    rw [show ((i.toNat : Nat) : Int) = i by omega] at l4
    have ha := mfl_adr hy
    refine ⟨okS_c l4.2 (okS_t (okS_t h2)), h, 0, 0, ?_, hr, rfl, rfl⟩
    show s1i (.int (Int32.ofInt i) :: emb (vr a) :: ems st) (fun i r => s1r r fun a r => match irow iv (mG L (fun _ => 0)) h a 0 with
      | some (n, f) => if vin i n && isI (f i.toNatClampNeg) then okk nx (lc) (f i.toNatClampNeg :: r) h else none
      | none => none) = _
    unfold emb
    simp only [if_neg (show ¬ a = 2 by omega)]
    show (match irow iv (mG L (fun _ => 0)) h a 0 with
      | some (n, f) => if vin (Int32.ofInt i) n && isI (f (Int32.ofInt i).toNatClampNeg) then okk nx (lc) (f (Int32.ofInt i).toNatClampNeg :: ems st) h else none
      | none => none) = _
    rw [l1]
    simp only
    rw [i_vin hi hg.1 hg.2, i_cl hi, l4.1]
    rfl) hw
theorem m_bald {i : Int} {a k t : Nat} (he : (mG L (fun _ => 0)).1 M pc = some (.baload, nx, t, y)) {f : Nat} (hy : mfl[f]? = some (some (a, t, k))) (hg : 0 ≤ i ∧ i < k) (hw : wm iv L h0 d M nx ls (vi (s.2 f i) :: st) s Q) : wm iv L h0 d M pc ls (vi i :: vr a :: st) s Q :=
  wp_onh (s1 := s) he (fun h2 h lc hr => by
    obtain ⟨l, l1, l2, l3⟩ := m_irow (i := i) (iv := iv) (L := L) hy hr
    have hi := okS_h h2
    have l4 := l3 i.toNat (by omega)
    rw [show ((i.toNat : Nat) : Int) = i by omega] at l4
    have ha := mfl_adr hy
    refine ⟨okS_c l4.2 (okS_t (okS_t h2)), h, 0, 0, ?_, hr, rfl, rfl⟩
    show s1i (.int (Int32.ofInt i) :: emb (vr a) :: ems st) (fun i r => s1r r fun a r => match irow iv (mG L (fun _ => 0)) h a t with
      | some (n, f) => if vin i n && isI (f i.toNatClampNeg) then okk nx (lc) (f i.toNatClampNeg :: r) h else none
      | none => none) = _
    unfold emb
    simp only [if_neg (show ¬ a = 2 by omega)]
    show (match irow iv (mG L (fun _ => 0)) h a t with
      | some (n, f) => if vin (Int32.ofInt i) n && isI (f (Int32.ofInt i).toNatClampNeg) then okk nx (lc) (f (Int32.ofInt i).toNatClampNeg :: ems st) h else none
      | none => none) = _
    rw [l1]
    simp only
    rw [i_vin hi hg.1 hg.2, i_cl hi, l4.1]
    rfl) hw
theorem repm_ua {s : SM} {h : MH} {i z : Int} {f a t k : Nat} (hy : mfl[f]? = some (some (a, t, k))) (hz : inR z) (hg : 0 ≤ i ∧ i < k) (hr : RepM h0 s h) {l : List (Nat × Value)} (hm : mget h a = some (.inl (t, k, .inl l))) : RepM h0 (ua s f i z) (mput h a (.inl (t, k, .inl ((i.toNat, .int (Int32.ofInt z)) :: l)))) := by
  obtain ⟨hk, hf, ⟨fs, g1, g2, g3⟩, hA⟩ := hr
  have ha := mfl_adr hy
  refine ⟨⟨mput_ok hk.1 _ _, hk.2⟩, fun b hb => ?_, ⟨fs, ?_, g2, g3⟩, fun f2 a2 t2 n2 hf2 => ?_⟩
  · rw [mget_put hk.1 hm, if_neg (by omega)]
    exact hf b hb
  · rw [mget_put hk.1 hm, if_neg (by omega)]
    exact g1
  · obtain ⟨l2, q1, q2⟩ := hA f2 a2 t2 n2 hf2
    by_cases he : a2 = a
    · subst he
      have hff := mfl_inj hy hf2
      subst hff
      rw [hm] at q1
      cases q1
      refine ⟨(i.toNat, .int (Int32.ofInt z)) :: l, by rw [mget_put hk.1 hm, if_pos rfl], fun j hj => ?_⟩
      show (if j = i.toNat then Value.int (Int32.ofInt z) else rdI l j) = .int (Int32.ofInt (if f = f ∧ (j : Int) = i then z else s.2 f j)) ∧ inR (if f = f ∧ (j : Int) = i then z else s.2 f j)
      by_cases hji : j = i.toNat
      · rw [if_pos hji, if_pos (by omega)]
        exact ⟨rfl, hz⟩
      · rw [if_neg hji, if_neg (by omega)]
        exact q2 j hj
    · refine ⟨l2, by rw [mget_put hk.1 hm, if_neg he]; exact q1, fun j hj => ?_⟩
      have hff : ¬ f2 = f := fun e => he (by subst e; rw [hy] at hf2; cases hf2; rfl)
      show rdI l2 j = .int (Int32.ofInt (if f2 = f ∧ (j : Int) = i then z else s.2 f2 j)) ∧ inR (if f2 = f ∧ (j : Int) = i then z else s.2 f2 j)
      rw [if_neg (fun e => hff e.1)]
      exact q2 j hj
theorem m_ast {i z : Int} {a k : Nat} (he : (mG L (fun _ => 0)).1 M pc = some (.iastore, nx, x, y)) {f : Nat} (hy : mfl[f]? = some (some (a, 0, k))) (hg : 0 ≤ i ∧ i < k) (hw : wm iv L h0 d M nx ls st (ua s f i z) Q) : wm iv L h0 d M pc ls (vi z :: vi i :: vr a :: st) s Q :=
  wp_onh (s1 := ua s f i z) he (fun h2 h lc hr => by
    obtain ⟨l, l1, l2, l3⟩ := m_irow (i := i) (iv := iv) (L := L) hy hr
    have hi := okS_h (okS_t h2)
    have ha := mfl_adr hy
    refine ⟨okS_t (okS_t (okS_t h2)), _, 0, 0, ?_, repm_ua hy (okS_h h2) hg hr l2, rfl, rfl⟩
    show s1n (.int (Int32.ofInt z) :: .int (Int32.ofInt i) :: emb (vr a) :: ems st) (fun v r => s1i r fun i r => s1r r fun a r => match mget h a with
      | some (.inl (ti, n, .inl f)) => if ti = 0 && vin i n then okk nx (lc) r (mput h a (.inl (ti, n, .inl ((i.toNatClampNeg, v) :: f)))) else none
      | _ => none) = _
    unfold emb
    simp only [if_neg (show ¬ a = 2 by omega)]
    show (match mget h a with
      | some (.inl (ti, n, .inl f)) => if ti = 0 && vin (Int32.ofInt i) n then okk nx (lc) (ems st) (mput h a (.inl (ti, n, .inl (((Int32.ofInt i).toNatClampNeg, .int (Int32.ofInt z)) :: f)))) else none
      | _ => none) = _
    rw [l2]
    simp only
    rw [i_vin hi hg.1 hg.2, i_cl hi]
    rfl) hw
theorem m_bast {i z : Int} {a k t : Nat} (he : (mG L (fun _ => 0)).1 M pc = some (.bastore, nx, t, y)) {f : Nat} (hy : mfl[f]? = some (some (a, t, k))) (hg : 0 ≤ i ∧ i < k) (hz : (t = 1 ∧ -128 ≤ z ∧ z ≤ 127) ∨ (t = 2 ∧ (z = 0 ∨ z = 1))) (hw : wm iv L h0 d M nx ls st (ua s f i z) Q) : wm iv L h0 d M pc ls (vi z :: vi i :: vr a :: st) s Q :=
  wp_onh (s1 := ua s f i z) he (fun h2 h lc hr => by
    obtain ⟨l, l1, l2, l3⟩ := m_irow (i := i) (iv := iv) (L := L) hy hr
    have hi := okS_h (okS_t h2)
    have ha := mfl_adr hy
    refine ⟨okS_t (okS_t (okS_t h2)), _, 0, 0, ?_, repm_ua hy (okS_h h2) hg hr l2, rfl, rfl⟩
    show s1i (.int (Int32.ofInt z) :: .int (Int32.ofInt i) :: emb (vr a) :: ems st) (fun v r => s1i r fun i r => s1r r fun a r => match mget h a with
      | some (.inl (ti, n, .inl f)) => if ti = t && vin i n then (if t = 1 then okk nx (lc) r (mput h a (.inl (ti, n, .inl ((i.toNatClampNeg, .int (vp_nar .byte v)) :: f))))
          else if t = 2 then okk nx (lc) r (mput h a (.inl (ti, n, .inl ((i.toNatClampNeg, .int (vp_nar .boolean v)) :: f)))) else none) else none
      | _ => none) = _
    unfold emb
    simp only [if_neg (show ¬ a = 2 by omega)]
    show (match mget h a with
      | some (.inl (ti, n, .inl f)) => if ti = t && vin (Int32.ofInt i) n then (if t = 1 then okk nx (lc) (ems st) (mput h a (.inl (ti, n, .inl (((Int32.ofInt i).toNatClampNeg, .int (vp_nar .byte (Int32.ofInt z))) :: f))))
          else if t = 2 then okk nx (lc) (ems st) (mput h a (.inl (ti, n, .inl (((Int32.ofInt i).toNatClampNeg, .int (vp_nar .boolean (Int32.ofInt z))) :: f)))) else none) else none
      | _ => none) = _
    rw [l2]
    simp only
    rw [i_vin hi hg.1 hg.2, i_cl hi]
    simp only [decide_true, Bool.and_true, if_true]
    rcases hz with ⟨rfl, z1, z2⟩ | ⟨rfl, z1⟩
    · rw [if_pos rfl, show vp_nar .byte (Int32.ofInt z) = Int32.ofInt z from by
        show (Int32.ofInt z).toInt8.toInt32 = _
        rw [Int32.toInt8_ofInt, ← Int32.ofInt_int8ToInt, Int8.toInt_ofInt_of_le z1 (by omega)]]
      rfl
    · rw [if_neg (by decide), if_pos rfl]
      rcases z1 with rfl | rfl <;> rfl) hw
/-- a call of the reference's own -/
theorem m_call {n : Nat} {as r : List VV} (he : (mG L (fun _ => 0)).1 M pc = some (.invokevirtual n, nx, x, y)) (hx : (Nat.beq x 9001 || Nat.beq x 9002) = false) (hc : (mG L (fun _ => 0)).2.2.2.2.2.2 x = 12) (hs : st = as.reverse ++ (vr 307 :: r)) (hy : y = as.length) (hm : (Nat.ble (r.map cat2).sum 8 && (Nat.ble ((vr 307 :: as).map cat2).sum ((mG L (fun _ => 0)).2.1 x) && Nat.ble ((mG L (fun _ => 0)).2.1 x) 21)) = true)
    (hw : cm iv L h0 d x (vr 307 :: as) s (fun v s' => wm iv L h0 (d + 1) M nx ls (v.toList ++ r) s' Q)) : wm iv L h0 (d + 1) M pc ls st s Q := by
  subst hs
  subst hy
  refine wp_call he (fun h lc hr => ?_) (fun h => ⟨fun w hw => ?_, fun w hw => h w (List.mem_append_right _ (List.mem_cons_of_mem _ hw))⟩) hm hw
  · obtain ⟨hk, hf, ⟨fs, g1, g2, g3⟩, hA⟩ := id hr
    have h1 : ¬ x = 9001 := by intro h; rw [h] at hx; cases hx
    have h2 : ¬ x = 9002 := by intro h; rw [h] at hx; cases hx
    show (if x = 9001 then _ else if x = 9002 then _ else match (ems (as.reverse ++ (vr 307 :: r))).drop as.length with
      | .ref b :: r1 => (match mget h b with
        | some (.inr (ci, _)) => if ci = (mG L (fun _ => 0)).2.2.2.2.2.2 x then some (Sum.inr (Sum.inl (x, Value.ref b :: ((ems (as.reverse ++ (vr 307 :: r))).take as.length).reverse, r1, nx))) else none
        | _ => none)
      | _ => none) = _
    have hl : (ems as.reverse).length = as.length := by simp [ems]
    rw [if_neg h1, if_neg h2, show ems (as.reverse ++ (vr 307 :: r)) = ems as.reverse ++ (Value.ref 307 :: ems r) from List.map_append, ← hl, List.take_left, List.drop_left]
    simp only
    rw [g1]
    simp only
    rw [if_pos hc.symm]
    simp [ems, emb]
  · rcases List.mem_cons.mp hw with rfl | hw
    · trivial
    · exact h w (List.mem_append_left _ (List.mem_reverse.mpr hw))
end
end
section
/-! What the cells of the desk hold. Printed by wip/gen2/classes.py. -/
def crf : List (List Bool) := [[true, true, true, true, true, true, true, true, true, true, true, true, false, false, false, false], [true, true, true, true, true, false], [true], [true, true, true, true, false, false], [false, false, false, true, false, true, false, false, false, false, false, false, true], [true, true, false, false], [false, true, true], [true, true, true, false, false, true, false, false], [true, true, true, true, false, true], [false, false, true, true, true, true, false], [true, true, false, false, false, false, true], [true, false, true, false, true, true, false]]
def nfl (ci : Nat) : Nat := (crf.getD ci []).length
def isRf (ci y : Nat) : Bool := (crf.getD ci []).getD y false
/-- numbers and references of things, of rows; which kind of cell (0: none of these, 1 + which thing, 100 + which row), how long; the next number, slots -/
abbrev SC : Type := (Nat → Nat → Int) × (Nat → Nat → Nat) × (Nat → Int → Int) × (Nat → Int → Nat) × (Nat → Nat) × (Nat → Int) × Nat × Nat
def fI (c : SC) (a y : Nat) : Int := c.1 a y
def fR (c : SC) (a y : Nat) : Nat := c.2.1 a y
def aI (c : SC) (a : Nat) (i : Int) : Int := c.2.2.1 a i
def aR (c : SC) (a : Nat) (i : Int) : Nat := c.2.2.2.1 a i
def kl (c : SC) (a : Nat) : Nat := c.2.2.2.2.1 a
def le (c : SC) (a : Nat) : Int := c.2.2.2.2.2.1 a
def nxt (c : SC) : Nat := c.2.2.2.2.2.2.1
def slo (c : SC) : Nat := c.2.2.2.2.2.2.2
def uI (c : SC) (a y : Nat) (z : Int) : SC := (fun b k => if k = y ∧ b = a then z else c.1 b k, c.2)
def uR (c : SC) (a y : Nat) (z : Nat) : SC := (c.1, fun b k => if k = y ∧ b = a then z else c.2.1 b k, c.2.2)
def uA (c : SC) (a : Nat) (i z : Int) : SC := (c.1, c.2.1, fun b k => if b = a ∧ k = i then z else c.2.2.1 b k, c.2.2.2)
def uB (c : SC) (a : Nat) (i : Int) (z : Nat) : SC := (c.1, c.2.1, c.2.2.1, fun b k => if b = a ∧ k = i then z else c.2.2.2.1 b k, c.2.2.2.2)
/-- a new thing -/
def nO (c : SC) (ci : Nat) : SC := (fun b k => if b = nxt c then 0 else c.1 b k, fun b k => if b = nxt c then 2 else c.2.1 b k, c.2.2.1, c.2.2.2.1, fun b => if b = nxt c then ci + 1 else kl c b, c.2.2.2.2.2.1, nxt c + 1, slo c + nfl ci)
/-- a new row -/
def nA (c : SC) (t : Nat) (n : Int) : SC := (c.1, c.2.1, fun b k => if b = nxt c then 0 else c.2.2.1 b k, fun b k => if b = nxt c then 2 else c.2.2.2.1 b k, fun b => if b = nxt c then 100 + t else kl c b, fun b => if b = nxt c then n else c.2.2.2.2.2.1 b, nxt c + 1, slo c + n.toNat)
def rfq (a : Nat) : Option Nat := if a = 2 then none else some a
/-- a thing's cell -/
def obR (c : SC) (h : MH) (a ci : Nat) : Prop := ∃ fs, mget h a = some (.inr (ci, fs)) ∧ fs.length = nfl ci ∧ ∀ y, y < nfl ci → (isRf ci y = true → fs[y]? = some (emb (vr (fR c a y)))) ∧ (isRf ci y = false → fs[y]? = some (emb (vi (fI c a y))) ∧ inR (fI c a y))
/-- a row's -/
def arR (c : SC) (h : MH) (a t : Nat) : Prop := 0 ≤ le c a ∧ le c a ≤ 67108864 ∧ (t < 3 → ∃ l, mget h a = some (.inl (t, (le c a).toNat, .inl l)) ∧ ∀ j : Nat, (j : Int) < le c a → rdI l j = .int (Int32.ofInt (aI c a j)) ∧ inR (aI c a j)) ∧ (3 ≤ t → ∃ l, mget h a = some (.inl (t, (le c a).toNat, .inr l)) ∧ ∀ j : Nat, (j : Int) < le c a → rdQ l j = rfq (aR c a j))
def RepC (h0 : MH) (c : SC) (h : MH) : Prop := (h.1 = h.2.length + 64 ∧ h.1 = nxt c) ∧ (∀ a, kl c a ≠ 0 → 64 ≤ a ∧ a < nxt c ∧ ¬ (307 ≤ a ∧ a < 353)) ∧ (∀ a, 307 ≤ a → a < 353 → mget h a = mget h0 a) ∧ (∀ a ci, kl c a = ci + 1 → ci < 12 → obR c h a ci) ∧ (∀ a t, kl c a = 100 + t → t < 8 → arR c h a t)
def cc (c : SC) : Nat × Nat := (nxt c, slo c)
abbrev wk (iv : List (Int × Int)) (L : Nat) (h0 : MH) (d M pc : Nat) (ls : LV) (st : List VV) (s : SC) (Q : Option VV → SC → Prop) : Prop := wp iv L (RepC h0) cc d M pc ls st s Q
abbrev ck (iv : List (Int × Int)) (L : Nat) (h0 : MH) (d M : Nat) (as : List VV) (s : SC) (Q : Option VV → SC → Prop) : Prop := wc iv L (RepC h0) cc d M as s Q
theorem emb_r {a : Nat} (h : a ≠ 2) : emb (vr a) = .ref a := by
  unfold emb
  simp only [if_neg h]
theorem mget_push (h : MH) (hk : h.1 = h.2.length + 64) (e : ME) (b : Nat) : mget (mpush h e) b = if b = h.1 then some e else mget h b := by
  unfold mget mpush
  simp only
  by_cases h1 : b = h.1
  · rw [if_pos h1, if_pos (by omega), show h.1 + 1 - 1 - b = 0 by omega]
    rfl
  · rw [if_neg h1]
    by_cases h2 : b < h.1
    · rw [if_pos (by omega), if_pos h2, show h.1 + 1 - 1 - b = (h.1 - 1 - b) + 1 by omega]
      rfl
    · rw [if_neg (by omega), if_neg h2]
section
variable {iv : List (Int × Int)} {L : Nat} {h0 : MH} {d M pc nx x y : Nat} {ls : LV} {st : List VV} {c : SC} {Q : Option VV → SC → Prop}
/-- a cell that changes: the others stay -/
theorem repc_up {c c' : SC} {h h' : MH} {a : Nat} (hr : RepC h0 c h) (ha : kl c a ≠ 0) (hk : h'.1 = h'.2.length + 64) (h1 : h'.1 = h.1) (hg : ∀ b, b ≠ a → mget h' b = mget h b) (hkl : ∀ b, kl c' b = kl c b) (hn : nxt c' = nxt c)
    (hs : ∀ b, b ≠ a → (∀ k, fI c' b k = fI c b k) ∧ (∀ k, fR c' b k = fR c b k) ∧ (∀ k, aI c' b k = aI c b k) ∧ (∀ k, aR c' b k = aR c b k) ∧ le c' b = le c b) (hO : ∀ ci, kl c a = ci + 1 → ci < 12 → obR c' h' a ci) (hA : ∀ t, kl c a = 100 + t → t < 8 → arR c' h' a t) : RepC h0 c' h' := by
  obtain ⟨⟨r1, r2⟩, r3, r4, r5, r6⟩ := hr
  obtain ⟨a1, a2, a3⟩ := r3 a ha
  refine ⟨⟨hk, by rw [h1, hn]; exact r2⟩, fun b hb => by rw [hn]; exact r3 b (by rw [← hkl]; exact hb), fun b b1 b2 => by rw [hg b (by intro e; subst e; exact a3 ⟨b1, b2⟩)]; exact r4 b b1 b2, fun b ci hb hc => ?_, fun b t hb ht => ?_⟩
  · rw [hkl] at hb
    by_cases e : b = a
    · subst e; exact hO ci hb hc
    · obtain ⟨fs, q1, q2, q3⟩ := r5 b ci hb hc
      obtain ⟨s1, s2, -⟩ := hs b e
      exact ⟨fs, by rw [hg b e]; exact q1, q2, fun k hk => by rw [s1, s2]; exact q3 k hk⟩
  · rw [hkl] at hb
    by_cases e : b = a
    · subst e; exact hA t hb ht
    · obtain ⟨q1, q2, q3, q4⟩ := r6 b t hb ht
      obtain ⟨-, -, s3, s4, s5⟩ := hs b e
      unfold arR
      rw [s5, hg b e]
      exact ⟨q1, q2, fun h3 => by
        obtain ⟨l, p1, p2⟩ := q3 h3
        exact ⟨l, p1, fun j hj => by rw [s3]; exact p2 j hj⟩, fun h3 => by
        obtain ⟨l, p1, p2⟩ := q4 h3
        exact ⟨l, p1, fun j hj => by rw [s4]; exact p2 j hj⟩⟩
theorem c_big {h : MH} {a : Nat} (hr : RepC h0 c h) (ha : kl c a ≠ 0) : 64 ≤ a ∧ a ≠ 2 := by
  have := (hr.2.1 a ha).1
  omega
theorem c_get {n p : Nat} (he : (mG L (fun _ => 0)).1 M pc = some (.getfield n, nx, x, y)) (hx : (Nat.blt x 12 && Nat.blt y (nfl x)) = true) (hy : isRf x y = false) (hg : kl c p = x + 1) (hw : wk iv L h0 d M nx ls (vi (fI c p y) :: st) c Q) : wk iv L h0 d M pc ls (vr p :: st) c Q :=
  wp_onh (s1 := c) he (fun h2 h lc hr => by
    simp only [Bool.and_eq_true] at hx
    have hp := c_big hr (a := p) (by omega)
    obtain ⟨fs, q1, q2, q3⟩ := hr.2.2.2.1 p x hg (Nat.le_of_ble_eq_true hx.1)
    obtain ⟨q4, q5⟩ := (q3 y (Nat.le_of_ble_eq_true hx.2)).2 hy
    refine ⟨okS_c q5 (okS_t h2), h, 0, 0, ?_, hr, rfl, rfl⟩
    show s1r (emb (vr p) :: ems st) (fun a r => match mget h a with
      | some (.inr (ci, fs)) => if ci = x then (match fs[y]? with
        | some v => okk nx lc (v :: r) h
        | none => none) else none
      | _ => none) = _
    rw [emb_r hp.2]
    show (match mget h p with
      | some (.inr (ci, fs)) => if ci = x then (match fs[y]? with
        | some v => okk nx lc (v :: ems st) h
        | none => none) else none
      | _ => none) = _
    rw [q1]
    simp only [if_true, q4]
    rfl) hw
theorem c_getr {n p : Nat} (he : (mG L (fun _ => 0)).1 M pc = some (.getfield n, nx, x, y)) (hx : (Nat.blt x 12 && Nat.blt y (nfl x)) = true) (hy : isRf x y = true) (hg : kl c p = x + 1) (hw : wk iv L h0 d M nx ls (vr (fR c p y) :: st) c Q) : wk iv L h0 d M pc ls (vr p :: st) c Q :=
  wp_onh (s1 := c) he (fun h2 h lc hr => by
    simp only [Bool.and_eq_true] at hx
    have hp := c_big hr (a := p) (by omega)
    obtain ⟨fs, q1, q2, q3⟩ := hr.2.2.2.1 p x hg (Nat.le_of_ble_eq_true hx.1)
    have q4 := (q3 y (Nat.le_of_ble_eq_true hx.2)).1 hy
    refine ⟨okS_c trivial (okS_t h2), h, 0, 0, ?_, hr, rfl, rfl⟩
    show s1r (emb (vr p) :: ems st) (fun a r => match mget h a with
      | some (.inr (ci, fs)) => if ci = x then (match fs[y]? with
        | some v => okk nx lc (v :: r) h
        | none => none) else none
      | _ => none) = _
    rw [emb_r hp.2]
    show (match mget h p with
      | some (.inr (ci, fs)) => if ci = x then (match fs[y]? with
        | some v => okk nx lc (v :: ems st) h
        | none => none) else none
      | _ => none) = _
    rw [q1]
    simp only [if_true, q4]
    rfl) hw
theorem step_put {n p : Nat} {v : VV} {i : MH} {lc : ML} (hc : kl c p = x + 1) (hr : RepC h0 c i) (hx : (Nat.blt x 12 && Nat.blt y (nfl x)) = true) (hf : fitB ((mG L (fun _ => 0)).2.2.2.2.1 x y) (emb v) = true) : ∃ fs, mget i p = some (.inr (x, fs)) ∧ fs.length = nfl x ∧ stepI iv (mG L (fun _ => 0)) M pc (.putfield n) nx x y lc (ems (v :: vr p :: st)) i = some (.inl (nx, lc, ems st, mput i p (.inr (x, fs.set y (emb v))), 0, 0)) := by
  simp only [Bool.and_eq_true] at hx
  have hp := c_big hr (a := p) (by omega)
  obtain ⟨fs, q1, q2, q3⟩ := hr.2.2.2.1 p x hc (Nat.le_of_ble_eq_true hx.1)
  refine ⟨fs, q1, q2, ?_⟩
  show s1r (emb (vr p) :: ems st) (fun a r => match mget i a with
      | some (.inr (ci, fs)) => if ci = x && fitB ((mG L (fun _ => 0)).2.2.2.2.1 x y) (emb v) && decide (y < fs.length) then okk nx lc r (mput i a (.inr (ci, fs.set y (emb v)))) else none
      | _ => none) = _
  rw [emb_r hp.2]
  show (match mget i p with
      | some (.inr (ci, fs)) => if ci = x && fitB ((mG L (fun _ => 0)).2.2.2.2.1 x y) (emb v) && decide (y < fs.length) then okk nx lc (ems st) (mput i p (.inr (ci, fs.set y (emb v)))) else none
      | _ => none) = _
  rw [q1]
  simp only
  rw [if_pos (by rw [hf, q2, decide_eq_true (show y < nfl x from Nat.le_of_ble_eq_true hx.2)]; simp)]
  rfl
theorem c_putg {n p : Nat} {z : Int} (he : (mG L (fun _ => 0)).1 M pc = some (.putfield n, nx, x, y)) (hx : (Nat.blt x 12 && Nat.blt y (nfl x)) = true) (hy : isRf x y = false) (hf : fitB ((mG L (fun _ => 0)).2.2.2.2.1 x y) (emb (vi z)) = true) (hg : kl c p = x + 1) (hw : wk iv L h0 d M nx ls st (uI c p y z) Q) : wk iv L h0 d M pc ls (vi z :: vr p :: st) c Q :=
  wp_onh (s1 := uI c p y z) he (fun h2 h lc hr => by
    obtain ⟨fs, q1, q2, q3⟩ := step_put (iv := iv) (M := M) (pc := pc) (nx := nx) (st := st) (n := n) (lc := lc) hg hr hx hf
    refine ⟨okS_t (okS_t h2), _, 0, 0, q3, ?_, rfl, rfl⟩
    have hk := hr.1.1
    refine repc_up (a := p) hr (by omega) (mput_ok hk _ _) rfl (fun b hb => by rw [mget_put hk q1, if_neg hb]) (fun _ => rfl) rfl (fun b hb => ⟨fun k => ?_, fun _ => rfl, fun _ => rfl, fun _ => rfl, rfl⟩) (fun ci hci hc => ?_) (fun t ht ht8 => ?_)
    · show (if k = y ∧ b = p then z else c.1 b k) = c.1 b k
      rw [if_neg (fun e => hb e.2)]
    · obtain rfl : ci = x := by omega
      refine ⟨_, by rw [mget_put hk q1, if_pos rfl], by rw [List.length_set]; exact q2, fun k hk2 => ?_⟩
      obtain ⟨fs', p1, p2, p3⟩ := hr.2.2.2.1 p ci hg hc
      rw [q1] at p1
      cases p1
      by_cases e : k = y
      · subst e
        refine ⟨fun e => (by rw [hy] at e; cases e), fun _ => ?_⟩
        rw [List.getElem?_set_self (by omega)]
        show some (emb (vi z)) = some (emb (vi (if k = k ∧ p = p then z else c.1 p k))) ∧ inR (if k = k ∧ p = p then z else c.1 p k)
        rw [if_pos ⟨rfl, rfl⟩]
        exact ⟨rfl, okS_h h2⟩
      · rw [List.getElem?_set_ne (Ne.symm e)]
        have := p3 k hk2
        show (isRf ci k = true → fs[k]? = some (emb (vr (fR c p k)))) ∧ (isRf ci k = false → fs[k]? = some (emb (vi (if k = y ∧ p = p then z else c.1 p k))) ∧ inR (if k = y ∧ p = p then z else c.1 p k))
        rw [if_neg (fun q => e q.1)]
        exact this
    · simp only [Bool.and_eq_true] at hx
      have := Nat.le_of_ble_eq_true hx.1
      omega) hw
theorem c_put {n p : Nat} {z : Int} (he : (mG L (fun _ => 0)).1 M pc = some (.putfield n, nx, x, y)) (hx : (Nat.blt x 12 && Nat.blt y (nfl x)) = true) (hy : isRf x y = false) (hf : (mG L (fun _ => 0)).2.2.2.2.1 x y = .int) (hg : kl c p = x + 1) (hw : wk iv L h0 d M nx ls st (uI c p y z) Q) : wk iv L h0 d M pc ls (vi z :: vr p :: st) c Q := c_putg he hx hy (by rw [hf]; rfl) hg hw
theorem c_putz {n p : Nat} {z : Int} (he : (mG L (fun _ => 0)).1 M pc = some (.putfield n, nx, x, y)) (hx : (Nat.blt x 12 && Nat.blt y (nfl x)) = true) (hy : isRf x y = false) (hf : (mG L (fun _ => 0)).2.2.2.2.1 x y = .boolean) (hz : z = 0 ∨ z = 1) (hg : kl c p = x + 1) (hw : wk iv L h0 d M nx ls st (uI c p y z) Q) : wk iv L h0 d M pc ls (vi z :: vr p :: st) c Q := c_putg he hx hy (by rw [hf]; rcases hz with rfl | rfl <;> rfl) hg hw
def isRT (t : FieldType) : Bool := match t with
  | .object _ => true
  | .array _ => true
  | _ => false
theorem c_putr {n p z : Nat} (he : (mG L (fun _ => 0)).1 M pc = some (.putfield n, nx, x, y)) (hx : (Nat.blt x 12 && Nat.blt y (nfl x)) = true) (hy : isRf x y = true) (hf : isRT ((mG L (fun _ => 0)).2.2.2.2.1 x y) = true) (hg : kl c p = x + 1) (hw : wk iv L h0 d M nx ls st (uR c p y z) Q) : wk iv L h0 d M pc ls (vr z :: vr p :: st) c Q :=
  wp_onh (s1 := uR c p y z) he (fun h2 h lc hr => by
    obtain ⟨fs, q1, q2, q3⟩ := step_put (iv := iv) (M := M) (pc := pc) (nx := nx) (st := st) (n := n) (lc := lc) (v := vr z) hg hr hx (by
      cases hT : (mG L (fun _ => 0)).2.2.2.2.1 x y with
      | object s => exact isR_em z
      | array s => exact isR_em z
      | _ => rw [hT] at hf; cases hf)
    refine ⟨okS_t (okS_t h2), _, 0, 0, q3, ?_, rfl, rfl⟩
    have hk := hr.1.1
    refine repc_up (a := p) hr (by omega) (mput_ok hk _ _) rfl (fun b hb => by rw [mget_put hk q1, if_neg hb]) (fun _ => rfl) rfl (fun b hb => ⟨fun _ => rfl, fun k => ?_, fun _ => rfl, fun _ => rfl, rfl⟩) (fun ci hci hc => ?_) (fun t ht ht8 => ?_)
    · show (if k = y ∧ b = p then z else c.2.1 b k) = c.2.1 b k
      rw [if_neg (fun e => hb e.2)]
    · obtain rfl : ci = x := by omega
      refine ⟨_, by rw [mget_put hk q1, if_pos rfl], by rw [List.length_set]; exact q2, fun k hk2 => ?_⟩
      obtain ⟨fs', p1, p2, p3⟩ := hr.2.2.2.1 p ci hg hc
      rw [q1] at p1
      cases p1
      by_cases e : k = y
      · subst e
        refine ⟨fun _ => ?_, fun e => (by rw [hy] at e; cases e)⟩
        rw [List.getElem?_set_self (by omega)]
        show some (emb (vr z)) = some (emb (vr (if k = k ∧ p = p then z else c.2.1 p k)))
        rw [if_pos ⟨rfl, rfl⟩]
      · rw [List.getElem?_set_ne (Ne.symm e)]
        have := p3 k hk2
        show (isRf ci k = true → fs[k]? = some (emb (vr (if k = y ∧ p = p then z else c.2.1 p k)))) ∧ (isRf ci k = false → fs[k]? = some (emb (vi (fI c p k))) ∧ inR (fI c p k))
        rw [if_neg (fun q => e q.1)]
        exact this
    · simp only [Bool.and_eq_true] at hx
      have := Nat.le_of_ble_eq_true hx.1
      omega) hw
theorem c_ald {p : Nat} {i : Int} (he : (mG L (fun _ => 0)).1 M pc = some (.iaload, nx, x, y)) (hk : kl c p = 100) (hg : 0 ≤ i ∧ i < le c p) (hw : wk iv L h0 d M nx ls (vi (aI c p i) :: st) c Q) : wk iv L h0 d M pc ls (vi i :: vr p :: st) c Q :=
  wp_onh (s1 := c) he (fun h2 h lc hr => by
    have hp := c_big hr (a := p) (by omega)
    obtain ⟨q1, q2, q3, -⟩ := hr.2.2.2.2 p 0 hk (by decide)
    obtain ⟨l, l1, l2⟩ := q3 (by decide)
    have hi := okS_h h2
    have l4 := l2 i.toNat (by omega)
    rw [show ((i.toNat : Nat) : Int) = i by omega] at l4
    refine ⟨okS_c l4.2 (okS_t (okS_t h2)), h, 0, 0, ?_, hr, rfl, rfl⟩
    show s1r (emb (vr p) :: ems st) (fun a r => match irow iv (mG L (fun _ => 0)) h a 0 with
      | some (n, f) => if vin (Int32.ofInt i) n && isI (f (Int32.ofInt i).toNatClampNeg) then okk nx lc (f (Int32.ofInt i).toNatClampNeg :: r) h else none
      | none => none) = _
    rw [emb_r hp.2]
    show (match irow iv (mG L (fun _ => 0)) h p 0 with
      | some (n, f) => if vin (Int32.ofInt i) n && isI (f (Int32.ofInt i).toNatClampNeg) then okk nx lc (f (Int32.ofInt i).toNatClampNeg :: ems st) h else none
      | none => none) = _
    rw [show irow iv (mG L (fun _ => 0)) h p 0 = some ((le c p).toNat, rdI l) from by unfold irow; rw [if_neg (by omega), l1]; rfl]
    simp only
    rw [i_vin hi hg.1 (by omega), i_cl hi, l4.1]
    rfl) hw
theorem c_aald {p t : Nat} {i : Int} (he : (mG L (fun _ => 0)).1 M pc = some (.aaload, nx, x, y)) (hk : kl c p = 100 + t ∧ 3 ≤ t ∧ t < 8) (hg : 0 ≤ i ∧ i < le c p) (hw : wk iv L h0 d M nx ls (vr (aR c p i) :: st) c Q) : wk iv L h0 d M pc ls (vi i :: vr p :: st) c Q :=
  wp_onh (s1 := c) he (fun h2 h lc hr => by
    have hp := c_big hr (a := p) (by omega)
    obtain ⟨q1, q2, -, q3⟩ := hr.2.2.2.2 p t hk.1 hk.2.2
    obtain ⟨l, l1, l2⟩ := q3 hk.2.1
    have hi := okS_h h2
    have l4 := l2 i.toNat (by omega)
    rw [show ((i.toNat : Nat) : Int) = i by omega] at l4
    refine ⟨okS_c trivial (okS_t (okS_t h2)), h, 0, 0, ?_, hr, rfl, rfl⟩
    show s1r (emb (vr p) :: ems st) (fun a r => match mget h a with
      | some (.inl (ti, n, .inr f)) => if vin (Int32.ofInt i) n && (decide (3 ≤ ti) && decide (ti < 8)) then okk nx lc (va_rf (rdQ f (Int32.ofInt i).toNatClampNeg) :: r) h else none
      | _ => none) = _
    rw [emb_r hp.2]
    show (match mget h p with
      | some (.inl (ti, n, .inr f)) => if vin (Int32.ofInt i) n && (decide (3 ≤ ti) && decide (ti < 8)) then okk nx lc (va_rf (rdQ f (Int32.ofInt i).toNatClampNeg) :: ems st) h else none
      | _ => none) = _
    rw [l1]
    simp only
    rw [i_vin hi hg.1 (by omega), i_cl hi, l4, decide_eq_true hk.2.1, decide_eq_true hk.2.2]
    show okk nx lc (va_rf (rfq (aR c p i)) :: ems st) h = some (.inl (nx, lc, emb (vr (aR c p i)) :: ems st, h, 0, 0))
    unfold rfq emb
    by_cases e : aR c p i = 2
    · simp only [if_pos e]; rfl
    · simp only [if_neg e]; rfl) hw
theorem c_len {p : Nat} (he : (mG L (fun _ => 0)).1 M pc = some (.arraylength, nx, x, y)) (hk : 100 ≤ kl c p ∧ kl c p < 108) (hw : wk iv L h0 d M nx ls (vi (le c p) :: st) c Q) : wk iv L h0 d M pc ls (vr p :: st) c Q :=
  wp_onh (s1 := c) he (fun h2 h lc hr => by
    have hp := c_big hr (a := p) (by omega)
    obtain ⟨q1, q2, q3, q4⟩ := hr.2.2.2.2 p (kl c p - 100) (by omega) (by omega)
    have hm : ∃ f, mget h p = some (.inl (kl c p - 100, (le c p).toNat, f)) := by
      by_cases e : kl c p - 100 < 3
      · obtain ⟨l, l1, -⟩ := q3 e; exact ⟨_, l1⟩
      · obtain ⟨l, l1, -⟩ := q4 (by omega); exact ⟨_, l1⟩
    obtain ⟨f, hm⟩ := hm
    refine ⟨okS_c ⟨by omega, by omega⟩ (okS_t h2), h, 0, 0, ?_, hr, rfl, rfl⟩
    show s1r (emb (vr p) :: ems st) (fun a r => if a < 8 then (match (mG L (fun _ => 0)).2.2.1 a with
        | some (n, _) => okk nx lc (.int (Int32.ofNat n) :: r) h
        | none => none) else match mget h a with
      | some (.inl (ti, n, _)) => if ti < 8 then okk nx lc (.int (Int32.ofNat n) :: r) h else none
      | _ => none) = _
    rw [emb_r hp.2]
    show (if p < 8 then (match (mG L (fun _ => 0)).2.2.1 p with
        | some (n, _) => okk nx lc (.int (Int32.ofNat n) :: ems st) h
        | none => none) else match mget h p with
      | some (.inl (ti, n, _)) => if ti < 8 then okk nx lc (.int (Int32.ofNat n) :: ems st) h else none
      | _ => none) = _
    rw [if_neg (by omega), hm]
    simp only
    rw [if_pos (by omega)]
    show okk nx lc (.int (Int32.ofNat (le c p).toNat) :: ems st) h = some (.inl (nx, lc, .int (Int32.ofInt (le c p)) :: ems st, h, 0, 0))
    rw [← Int32.ofInt_eq_ofNat, show (((le c p).toNat : Nat) : Int) = le c p by omega]
    rfl) hw
theorem c_ast {p : Nat} {i z : Int} (he : (mG L (fun _ => 0)).1 M pc = some (.iastore, nx, x, y)) (hk : kl c p = 100) (hg : 0 ≤ i ∧ i < le c p) (hw : wk iv L h0 d M nx ls st (uA c p i z) Q) : wk iv L h0 d M pc ls (vi z :: vi i :: vr p :: st) c Q :=
  wp_onh (s1 := uA c p i z) he (fun h2 h lc hr => by
    have hp := c_big hr (a := p) (by omega)
    obtain ⟨q1, q2, q3, -⟩ := hr.2.2.2.2 p 0 hk (by decide)
    obtain ⟨l, l1, l2⟩ := q3 (by decide)
    have hi := okS_h (okS_t h2)
    have hk1 := hr.1.1
    refine ⟨okS_t (okS_t (okS_t h2)), mput h p (.inl (0, (le c p).toNat, .inl ((i.toNat, .int (Int32.ofInt z)) :: l))), 0, 0, ?_, ?_, rfl, rfl⟩
    · show s1r (emb (vr p) :: ems st) (fun a r => match mget h a with
        | some (.inl (ti, n, .inl f)) => if ti = 0 && vin (Int32.ofInt i) n then okk nx lc r (mput h a (.inl (ti, n, .inl (((Int32.ofInt i).toNatClampNeg, .int (Int32.ofInt z)) :: f)))) else none
        | _ => none) = _
      rw [emb_r hp.2]
      show (match mget h p with
        | some (.inl (ti, n, .inl f)) => if ti = 0 && vin (Int32.ofInt i) n then okk nx lc (ems st) (mput h p (.inl (ti, n, .inl (((Int32.ofInt i).toNatClampNeg, .int (Int32.ofInt z)) :: f)))) else none
        | _ => none) = _
      rw [l1]
      simp only
      rw [i_vin hi hg.1 (by omega), i_cl hi]
      rfl
    · refine repc_up (a := p) hr (by omega) (mput_ok hk1 _ _) rfl (fun b hb => by rw [mget_put hk1 l1, if_neg hb]) (fun _ => rfl) rfl (fun b hb => ⟨fun _ => rfl, fun _ => rfl, fun k => ?_, fun _ => rfl, rfl⟩) (fun ci hci hc => by omega) (fun t ht ht8 => ?_)
      · show (if b = p ∧ k = i then z else c.2.2.1 b k) = c.2.2.1 b k
        rw [if_neg (fun e => hb e.1)]
      · obtain rfl : t = 0 := by omega
        refine ⟨q1, q2, fun _ => ⟨_, by rw [mget_put hk1 l1, if_pos rfl]; rfl, fun j hj => ?_⟩, fun h => by omega⟩
        show (if j = i.toNat then Value.int (Int32.ofInt z) else rdI l j) = .int (Int32.ofInt (if p = p ∧ (j : Int) = i then z else c.2.2.1 p j)) ∧ inR (if p = p ∧ (j : Int) = i then z else c.2.2.1 p j)
        by_cases e : j = i.toNat
        · rw [if_pos e, if_pos ⟨rfl, by omega⟩]
          exact ⟨rfl, okS_h h2⟩
        · rw [if_neg e, if_neg (fun q => e (by omega))]
          exact l2 j hj) hw
theorem c_aast {p v : Nat} {i : Int} (he : (mG L (fun _ => 0)).1 M pc = some (.aastore, nx, x, y)) (h3 : (Nat.ble 3 x && Nat.blt x 8) = true) (hk : kl c p = 100 + x) (hg : 0 ≤ i ∧ i < le c p) (hv : v = 2 ∨ (kl c v = y + 1 ∧ y < 12)) (hw : wk iv L h0 d M nx ls st (uB c p i v) Q) : wk iv L h0 d M pc ls (vr v :: vi i :: vr p :: st) c Q :=
  wp_onh (s1 := uB c p i v) he (fun h2 h lc hr => by
    simp only [Bool.and_eq_true] at h3
    have hx3 := Nat.le_of_ble_eq_true h3.1
    have hx8 : x < 8 := Nat.le_of_ble_eq_true h3.2
    have hp := c_big hr (a := p) (by omega)
    obtain ⟨q1, q2, -, q3⟩ := hr.2.2.2.2 p x hk hx8
    obtain ⟨l, l1, l2⟩ := q3 hx3
    have hi := okS_h (okS_t h2)
    have hk1 := hr.1.1
    refine ⟨okS_t (okS_t (okS_t h2)), mput h p (.inl (x, (le c p).toNat, .inr ((i.toNat, rfq v) :: l))), 0, 0, ?_, ?_, rfl, rfl⟩
    · show s1i (.int (Int32.ofInt i) :: emb (vr p) :: ems st) (fun i r => s1r r fun a r => match mget h a with
        | some (.inl (ti, n, .inr f)) => if vin i n && decide (ti = x) then (match emb (vr v) with
          | .null => okk nx lc r (mput h a (.inl (ti, n, .inr ((i.toNatClampNeg, none) :: f))))
          | .ref b => (match mget h b with
            | some (.inr (ci, _)) => if ci = y then okk nx lc r (mput h a (.inl (ti, n, .inr ((i.toNatClampNeg, some b) :: f)))) else none
            | _ => none)
          | _ => none) else none
        | _ => none) = _
      rw [emb_r hp.2]
      show (match mget h p with
        | some (.inl (ti, n, .inr f)) => if vin (Int32.ofInt i) n && decide (ti = x) then (match emb (vr v) with
          | .null => okk nx lc (ems st) (mput h p (.inl (ti, n, .inr (((Int32.ofInt i).toNatClampNeg, none) :: f))))
          | .ref b => (match mget h b with
            | some (.inr (ci, _)) => if ci = y then okk nx lc (ems st) (mput h p (.inl (ti, n, .inr (((Int32.ofInt i).toNatClampNeg, some b) :: f)))) else none
            | _ => none)
          | _ => none) else none
        | _ => none) = _
      rw [l1]
      simp only
      rw [i_vin hi hg.1 (by omega), i_cl hi]
      simp only [decide_true, Bool.and_true, if_true]
      rcases hv with rfl | ⟨e1, e2⟩
      · rfl
      · have hb := c_big hr (a := v) (by omega)
        obtain ⟨fs, p1, -, -⟩ := hr.2.2.2.1 v y e1 e2
        rw [emb_r hb.2]
        simp only
        rw [p1]
        simp only [if_true]
        unfold rfq
        rw [if_neg hb.2]
        rfl
    · refine repc_up (a := p) hr (by omega) (mput_ok hk1 _ _) rfl (fun b hb => by rw [mget_put hk1 l1, if_neg hb]) (fun _ => rfl) rfl (fun b hb => ⟨fun _ => rfl, fun _ => rfl, fun _ => rfl, fun k => ?_, rfl⟩) (fun ci hci hc => by omega) (fun t ht ht8 => ?_)
      · show (if b = p ∧ k = i then v else c.2.2.2.1 b k) = c.2.2.2.1 b k
        rw [if_neg (fun e => hb e.1)]
      · obtain rfl : t = x := by omega
        refine ⟨q1, q2, fun h => by omega, fun _ => ⟨_, by rw [mget_put hk1 l1, if_pos rfl]; rfl, fun j hj => ?_⟩⟩
        show (if j = i.toNat then rfq v else rdQ l j) = rfq (if p = p ∧ (j : Int) = i then v else c.2.2.2.1 p j)
        by_cases e : j = i.toNat
        · rw [if_pos e, if_pos ⟨rfl, by omega⟩]
        · rw [if_neg e, if_neg (fun q => e (by omega))]
          exact l2 j hj) hw
/-- a cell more: the others stay -/
theorem repc_new {c c' : SC} {h : MH} {e : ME} (hr : RepC h0 c h) (h353 : 353 ≤ nxt c) (hkn : kl c' (nxt c) ≠ 0) (hkl : ∀ b, b ≠ nxt c → kl c' b = kl c b) (hn : nxt c' = nxt c + 1)
    (hs : ∀ b, b ≠ nxt c → (∀ k, fI c' b k = fI c b k) ∧ (∀ k, fR c' b k = fR c b k) ∧ (∀ k, aI c' b k = aI c b k) ∧ (∀ k, aR c' b k = aR c b k) ∧ le c' b = le c b) (hO : ∀ ci, kl c' (nxt c) = ci + 1 → ci < 12 → obR c' (mpush h e) (nxt c) ci) (hA : ∀ t, kl c' (nxt c) = 100 + t → t < 8 → arR c' (mpush h e) (nxt c) t) : RepC h0 c' (mpush h e) := by
  obtain ⟨⟨r1, r2⟩, r3, r4, r5, r6⟩ := hr
  have hg : ∀ b, b ≠ nxt c → mget (mpush h e) b = mget h b := fun b hb => by rw [mget_push h r1, if_neg (by omega)]
  refine ⟨⟨by show h.1 + 1 = (e :: h.2).length + 64; rw [List.length_cons]; omega, by show h.1 + 1 = _; omega⟩, fun b hb => ?_, fun b b1 b2 => by rw [hg b (by omega)]; exact r4 b b1 b2, fun b ci hb hc => ?_, fun b t hb ht => ?_⟩
  · by_cases e1 : b = nxt c
    · omega
    · rw [hkl b e1] at hb
      have := r3 b hb
      omega
  · by_cases e1 : b = nxt c
    · subst e1; exact hO ci hb hc
    · rw [hkl b e1] at hb
      obtain ⟨fs, q1, q2, q3⟩ := r5 b ci hb hc
      obtain ⟨s1, s2, -⟩ := hs b e1
      exact ⟨fs, by rw [hg b e1]; exact q1, q2, fun k hk => by rw [s1, s2]; exact q3 k hk⟩
  · by_cases e1 : b = nxt c
    · subst e1; exact hA t hb ht
    · rw [hkl b e1] at hb
      obtain ⟨q1, q2, q3, q4⟩ := r6 b t hb ht
      obtain ⟨-, -, s3, s4, s5⟩ := hs b e1
      unfold arR
      rw [s5, hg b e1]
      exact ⟨q1, q2, fun h3 => by
        obtain ⟨l, p1, p2⟩ := q3 h3
        exact ⟨l, p1, fun j hj => by rw [s3]; exact p2 j hj⟩, fun h3 => by
        obtain ⟨l, p1, p2⟩ := q4 h3
        exact ⟨l, p1, fun j hj => by rw [s4]; exact p2 j hj⟩⟩
theorem bls_ok : ∀ ci, ci < 12 → (bls.getD ci []).length = nfl ci ∧ ∀ y, y < nfl ci → (bls.getD ci [])[y]? = some (if isRf ci y then Value.null else .int 0) := by
  intro ci h
  have h1 : (List.range 12).all (fun ci => decide ((bls.getD ci []).length = nfl ci) && (List.range (nfl ci)).all (fun y => decide ((bls.getD ci [])[y]? = some (if isRf ci y then Value.null else .int 0)))) = true := by decide +kernel
  have h2 := List.all_eq_true.mp h1 ci (List.mem_range.mpr h)
  simp only [Bool.and_eq_true, decide_eq_true_eq] at h2
  exact ⟨h2.1, fun y hy => of_decide_eq_true (List.all_eq_true.mp h2.2 y (List.mem_range.mpr hy))⟩
theorem c_new {n : Nat} (he : (mG L (fun _ => 0)).1 M pc = some (.new n, nx, x, y)) (hx : Nat.blt x 12 = true) (hn : 353 ≤ nxt c) (hw : wk iv L h0 d M nx ls (vr (nxt c) :: st) (nO c x) Q) : wk iv L h0 d M pc ls st c Q :=
  wp_onh (s1 := nO c x) he (fun h2 h lc hr => by
    have hx12 : x < 12 := Nat.le_of_ble_eq_true hx
    obtain ⟨b1, b2⟩ := bls_ok x hx12
    have hk1 := hr.1
    refine ⟨okS_c trivial h2, mpush h (.inr (x, bls.getD x [])), 1, (bls.getD x []).length, ?_, ?_, rfl, by show slo c + _ = slo c + nfl x; rw [b1]⟩
    · show some (Sum.inl (nx, lc, .ref h.1 :: ems st, mpush h (.inr (x, bls.getD x [])), 1, (bls.getD x []).length)) = some (.inl (nx, lc, emb (vr (nxt c)) :: ems st, _, _, _))
      rw [emb_r (by omega), hk1.2]
    · refine repc_new hr hn (by show (if nxt c = nxt c then x + 1 else kl c (nxt c)) ≠ 0; rw [if_pos rfl]; omega) (fun b hb => by show (if b = nxt c then x + 1 else kl c b) = _; rw [if_neg hb]) rfl (fun b hb => ⟨fun k => by show (if b = nxt c then (0 : Int) else c.1 b k) = c.1 b k; rw [if_neg hb], fun k => by show (if b = nxt c then 2 else c.2.1 b k) = c.2.1 b k; rw [if_neg hb], fun _ => rfl, fun _ => rfl, rfl⟩) (fun ci hci hc => ?_) (fun t ht ht8 => ?_)
      · have : (if nxt c = nxt c then x + 1 else kl c (nxt c)) = ci + 1 := hci
        rw [if_pos rfl] at this
        obtain rfl : ci = x := by omega
        refine ⟨bls.getD ci [], by rw [mget_push h hk1.1, if_pos hk1.2.symm], b1, fun k hk => ?_⟩
        have hb2 := b2 k hk
        refine ⟨fun e => ?_, fun e => ?_⟩
        · rw [hb2, e]
          show some Value.null = some (emb (vr (if nxt c = nxt c then 2 else c.2.1 (nxt c) k)))
          rw [if_pos rfl]
          rfl
        · rw [hb2, e]
          show some (Value.int 0) = some (emb (vi (if nxt c = nxt c then 0 else c.1 (nxt c) k))) ∧ inR (if nxt c = nxt c then 0 else c.1 (nxt c) k)
          rw [if_pos rfl]
          exact ⟨rfl, by unfold inR; omega⟩
      · have : (if nxt c = nxt c then x + 1 else kl c (nxt c)) = 100 + t := ht
        rw [if_pos rfl] at this
        omega) hw
theorem c_newarr {i : Instr} {t : Nat} {n : Int} {f : MA} (ht : t < 8) (hf : (t < 3 ∧ f = .inl []) ∨ (3 ≤ t ∧ f = .inr [])) (he : (mG L (fun _ => 0)).1 M pc = some (i, nx, x, y)) (hi : ∀ (h : MH) (lc : ML), stepI iv (mG L (fun _ => 0)) M pc i nx x y lc (ems (vi n :: st)) h = if decide (0 ≤ Int32.ofInt n) && decide ((Int32.ofInt n).toNatClampNeg ≤ 67108864) then some (.inl (nx, lc, .ref h.1 :: ems st, mpush h (.inl (t, (Int32.ofInt n).toNatClampNeg, f)), 1, (Int32.ofInt n).toNatClampNeg)) else none) (hg : 0 ≤ n ∧ n ≤ 67108864) (hn : 353 ≤ nxt c) (hw : wk iv L h0 d M nx ls (vr (nxt c) :: st) (nA c t n) Q) : wk iv L h0 d M pc ls (vi n :: st) c Q :=
  wp_onh (s1 := nA c t n) he (fun h2 h lc hr => by
    have hnR := okS_h h2
    have hk1 := hr.1
    refine ⟨okS_c trivial (okS_t h2), mpush h (.inl (t, n.toNat, f)), 1, n.toNat, ?_, ?_, rfl, rfl⟩
    · rw [hi, i_cl hnR, if_pos (by simp only [Bool.and_eq_true, decide_eq_true_eq]; rw [Int32.le_iff_toInt_le, i_to hnR]; exact ⟨hg.1, by omega⟩)]
      show _ = some (Sum.inl (nx, lc, emb (vr (nxt c)) :: ems st, _, _, _))
      rw [emb_r (by omega), hk1.2]
    · refine repc_new hr hn (by show (if nxt c = nxt c then 100 + t else kl c (nxt c)) ≠ 0; rw [if_pos rfl]; omega) (fun b hb => by show (if b = nxt c then 100 + t else kl c b) = _; rw [if_neg hb]) rfl (fun b hb => ⟨fun _ => rfl, fun _ => rfl, fun k => by show (if b = nxt c then (0 : Int) else c.2.2.1 b k) = c.2.2.1 b k; rw [if_neg hb], fun k => by show (if b = nxt c then 2 else c.2.2.2.1 b k) = c.2.2.2.1 b k; rw [if_neg hb], by show (if b = nxt c then n else le c b) = le c b; rw [if_neg hb]⟩) (fun ci hci hc => ?_) (fun t1 ht1 ht8 => ?_)
      · have : (if nxt c = nxt c then 100 + t else kl c (nxt c)) = ci + 1 := hci
        rw [if_pos rfl] at this
        omega
      · have : (if nxt c = nxt c then 100 + t else kl c (nxt c)) = 100 + t1 := ht1
        rw [if_pos rfl] at this
        obtain rfl : t1 = t := by omega
        have hl : le (nA c t1 n) (nxt c) = n := by show (if nxt c = nxt c then n else _) = n; rw [if_pos rfl]
        unfold arR
        rw [hl, mget_push h hk1.1, if_pos hk1.2.symm]
        refine ⟨hg.1, hg.2, fun h3 => ?_, fun h3 => ?_⟩
        · rcases hf with ⟨-, rfl⟩ | ⟨h4, -⟩
          · refine ⟨[], rfl, fun j hj => ?_⟩
            show Value.int 0 = .int (Int32.ofInt (if nxt c = nxt c then 0 else c.2.2.1 (nxt c) j)) ∧ inR (if nxt c = nxt c then 0 else c.2.2.1 (nxt c) j)
            rw [if_pos rfl]
            exact ⟨rfl, by unfold inR; omega⟩
          · omega
        · rcases hf with ⟨h4, -⟩ | ⟨-, rfl⟩
          · omega
          · refine ⟨[], rfl, fun j hj => ?_⟩
            show (none : Option Nat) = rfq (if nxt c = nxt c then 2 else c.2.2.2.1 (nxt c) j)
            rw [if_pos rfl]
            rfl) hw
theorem c_newa {a : ArrayType} {n : Int} (he : (mG L (fun _ => 0)).1 M pc = some (.newarray a, nx, x, y)) (hx : Nat.blt x 3 = true) (hg : 0 ≤ n ∧ n ≤ 67108864) (hn : 353 ≤ nxt c) (hw : wk iv L h0 d M nx ls (vr (nxt c) :: st) (nA c x n) Q) : wk iv L h0 d M pc ls (vi n :: st) c Q :=
  c_newarr (f := .inl []) (by have : x < 3 := Nat.le_of_ble_eq_true hx; omega) (Or.inl ⟨Nat.le_of_ble_eq_true hx, rfl⟩) he (fun _ _ => rfl) hg hn hw
theorem c_anewa {k : Nat} {n : Int} (he : (mG L (fun _ => 0)).1 M pc = some (.anewarray k, nx, x, y)) (hx : (Nat.ble 3 x && Nat.blt x 8) = true) (hg : 0 ≤ n ∧ n ≤ 67108864) (hn : 353 ≤ nxt c) (hw : wk iv L h0 d M nx ls (vr (nxt c) :: st) (nA c x n) Q) : wk iv L h0 d M pc ls (vi n :: st) c Q := by
  simp only [Bool.and_eq_true] at hx
  exact c_newarr (f := .inr []) (Nat.le_of_ble_eq_true hx.2) (Or.inr ⟨Nat.le_of_ble_eq_true hx.1, rfl⟩) he (fun _ _ => rfl) hg hn hw
theorem c_null {n : Int} {p : Nat} (he : (mG L (fun _ => 0)).1 M pc = some (.ifnull n, nx, x, y)) (h1 : p = 2 → wk iv L h0 d M x ls st c Q) (h2 : p ≠ 2 → wk iv L h0 d M nx ls st c Q) : wk iv L h0 d M pc ls (vr p :: st) c Q := by
  by_cases e : p = 2
  · exact wp_os he (fun _ g => ⟨okS_t g, fun h lc _ => by subst e; rfl⟩) (h1 e)
  · refine wp_os he (fun _ g => ⟨okS_t g, fun h lc _ => ?_⟩) (h2 e)
    show s1 (emb (vr p) :: ems st) (fun v r => match v with
      | .null => okk x lc r h
      | .ref _ => okk nx lc r h
      | _ => none) = _
    rw [emb_r e]
    rfl
theorem c_nonnull {n : Int} {p : Nat} (he : (mG L (fun _ => 0)).1 M pc = some (.ifnonnull n, nx, x, y)) (h1 : p ≠ 2 → wk iv L h0 d M x ls st c Q) (h2 : p = 2 → wk iv L h0 d M nx ls st c Q) : wk iv L h0 d M pc ls (vr p :: st) c Q := by
  by_cases e : p = 2
  · exact wp_os he (fun _ g => ⟨okS_t g, fun h lc _ => by subst e; rfl⟩) (h2 e)
  · refine wp_os he (fun _ g => ⟨okS_t g, fun h lc _ => ?_⟩) (h1 e)
    show s1 (emb (vr p) :: ems st) (fun v r => match v with
      | .null => okk nx lc r h
      | .ref _ => okk x lc r h
      | _ => none) = _
    rw [emb_r e]
    rfl
theorem rfo_em (p : Nat) : rfo (emb (vr p)) = some (rfq p) := by
  unfold emb rfq
  by_cases e : p = 2
  · simp only [if_pos e]; rfl
  · simp only [if_neg e]; rfl
theorem rfq_big {p : Nat} (h : p = 2 ∨ 64 ≤ p) : big (rfq p) = true := by
  unfold rfq
  rcases h with rfl | h
  · rfl
  · rw [if_neg (by omega)]
    exact decide_eq_true h
theorem rfq_inj {p q : Nat} : rfq p = rfq q ↔ p = q := by
  unfold rfq
  constructor
  · intro h
    split at h <;> split at h
    · omega
    · cases h
    · cases h
    · cases h; rfl
  · intro h; rw [h]
theorem c_acmp_eq {n : Int} {p q : Nat} (he : (mG L (fun _ => 0)).1 M pc = some (.if_acmp .eq n, nx, x, y)) (hp : p = 2 ∨ 64 ≤ p) (hq : q = 2 ∨ 64 ≤ q) (h1 : p = q → wk iv L h0 d M x ls st c Q) (h2 : p ≠ q → wk iv L h0 d M nx ls st c Q) : wk iv L h0 d M pc ls (vr q :: vr p :: st) c Q := by
  have key : ∀ (h : MH) (lc : ML), stepI iv (mG L (fun _ => 0)) M pc (.if_acmp .eq n) nx x y lc (ems (vr q :: vr p :: st)) h = okk (if rfq p = rfq q then x else nx) lc (ems st) h := fun h lc => by
    show (match rfo (emb (vr q)), rfo (emb (vr p)) with
      | some a, some b => if big a && big b then okk (if b = a then x else nx) lc (ems st) h else none
      | _, _ => none) = _
    rw [rfo_em, rfo_em]
    simp only
    rw [rfq_big hp, rfq_big hq]
    rfl
  by_cases e : p = q
  · exact wp_os he (fun _ g => ⟨okS_t (okS_t g), fun h lc _ => by rw [key, if_pos (rfq_inj.mpr e)]; rfl⟩) (h1 e)
  · exact wp_os he (fun _ g => ⟨okS_t (okS_t g), fun h lc _ => by rw [key, if_neg (fun q => e (rfq_inj.mp q))]; rfl⟩) (h2 e)
theorem c_acmp_ne {n : Int} {p q : Nat} (he : (mG L (fun _ => 0)).1 M pc = some (.if_acmp .ne n, nx, x, y)) (hp : p = 2 ∨ 64 ≤ p) (hq : q = 2 ∨ 64 ≤ q) (h1 : p ≠ q → wk iv L h0 d M x ls st c Q) (h2 : p = q → wk iv L h0 d M nx ls st c Q) : wk iv L h0 d M pc ls (vr q :: vr p :: st) c Q := by
  have key : ∀ (h : MH) (lc : ML), stepI iv (mG L (fun _ => 0)) M pc (.if_acmp .ne n) nx x y lc (ems (vr q :: vr p :: st)) h = okk (if rfq p = rfq q then nx else x) lc (ems st) h := fun h lc => by
    show (match rfo (emb (vr q)), rfo (emb (vr p)) with
      | some a, some b => if big a && big b then okk (if b = a then nx else x) lc (ems st) h else none
      | _, _ => none) = _
    rw [rfo_em, rfo_em]
    simp only
    rw [rfq_big hp, rfq_big hq]
    rfl
  by_cases e : p = q
  · exact wp_os he (fun _ g => ⟨okS_t (okS_t g), fun h lc _ => by rw [key, if_pos (rfq_inj.mpr e)]; rfl⟩) (h2 e)
  · exact wp_os he (fun _ g => ⟨okS_t (okS_t g), fun h lc _ => by rw [key, if_neg (fun q => e (rfq_inj.mp q))]; rfl⟩) (h1 e)
/-- calls -/
theorem c_virt {n p : Nat} {as r : List VV} (he : (mG L (fun _ => 0)).1 M pc = some (.invokevirtual n, nx, x, y)) (hx : (Nat.beq x 9001 || Nat.beq x 9002) = false) (hc : Nat.blt ((mG L (fun _ => 0)).2.2.2.2.2.2 x) 12 = true) (hs : st = as.reverse ++ (vr p :: r)) (hy : y = as.length) (hm : (Nat.ble (r.map cat2).sum 8 && (Nat.ble ((vr p :: as).map cat2).sum ((mG L (fun _ => 0)).2.1 x) && Nat.ble ((mG L (fun _ => 0)).2.1 x) 21)) = true) (hg : kl c p = (mG L (fun _ => 0)).2.2.2.2.2.2 x + 1)
    (hw : ck iv L h0 d x (vr p :: as) c (fun v s' => wk iv L h0 (d + 1) M nx ls (v.toList ++ r) s' Q)) : wk iv L h0 (d + 1) M pc ls st c Q := by
  subst hs
  subst hy
  refine wp_call he (fun h lc hr => ?_) (fun h => ⟨fun w hw => ?_, fun w hw => h w (List.mem_append_right _ (List.mem_cons_of_mem _ hw))⟩) hm hw
  · have hp := c_big hr (a := p) (by omega)
    obtain ⟨fs, g1, -, -⟩ := hr.2.2.2.1 p _ hg (Nat.le_of_ble_eq_true hc)
    have h1 : ¬ x = 9001 := by intro h; rw [h] at hx; cases hx
    have h2 : ¬ x = 9002 := by intro h; rw [h] at hx; cases hx
    show (if x = 9001 then _ else if x = 9002 then _ else match (ems (as.reverse ++ (vr p :: r))).drop as.length with
      | .ref b :: r1 => (match mget h b with
        | some (.inr (ci, _)) => if ci = (mG L (fun _ => 0)).2.2.2.2.2.2 x then some (Sum.inr (Sum.inl (x, Value.ref b :: ((ems (as.reverse ++ (vr p :: r))).take as.length).reverse, r1, nx))) else none
        | _ => none)
      | _ => none) = _
    have hl : (ems as.reverse).length = as.length := by simp [ems]
    rw [if_neg h1, if_neg h2, show ems (as.reverse ++ (vr p :: r)) = ems as.reverse ++ (Value.ref p :: ems r) from by rw [← emb_r hp.2]; exact List.map_append, ← hl, List.take_left, List.drop_left]
    simp only
    rw [g1]
    simp only [if_true]
    simp [ems, emb_r hp.2]
  · rcases List.mem_cons.mp hw with rfl | hw
    · trivial
    · exact h w (List.mem_append_left _ (List.mem_reverse.mpr hw))
theorem c_spec {n p : Nat} {as r : List VV} (he : (mG L (fun _ => 0)).1 M pc = some (.invokespecial n, nx, x, y)) (hx : Nat.beq x 0 = false) (hs : st = as.reverse ++ (vr p :: r)) (hy : y = as.length) (hm : (Nat.ble (r.map cat2).sum 8 && (Nat.ble ((vr p :: as).map cat2).sum ((mG L (fun _ => 0)).2.1 x) && Nat.ble ((mG L (fun _ => 0)).2.1 x) 21)) = true) (hp : p ≠ 2)
    (hw : ck iv L h0 d x (vr p :: as) c (fun v s' => wk iv L h0 (d + 1) M nx ls (v.toList ++ r) s' Q)) : wk iv L h0 (d + 1) M pc ls st c Q := by
  subst hs
  subst hy
  refine wp_call he (fun h lc hr => ?_) (fun h => ⟨fun w hw => ?_, fun w hw => h w (List.mem_append_right _ (List.mem_cons_of_mem _ hw))⟩) hm hw
  · have h1 : ¬ x = 0 := by intro h; rw [h] at hx; cases hx
    show (if x = 0 then _ else match (ems (as.reverse ++ (vr p :: r))).drop as.length with
      | .ref b :: r1 => some (Sum.inr (Sum.inl (x, Value.ref b :: ((ems (as.reverse ++ (vr p :: r))).take as.length).reverse, r1, nx)))
      | _ => none) = _
    have hl : (ems as.reverse).length = as.length := by simp [ems]
    rw [if_neg h1, show ems (as.reverse ++ (vr p :: r)) = ems as.reverse ++ (Value.ref p :: ems r) from by rw [← emb_r hp]; exact List.map_append, ← hl, List.take_left, List.drop_left]
    simp [ems, emb_r hp]
  · rcases List.mem_cons.mp hw with rfl | hw
    · trivial
    · exact h w (List.mem_append_left _ (List.mem_reverse.mpr hw))
theorem c_oinit {n p : Nat} (he : (mG L (fun _ => 0)).1 M pc = some (.invokespecial n, nx, 0, y)) (h8 : Nat.ble (st.map cat2).sum 8 = true) (hp : p ≠ 2) (hw : wk iv L h0 d M nx ls st c Q) : wk iv L h0 d M pc ls (vr p :: st) c Q :=
  wp_os he (fun h1 h2 => ⟨okS_t h2, fun h lc _ => by
    show s1r (emb (vr p) :: ems st) (fun _ r => if mwid r ≤ 8 then okk nx lc r h else none) = _
    rw [emb_r hp]
    show (if mwid (ems st) ≤ 8 then okk nx lc (ems st) h else none) = _
    rw [mwid_em, if_pos (Nat.le_of_ble_eq_true h8)]
    rfl⟩) hw
theorem c_min {n : Nat} {a b : Int} (he : (mG L (fun _ => 0)).1 M pc = some (.invokestatic n, nx, 9000, y)) (h8 : Nat.ble (st.map cat2).sum 8 = true) (hw : wk iv L h0 d M nx ls (vi (if b < a then b else a) :: st) c Q) : wk iv L h0 d M pc ls (vi b :: vi a :: st) c Q :=
  wp_os he (fun h1 h2 => ⟨okS_c (by
    have ha := okS_h h2
    have hb := okS_h (okS_t h2)
    by_cases e : b < a
    · rw [if_pos e]; exact ha
    · rw [if_neg e]; exact hb) (okS_t (okS_t h2)), fun h lc _ => by
    have hb := okS_h h2
    have ha := okS_h (okS_t h2)
    show (if mwid (ems st) ≤ 8 then okk nx lc (.int (if Int32.ofInt b < Int32.ofInt a then Int32.ofInt b else Int32.ofInt a) :: ems st) h else none) = _
    rw [mwid_em, if_pos (Nat.le_of_ble_eq_true h8)]
    show okk nx lc _ h = some (.inl (nx, lc, .int (Int32.ofInt (if b < a then b else a)) :: ems st, h, 0, 0))
    simp only [Int32.lt_iff_toInt_lt, i_to ha, i_to hb]
    by_cases e : b < a
    · simp only [if_pos e]; rfl
    · simp only [if_neg e]; rfl⟩) hw
/-- how many parts a sort has -/
def pO (s : Int) : Int := (partsA.getD s.toNat 0).toInt
theorem pO_in (s : Int) : 0 ≤ pO s ∧ pO s ≤ 3 := by
  unfold pO
  have h1 : ∀ r ∈ partsA, 0 ≤ r.toInt ∧ r.toInt ≤ 3 := by decide
  rw [List.getD_eq_getElem?_getD]
  cases h : partsA[s.toNat]? with
  | none => decide
  | some r => exact h1 r (List.mem_of_getElem? h)
theorem w_pald {S : Type} {Rp : S → MH → Prop} {cs : S → Nat × Nat} {s : S} {Q : Option VV → S → Prop} {i : Int} (he : (mG L (fun _ => 0)).1 M pc = some (.iaload, nx, x, y)) (hg : 0 ≤ i ∧ i < 16) (hw : wp iv L Rp cs d M nx ls (vi (pO i) :: st) s Q) : wp iv L Rp cs d M pc ls (vi i :: vr 1 :: st) s Q :=
  wp_os he (fun h1 h2 => ⟨okS_c (by have := pO_in i; show inR _; unfold inR; omega) (okS_t (okS_t h2)), fun h lc _ => by
    have hi := okS_h h2
    show (if vin (Int32.ofInt i) 16 && true then okk nx lc (.int (partsA.getD (Int32.ofInt i).toNatClampNeg 0) :: ems st) h else none) = _
    rw [i_vin hi hg.1 (by omega), i_cl hi]
    show okk nx lc (.int (partsA.getD i.toNat 0) :: ems st) h = some (.inl (nx, lc, .int (Int32.ofInt (pO i)) :: ems st, h, 0, 0))
    unfold pO
    rw [Int32.ofInt_toInt]
    rfl⟩) hw
theorem w_plen {S : Type} {Rp : S → MH → Prop} {cs : S → Nat × Nat} {s : S} {Q : Option VV → S → Prop} (he : (mG L (fun _ => 0)).1 M pc = some (.arraylength, nx, x, y)) (hw : wp iv L Rp cs d M nx ls (vi 16 :: st) s Q) : wp iv L Rp cs d M pc ls (vr 1 :: st) s Q :=
  wp_os he (fun h1 h2 => ⟨okS_c (by show inR _; unfold inR; omega) (okS_t h2), fun h lc _ => rfl⟩) hw
end
end
section
/-! The smallest methods. -/
/-- HoleDeskModel.in(III)Z -/
theorem B60 {iv : List (Int × Int)} {L : Nat} {h0 : MH} {d : Nat} {s : SM} {a1 : Int} {a2 : Int} {a3 : Int} {F : Int → SM → Prop} (H : ((a1 < a2 → F 0 s) ∧ (a2 ≤ a1 → ((a3 < a1 → F 0 s) ∧ (a1 ≤ a3 → F 1 s))))) : cm iv L h0 d 60 [vi a1, vi a2, vi a3] s (qi F) := by
  show wm iv L h0 d 60 0 [li a1, li a2, li a3] [] s (qi F)
  refine w_iload_n rfl rfl ?_
  refine w_iload_n rfl rfl ?_
  refine w_icmp_lt rfl (fun h => ?_) (fun h => ?_)
  · replace H := H.1 h
    refine w_iconst (n := 0) rfl rfl ?_
    exact w_iretz rfl rfl (by decide) ⟨_, rfl, H⟩
  · replace H := H.2 h
    refine w_iload_n rfl rfl ?_
    refine w_iload_n rfl rfl ?_
    refine w_icmp_gt rfl (fun h => ?_) (fun h => ?_)
    · replace H := H.1 h
      refine w_iconst (n := 0) rfl rfl ?_
      exact w_iretz rfl rfl (by decide) ⟨_, rfl, H⟩
    · replace H := H.2 h
      refine w_iconst (n := 1) rfl rfl ?_
      refine w_goto rfl ?_
      exact w_iretz rfl rfl (by decide) ⟨_, rfl, H⟩

/-- HoleDeskModel.isKind(I)Z -/
theorem B67 {iv : List (Int × Int)} {L : Nat} {h0 : MH} {d : Nat} {s : SM} {a1 : Int} {F : Int → SM → Prop} (H : (-2147483648 ≤ (s.1 2) - 1 ∧ (s.1 2) - 1 ≤ 2147483647) ∧ cm iv L h0 d 60 [vi a1, vi 0, vi ((s.1 2) - 1)] s (qi fun r3 s2 => (r3 = 0 ∨ r3 = 1) ∧ F r3 s2)) : cm iv L h0 (d + 1) 67 [vr 307, vi a1] s (qi F) := by
  show wm iv L h0 (d + 1) 67 0 [lr 307, li a1] [] s (qi F)
  refine w_iload_n rfl rfl ?_
  refine w_iconst (n := 0) rfl rfl ?_
  refine w_aload_n rfl rfl ?_
  refine m_get rfl rfl ?_
  refine w_iconst (n := 1) rfl rfl ?_
  obtain ⟨g1, H⟩ := H
  refine w_isub rfl g1 ?_
  refine w_static (as := [vi a1, vi 0, vi ((s.1 2) - 1)]) (r := []) rfl rfl rfl rfl rfl (wc_mono H (Nat.le_refl _) ?_)
  rintro _ s2 ⟨r3, rfl, H⟩
  show wm iv L h0 (d + 1) 67 11 [lr 307, li a1] [vi r3] s2 (qi F)
  obtain ⟨g4, H⟩ := H
  exact w_iretz rfl rfl g4 ⟨_, rfl, H⟩

/-- HoleDeskModel.partsOf(I)I -/
theorem B73 {iv : List (Int × Int)} {L : Nat} {h0 : MH} {d : Nat} {s : SM} {a1 : Int} {F : Int → SM → Prop} (H : ((a1 = 0 ∨ a1 = 1 ∨ a1 = 2 ∨ a1 = 3 → F 0 s) ∧ (a1 = 4 ∨ a1 = 5 ∨ a1 = 6 ∨ a1 = 7 ∨ a1 = 9 ∨ a1 = 10 ∨ a1 = 12 ∨ a1 < 0 ∨ 15 < a1 → F 2 s) ∧ (a1 = 8 ∨ a1 = 13 ∨ a1 = 14 ∨ a1 = 15 → F 1 s) ∧ (a1 = 11 → F 3 s))) : cm iv L h0 d 73 [vi a1] s (qi F) := by
  show wm iv L h0 d 73 0 [li a1] [] s (qi F)
  refine w_iload_n rfl rfl ?_
  have J80 : (a1 = 0 ∨ a1 = 1 ∨ a1 = 2 ∨ a1 = 3) → wm iv L h0 d 73 80 [li a1] [] s (qi F) := fun h => by
    replace H := H.1 h
    refine w_iconst (n := 0) rfl rfl ?_
    exact w_iret rfl rfl ⟨_, rfl, H⟩
  have J86 : (a1 = 4 ∨ a1 = 5 ∨ a1 = 6 ∨ a1 = 7 ∨ a1 = 9 ∨ a1 = 10 ∨ a1 = 12 ∨ a1 < 0 ∨ 15 < a1) → wm iv L h0 d 73 86 [li a1] [] s (qi F) := fun h => by
    replace H := H.2.1 h
    refine w_iconst (n := 2) rfl rfl ?_
    exact w_iret rfl rfl ⟨_, rfl, H⟩
  have J82 : (a1 = 8 ∨ a1 = 13 ∨ a1 = 14 ∨ a1 = 15) → wm iv L h0 d 73 82 [li a1] [] s (qi F) := fun h => by
    replace H := H.2.2.1 h
    refine w_iconst (n := 1) rfl rfl ?_
    exact w_iret rfl rfl ⟨_, rfl, H⟩
  have J84 : (a1 = 11) → wm iv L h0 d 73 84 [li a1] [] s (qi F) := fun h => by
    replace H := H.2.2.2 h
    refine w_iconst (n := 3) rfl rfl ?_
    exact w_iret rfl rfl ⟨_, rfl, H⟩
  refine w_tsw (td := 86) (ts := [80, 80, 80, 80, 86, 86, 86, 86, 82, 86, 86, 84, 86, 82, 82, 82]) rfl rfl rfl rfl rfl rfl (fun h => J86 (by omega)) ?_
  exact swA_c (fun h => J80 (by omega)) (swA_c (fun h => J80 (by omega)) (swA_c (fun h => J80 (by omega)) (swA_c (fun h => J80 (by omega)) (swA_c (fun h => J86 (by omega)) (swA_c (fun h => J86 (by omega)) (swA_c (fun h => J86 (by omega)) (swA_c (fun h => J86 (by omega)) (swA_c (fun h => J82 (by omega)) (swA_c (fun h => J86 (by omega)) (swA_c (fun h => J86 (by omega)) (swA_c (fun h => J84 (by omega)) (swA_c (fun h => J86 (by omega)) (swA_c (fun h => J82 (by omega)) (swA_c (fun h => J82 (by omega)) (swA_c (fun h => J82 (by omega)) (swA_n))))))))))))))))

theorem wq {S : Type} {iv : List (Int × Int)} {L : Nat} {Rp : S → MH → Prop} {cs : S → Nat × Nat} {d M : Nat} {as : List VV} {s : S} {Q : Option VV → S → Prop} (h : wc iv L Rp cs d M as s (qi fun z t => Q (some (vi z)) t)) : wc iv L Rp cs d M as s Q := wc_mono h (Nat.le_refl _) (by rintro _ t ⟨z, rfl, h⟩; exact h)
theorem m_in {iv : List (Int × Int)} {L : Nat} {h0 : MH} {d : Nat} {s : SM} {a b c : Int} {Q : Option VV → SM → Prop} (h1 : b ≤ a ∧ a ≤ c → Q (some (vi 1)) s) (h2 : a < b ∨ c < a → Q (some (vi 0)) s) : cm iv L h0 d 60 [vi a, vi b, vi c] s Q := by
  refine wq (B60 ?_)
  constructor
  · intro h
    exact h2 (Or.inl h)
  · intro h
    constructor
    · intro h3
      exact h2 (Or.inr h3)
    · intro h3
      exact h1 ⟨h, h3⟩
theorem m_isKind {iv : List (Int × Int)} {L : Nat} {h0 : MH} {d : Nat} {s : SM} {a : Int} {Q : Option VV → SM → Prop} (hr : 3 ≤ s.1 2 ∧ s.1 2 ≤ 40) (h1 : 0 ≤ a ∧ a < s.1 2 → Q (some (vi 1)) s) (h2 : a < 0 ∨ s.1 2 ≤ a → Q (some (vi 0)) s) : cm iv L h0 (d + 1) 67 [vr 307, vi a] s Q := by
  refine wq (B67 ⟨by omega, m_in (fun h => ?_) (fun h => ?_)⟩)
  · exact ⟨1, rfl, Or.inr rfl, h1 (by omega)⟩
  · exact ⟨0, rfl, Or.inl rfl, h2 (by omega)⟩
theorem m_parts {iv : List (Int × Int)} {L : Nat} {h0 : MH} {d : Nat} {s : SM} {a : Int} {Q : Option VV → SM → Prop} (hg : 0 ≤ a ∧ a < 16) (h : Q (some (vi (pO a))) s) : cm iv L h0 d 73 [vi a] s Q := by
  refine wq (B73 ⟨fun e => ?_, fun e => ?_, fun e => ?_, fun e => ?_⟩)
  · have e1 : pO a = 0 := by rcases e with rfl | rfl | rfl | rfl <;> rfl
    rw [e1] at h
    exact h
  · have e1 : pO a = 2 := by rcases e with rfl | rfl | rfl | rfl | rfl | rfl | rfl | e | e <;> first | rfl | (exfalso; omega)
    rw [e1] at h
    exact h
  · have e1 : pO a = 1 := by rcases e with rfl | rfl | rfl | rfl <;> rfl
    rw [e1] at h
    exact h
  · have e1 : pO a = 3 := by subst e; rfl
    rw [e1] at h
    exact h
end
