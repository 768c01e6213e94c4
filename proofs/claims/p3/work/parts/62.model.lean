/-! What the reference holds: its numbers, its rows. Printed by wip/gen2/model.py. -/
/-- the fields: a number, or a row (where, of which type, how long) -/
def mfl : List (Option (Nat × Nat × Nat)) := [none, some (308, 0, 6), none, none, some (309, 0, 6000), some (310, 0, 6000), some (311, 0, 6000), some (312, 0, 6000), none, some (313, 0, 3004), some (314, 0, 3004), some (315, 0, 3004), some (316, 0, 3004), some (317, 0, 3004), some (318, 0, 9012), none, none, some (319, 0, 80), none, some (320, 0, 3004), some (321, 0, 3004), some (322, 0, 3004), some (323, 1, 64), none, none, some (324, 0, 20), some (325, 0, 20), some (326, 0, 1600), some (327, 0, 1600), some (328, 0, 4800), none, none, some (329, 0, 80), some (330, 0, 80), some (331, 0, 240), none, some (332, 2, 80), some (333, 0, 6), some (334, 0, 360), some (335, 0, 360), some (336, 0, 360), none, some (337, 0, 3004), some (338, 0, 64), some (339, 0, 64), none, some (340, 0, 2600), some (341, 0, 2600), some (342, 0, 2600), some (343, 0, 2600), some (344, 0, 2600), some (345, 2, 2600), none, some (346, 0, 33280), none, none, none, none, none, none, none, none, none, none, some (347, 0, 80), some (348, 0, 80), some (349, 1, 400), none, some (350, 0, 400), none, some (351, 0, 12), none, some (352, 0, 8), none]
/-- numbers by their fields, rows by theirs -/
abbrev SM : Type := (Nat → Int) × (Nat → Int → Int)
def us (s : SM) (y : Nat) (z : Int) : SM := (fun k => if k = y then z else s.1 k, s.2)
def ua (s : SM) (y : Nat) (i z : Int) : SM := (s.1, fun k j => if k = y ∧ j = i then z else s.2 k j)
def mfS (s : SM) (fs : List Value) (y : Nat) : Prop := match mfl[y]? with
  | some none => fs[y]? = some (.int (Int32.ofInt (s.1 y))) ∧ inR (s.1 y)
  | some (some (a, _, _)) => fs[y]? = some (.ref a)
  | none => True
def mfA (s : SM) (h : MH) (y a t n : Nat) : Prop := ∃ l, mget h a = some (.inl (t, n, .inl l)) ∧ ∀ j : Nat, j < n → rdI l j = .int (Int32.ofInt (s.2 y j)) ∧ inR (s.2 y j)
def RepM (h0 : MH) (s : SM) (h : MH) : Prop := (h.1 = h.2.length + 64 ∧ h.1 = h0.1) ∧ (∀ a, a < 307 ∨ 353 ≤ a → mget h a = mget h0 a) ∧ (∃ fs, mget h 307 = some (.inr (12, fs)) ∧ fs.length = 74 ∧ ∀ y, mfS s fs y) ∧ ∀ y a t n, mfl[y]? = some (some (a, t, n)) → mfA s h y a t n
def c0 (_ : SM) : Nat × Nat := (0, 0)
abbrev wm (iv : List (Int × Int)) (L : Nat) (h0 : MH) (d M pc : Nat) (ls : LV) (st : List VV) (s : SM) (Q : Option VV → SM → Prop) : Prop := wp iv L (RepM h0) c0 d M pc ls st s Q
abbrev cm (iv : List (Int × Int)) (L : Nat) (h0 : MH) (d M : Nat) (as : List VV) (s : SM) (Q : Option VV → SM → Prop) : Prop := wc iv L (RepM h0) c0 d M as s Q
theorem mget_put {h : MH} (hk : h.1 = h.2.length + 64) {a : Nat} {e0 e : ME} (hg : mget h a = some e0) (b : Nat) : mget (mput h a e) b = if b = a then some e else mget h b := by
  obtain ⟨h1, h2⟩ := mget_lt hk hg
  unfold mget mput
  simp only
  by_cases hb : b = a
  · subst hb
    rw [if_pos h2, if_pos rfl, List.getElem?_set_self (by omega)]
  · rw [if_neg hb]
    by_cases h3 : b < h.1
    · rw [if_pos h3, if_pos h3, List.getElem?_set_ne (by omega)]
    · rw [if_neg h3, if_neg h3]
theorem mfl_adr {y a t n : Nat} (h : mfl[y]? = some (some (a, t, n))) : 307 < a ∧ a < 353 := by
  have h1 : mfl.all (fun q => match q with
    | some (a, _, _) => decide (307 < a ∧ a < 353)
    | none => true) = true := by decide +kernel
  have h2 := List.all_eq_true.mp h1 _ (List.mem_of_getElem? h)
  exact of_decide_eq_true h2
theorem mfl_inj {y y' a t n t' n' : Nat} (h : mfl[y]? = some (some (a, t, n))) (h' : mfl[y']? = some (some (a, t', n'))) : y = y' := by
  have h1 : (List.range 74).all (fun i => (List.range 74).all (fun j => match mfl[i]?, mfl[j]? with
    | some (some (a, _, _)), some (some (b, _, _)) => decide (a = b → i = j)
    | _, _ => true)) = true := by decide +kernel
  have e1 := (List.getElem?_eq_some_iff.mp h).1
  have e2 := (List.getElem?_eq_some_iff.mp h').1
  have h2 := List.all_eq_true.mp (List.all_eq_true.mp h1 y (List.mem_range.mpr e1)) y' (List.mem_range.mpr e2)
  simp only [h, h'] at h2
  exact of_decide_eq_true h2 trivial
section
variable {iv : List (Int × Int)} {L : Nat} {h0 : MH} {d M pc nx x y : Nat} {ls : LV} {st : List VV} {s : SM} {Q : Option VV → SM → Prop}
theorem m_get {n : Nat} (he : (mG L (fun _ => 0)).1 M pc = some (.getfield n, nx, 12, y)) (hy : mfl[y]? = some none) (hw : wm iv L h0 d M nx ls (vi (s.1 y) :: st) s Q) : wm iv L h0 d M pc ls (vr 307 :: st) s Q :=
  wp_onh (s1 := s) he (fun h2 h lc hr => by
    obtain ⟨hk, hf, ⟨fs, g1, g2, g3⟩, hA⟩ := id hr
    have g4 := g3 y
    unfold mfS at g4
    rw [hy] at g4
    refine ⟨okS_c g4.2 (okS_t h2), h, 0, 0, ?_, hr, rfl, rfl⟩
    show (match mget h 307 with
      | some (.inr (ci, fs)) => if ci = 12 then (match fs[y]? with
        | some v => okk nx (lc) (v :: ems st) h
        | none => none) else none
      | _ => none) = _
    rw [g1]
    simp only [if_true, g4.1]
    rfl) hw
theorem m_geta {n a t k : Nat} (he : (mG L (fun _ => 0)).1 M pc = some (.getfield n, nx, 12, y)) (hy : mfl[y]? = some (some (a, t, k))) (hw : wm iv L h0 d M nx ls (vr a :: st) s Q) : wm iv L h0 d M pc ls (vr 307 :: st) s Q :=
  wp_onh (s1 := s) he (fun h2 h lc hr => by
    obtain ⟨hk, hf, ⟨fs, g1, g2, g3⟩, hA⟩ := id hr
    have g4 := g3 y
    unfold mfS at g4
    rw [hy] at g4
    refine ⟨okS_c trivial (okS_t h2), h, 0, 0, ?_, hr, rfl, rfl⟩
    show (match mget h 307 with
      | some (.inr (ci, fs)) => if ci = 12 then (match fs[y]? with
        | some v => okk nx (lc) (v :: ems st) h
        | none => none) else none
      | _ => none) = _
    rw [g1]
    simp only [if_true, g4]
    have := mfl_adr hy
    show okk nx (lc) (.ref a :: ems st) h = some (.inl (nx, lc, emb (vr a) :: ems st, h, 0, 0))
    unfold emb
    simp only [if_neg (show ¬ a = 2 by omega)]
    rfl) hw
theorem repm_us {s : SM} {h : MH} {z : Int} (hy : mfl[y]? = some none) (hz : inR z) (hr : RepM h0 s h) {fs : List Value} (hg : mget h 307 = some (.inr (12, fs))) : RepM h0 (us s y z) (mput h 307 (.inr (12, fs.set y (emb (vi z))))) := by
  obtain ⟨hk, hf, ⟨fs', g1, g2, g3⟩, hA⟩ := hr
  rw [hg] at g1
  cases g1
  refine ⟨⟨mput_ok hk.1 _ _, hk.2⟩, fun a ha => ?_, ⟨fs.set y (emb (vi z)), ?_, by rw [List.length_set]; exact g2, fun k => ?_⟩, fun k a t n hk2 => ?_⟩
  · rw [mget_put hk.1 hg, if_neg (by omega)]
    exact hf a ha
  · rw [mget_put hk.1 hg, if_pos rfl]
  · have g4 := g3 k
    unfold mfS at g4 ⊢
    by_cases hky : k = y
    · subst hky
      rw [hy]
      refine ⟨?_, ?_⟩
      · rw [List.getElem?_set_self (by have := (List.getElem?_eq_some_iff.mp hy).1; rw [g2]; exact this)]
        show some (emb (vi z)) = some (.int (Int32.ofInt (if k = k then z else s.1 k)))
        rw [if_pos rfl]
        rfl
      · show inR (if k = k then z else s.1 k)
        rw [if_pos rfl]
        exact hz
    · rw [List.getElem?_set_ne (Ne.symm hky)]
      show match mfl[k]? with
        | some none => fs[k]? = some (.int (Int32.ofInt (if k = y then z else s.1 k))) ∧ inR (if k = y then z else s.1 k)
        | some (some (a, _, _)) => fs[k]? = some (.ref a)
        | none => True
      rw [if_neg hky]
      exact g4
  · obtain ⟨l, l1, l2⟩ := hA k a t n hk2
    have := mfl_adr hk2
    exact ⟨l, by rw [mget_put hk.1 hg, if_neg (by omega)]; exact l1, l2⟩
theorem m_putg {n : Nat} {z : Int} (he : (mG L (fun _ => 0)).1 M pc = some (.putfield n, nx, 12, y)) (hy : mfl[y]? = some none) (hb : fitB ((mG L (fun _ => 0)).2.2.2.2.1 12 y) (emb (vi z)) = true) (hw : wm iv L h0 d M nx ls st (us s y z) Q) : wm iv L h0 d M pc ls (vi z :: vr 307 :: st) s Q :=
  wp_onh (s1 := us s y z) he (fun h2 h lc hr => by
    obtain ⟨hk, hf, ⟨fs, g1, g2, g3⟩, hA⟩ := id hr
    refine ⟨okS_t (okS_t h2), mput h 307 (.inr (12, fs.set y (emb (vi z)))), 0, 0, ?_, repm_us hy (okS_h h2) hr g1, rfl, rfl⟩
    show (match mget h 307 with
      | some (.inr (ci, fs)) => if ci = 12 && fitB ((mG L (fun _ => 0)).2.2.2.2.1 12 y) (emb (vi z)) && decide (y < fs.length) then okk nx (lc) (ems st) (mput h 307 (.inr (ci, fs.set y (emb (vi z))))) else none
      | _ => none) = _
    rw [g1]
    simp only
    rw [if_pos (by rw [hb, g2, decide_eq_true (show y < 74 from (List.getElem?_eq_some_iff.mp hy).1)]; rfl)]
    rfl) hw
theorem m_put {n : Nat} {z : Int} (he : (mG L (fun _ => 0)).1 M pc = some (.putfield n, nx, 12, y)) (hy : mfl[y]? = some none) (hb : (mG L (fun _ => 0)).2.2.2.2.1 12 y = .int) (hw : wm iv L h0 d M nx ls st (us s y z) Q) : wm iv L h0 d M pc ls (vi z :: vr 307 :: st) s Q := m_putg he hy (by rw [hb]; rfl) hw
theorem m_putz {n : Nat} {z : Int} (he : (mG L (fun _ => 0)).1 M pc = some (.putfield n, nx, 12, y)) (hy : mfl[y]? = some none) (hb : (mG L (fun _ => 0)).2.2.2.2.1 12 y = .boolean) (hz : z = 0 ∨ z = 1) (hw : wm iv L h0 d M nx ls st (us s y z) Q) : wm iv L h0 d M pc ls (vi z :: vr 307 :: st) s Q := m_putg he hy (by rw [hb]; rcases hz with rfl | rfl <;> rfl) hw
theorem m_irow {i : Int} {a t k : Nat} {h : MH} (hy : mfl[y]? = some (some (a, t, k))) (hr : RepM h0 s h) : ∃ l, irow iv (mG L (fun _ => 0)) h a t = some (k, rdI l) ∧ mget h a = some (.inl (t, k, .inl l)) ∧ ∀ j : Nat, j < k → rdI l j = .int (Int32.ofInt (s.2 y j)) ∧ inR (s.2 y j) := by
  obtain ⟨l, l1, l2⟩ := hr.2.2.2 y a t k hy
  have := mfl_adr hy
  refine ⟨l, ?_, l1, l2⟩
  unfold irow
  rw [if_neg (by omega), l1]
  simp only [if_true]
theorem m_ald {i : Int} {a k : Nat} (he : (mG L (fun _ => 0)).1 M pc = some (.iaload, nx, x, y)) {f : Nat} (hy : mfl[f]? = some (some (a, 0, k))) (hg : 0 ≤ i ∧ i < k) (hw : wm iv L h0 d M nx ls (vi (s.2 f i) :: st) s Q) : wm iv L h0 d M pc ls (vi i :: vr a :: st) s Q :=
  wp_onh (s1 := s) he (fun h2 h lc hr => by
    obtain ⟨l, l1, l2, l3⟩ := m_irow (i := i) (iv := iv) (L := L) hy hr
    have hi := okS_h h2
    have l4 := l3 i.toNat (by omega)
    rw [show ((i.toNat : Nat) : Int) = i by omega] at l4
    have ha := mfl_adr hy
    refine ⟨okS_c l4.2 (okS_t (okS_t h2)), h, 0, 0, ?_, hr, rfl, rfl⟩
    show s1i (.int (Int32.ofInt i) :: emb (vr a) :: ems st) (fun i r => s1r r fun a r => match irow iv (mG L (fun _ => 0)) h a 0 with
      | some (n, f) => if vin i n && isI (f i.toNatClampNeg) then okk nx (lc) (f i.toNatClampNeg :: r) h else none
      | none => none) = _
    unfold emb
    simp only [if_neg (show ¬ a = 2 by omega)]
    show (match irow iv (mG L (fun _ => 0)) h a 0 with
      | some (n, f) => if vin (Int32.ofInt i) n && isI (f (Int32.ofInt i).toNatClampNeg) then okk nx (lc) (f (Int32.ofInt i).toNatClampNeg :: ems st) h else none
      | none => none) = _
    rw [l1]
    simp only
    rw [i_vin hi hg.1 hg.2, i_cl hi, l4.1]
    rfl) hw
theorem m_bald {i : Int} {a k t : Nat} (he : (mG L (fun _ => 0)).1 M pc = some (.baload, nx, t, y)) {f : Nat} (hy : mfl[f]? = some (some (a, t, k))) (hg : 0 ≤ i ∧ i < k) (hw : wm iv L h0 d M nx ls (vi (s.2 f i) :: st) s Q) : wm iv L h0 d M pc ls (vi i :: vr a :: st) s Q :=
  wp_onh (s1 := s) he (fun h2 h lc hr => by
    obtain ⟨l, l1, l2, l3⟩ := m_irow (i := i) (iv := iv) (L := L) hy hr
    have hi := okS_h h2
    have l4 := l3 i.toNat (by omega)
    rw [show ((i.toNat : Nat) : Int) = i by omega] at l4
    have ha := mfl_adr hy
    refine ⟨okS_c l4.2 (okS_t (okS_t h2)), h, 0, 0, ?_, hr, rfl, rfl⟩
    show s1i (.int (Int32.ofInt i) :: emb (vr a) :: ems st) (fun i r => s1r r fun a r => match irow iv (mG L (fun _ => 0)) h a t with
      | some (n, f) => if vin i n && isI (f i.toNatClampNeg) then okk nx (lc) (f i.toNatClampNeg :: r) h else none
      | none => none) = _
    unfold emb
    simp only [if_neg (show ¬ a = 2 by omega)]
    show (match irow iv (mG L (fun _ => 0)) h a t with
      | some (n, f) => if vin (Int32.ofInt i) n && isI (f (Int32.ofInt i).toNatClampNeg) then okk nx (lc) (f (Int32.ofInt i).toNatClampNeg :: ems st) h else none
      | none => none) = _
    rw [l1]
    simp only
    rw [i_vin hi hg.1 hg.2, i_cl hi, l4.1]
    rfl) hw
theorem repm_ua {s : SM} {h : MH} {i z : Int} {f a t k : Nat} (hy : mfl[f]? = some (some (a, t, k))) (hz : inR z) (hg : 0 ≤ i ∧ i < k) (hr : RepM h0 s h) {l : List (Nat × Value)} (hm : mget h a = some (.inl (t, k, .inl l))) : RepM h0 (ua s f i z) (mput h a (.inl (t, k, .inl ((i.toNat, .int (Int32.ofInt z)) :: l)))) := by
  obtain ⟨hk, hf, ⟨fs, g1, g2, g3⟩, hA⟩ := hr
  have ha := mfl_adr hy
  refine ⟨⟨mput_ok hk.1 _ _, hk.2⟩, fun b hb => ?_, ⟨fs, ?_, g2, g3⟩, fun f2 a2 t2 n2 hf2 => ?_⟩
  · rw [mget_put hk.1 hm, if_neg (by omega)]
    exact hf b hb
  · rw [mget_put hk.1 hm, if_neg (by omega)]
    exact g1
  · obtain ⟨l2, q1, q2⟩ := hA f2 a2 t2 n2 hf2
    by_cases he : a2 = a
    · subst he
      have hff := mfl_inj hy hf2
      subst hff
      rw [hm] at q1
      cases q1
      refine ⟨(i.toNat, .int (Int32.ofInt z)) :: l, by rw [mget_put hk.1 hm, if_pos rfl], fun j hj => ?_⟩
      show (if j = i.toNat then Value.int (Int32.ofInt z) else rdI l j) = .int (Int32.ofInt (if f = f ∧ (j : Int) = i then z else s.2 f j)) ∧ inR (if f = f ∧ (j : Int) = i then z else s.2 f j)
      by_cases hji : j = i.toNat
      · rw [if_pos hji, if_pos (by omega)]
        exact ⟨rfl, hz⟩
      · rw [if_neg hji, if_neg (by omega)]
        exact q2 j hj
    · refine ⟨l2, by rw [mget_put hk.1 hm, if_neg he]; exact q1, fun j hj => ?_⟩
      have hff : ¬ f2 = f := fun e => he (by subst e; rw [hy] at hf2; cases hf2; rfl)
      show rdI l2 j = .int (Int32.ofInt (if f2 = f ∧ (j : Int) = i then z else s.2 f2 j)) ∧ inR (if f2 = f ∧ (j : Int) = i then z else s.2 f2 j)
      rw [if_neg (fun e => hff e.1)]
      exact q2 j hj
theorem m_ast {i z : Int} {a k : Nat} (he : (mG L (fun _ => 0)).1 M pc = some (.iastore, nx, x, y)) {f : Nat} (hy : mfl[f]? = some (some (a, 0, k))) (hg : 0 ≤ i ∧ i < k) (hw : wm iv L h0 d M nx ls st (ua s f i z) Q) : wm iv L h0 d M pc ls (vi z :: vi i :: vr a :: st) s Q :=
  wp_onh (s1 := ua s f i z) he (fun h2 h lc hr => by
    obtain ⟨l, l1, l2, l3⟩ := m_irow (i := i) (iv := iv) (L := L) hy hr
    have hi := okS_h (okS_t h2)
    have ha := mfl_adr hy
    refine ⟨okS_t (okS_t (okS_t h2)), _, 0, 0, ?_, repm_ua hy (okS_h h2) hg hr l2, rfl, rfl⟩
    show s1n (.int (Int32.ofInt z) :: .int (Int32.ofInt i) :: emb (vr a) :: ems st) (fun v r => s1i r fun i r => s1r r fun a r => match mget h a with
      | some (.inl (ti, n, .inl f)) => if ti = 0 && vin i n then okk nx (lc) r (mput h a (.inl (ti, n, .inl ((i.toNatClampNeg, v) :: f)))) else none
      | _ => none) = _
    unfold emb
    simp only [if_neg (show ¬ a = 2 by omega)]
    show (match mget h a with
      | some (.inl (ti, n, .inl f)) => if ti = 0 && vin (Int32.ofInt i) n then okk nx (lc) (ems st) (mput h a (.inl (ti, n, .inl (((Int32.ofInt i).toNatClampNeg, .int (Int32.ofInt z)) :: f)))) else none
      | _ => none) = _
    rw [l2]
    simp only
    rw [i_vin hi hg.1 hg.2, i_cl hi]
    rfl) hw
theorem m_bast {i z : Int} {a k t : Nat} (he : (mG L (fun _ => 0)).1 M pc = some (.bastore, nx, t, y)) {f : Nat} (hy : mfl[f]? = some (some (a, t, k))) (hg : 0 ≤ i ∧ i < k) (hz : (t = 1 ∧ -128 ≤ z ∧ z ≤ 127) ∨ (t = 2 ∧ (z = 0 ∨ z = 1))) (hw : wm iv L h0 d M nx ls st (ua s f i z) Q) : wm iv L h0 d M pc ls (vi z :: vi i :: vr a :: st) s Q :=
  wp_onh (s1 := ua s f i z) he (fun h2 h lc hr => by
    obtain ⟨l, l1, l2, l3⟩ := m_irow (i := i) (iv := iv) (L := L) hy hr
    have hi := okS_h (okS_t h2)
    have ha := mfl_adr hy
    refine ⟨okS_t (okS_t (okS_t h2)), _, 0, 0, ?_, repm_ua hy (okS_h h2) hg hr l2, rfl, rfl⟩
    show s1i (.int (Int32.ofInt z) :: .int (Int32.ofInt i) :: emb (vr a) :: ems st) (fun v r => s1i r fun i r => s1r r fun a r => match mget h a with
      | some (.inl (ti, n, .inl f)) => if ti = t && vin i n then (if t = 1 then okk nx (lc) r (mput h a (.inl (ti, n, .inl ((i.toNatClampNeg, .int (vp_nar .byte v)) :: f))))
          else if t = 2 then okk nx (lc) r (mput h a (.inl (ti, n, .inl ((i.toNatClampNeg, .int (vp_nar .boolean v)) :: f)))) else none) else none
      | _ => none) = _
    unfold emb
    simp only [if_neg (show ¬ a = 2 by omega)]
    show (match mget h a with
      | some (.inl (ti, n, .inl f)) => if ti = t && vin (Int32.ofInt i) n then (if t = 1 then okk nx (lc) (ems st) (mput h a (.inl (ti, n, .inl (((Int32.ofInt i).toNatClampNeg, .int (vp_nar .byte (Int32.ofInt z))) :: f))))
          else if t = 2 then okk nx (lc) (ems st) (mput h a (.inl (ti, n, .inl (((Int32.ofInt i).toNatClampNeg, .int (vp_nar .boolean (Int32.ofInt z))) :: f)))) else none) else none
      | _ => none) = _
    rw [l2]
    simp only
    rw [i_vin hi hg.1 hg.2, i_cl hi]
    simp only [decide_true, Bool.and_true, if_true]
    rcases hz with ⟨rfl, z1, z2⟩ | ⟨rfl, z1⟩
    · rw [if_pos rfl, show vp_nar .byte (Int32.ofInt z) = Int32.ofInt z from by
        show (Int32.ofInt z).toInt8.toInt32 = _
        rw [Int32.toInt8_ofInt, ← Int32.ofInt_int8ToInt, Int8.toInt_ofInt_of_le z1 (by omega)]]
      rfl
    · rw [if_neg (by decide), if_pos rfl]
      rcases z1 with rfl | rfl <;> rfl) hw
/-- a call of the reference's own -/
theorem m_call {n : Nat} {as r : List VV} (he : (mG L (fun _ => 0)).1 M pc = some (.invokevirtual n, nx, x, y)) (hx : (Nat.beq x 9001 || Nat.beq x 9002) = false) (hc : (mG L (fun _ => 0)).2.2.2.2.2.2 x = 12) (hs : st = as.reverse ++ (vr 307 :: r)) (hy : y = as.length) (hm : (Nat.ble (r.map cat2).sum 8 && (Nat.ble ((vr 307 :: as).map cat2).sum ((mG L (fun _ => 0)).2.1 x) && Nat.ble ((mG L (fun _ => 0)).2.1 x) 21)) = true)
    (hw : cm iv L h0 d x (vr 307 :: as) s (fun v s' => wm iv L h0 (d + 1) M nx ls (v.toList ++ r) s' Q)) : wm iv L h0 (d + 1) M pc ls st s Q := by
  subst hs
  subst hy
  refine wp_call he (fun h lc hr => ?_) (fun h => ⟨fun w hw => ?_, fun w hw => h w (List.mem_append_right _ (List.mem_cons_of_mem _ hw))⟩) hm hw
  · obtain ⟨hk, hf, ⟨fs, g1, g2, g3⟩, hA⟩ := id hr
    have h1 : ¬ x = 9001 := by intro h; rw [h] at hx; cases hx
    have h2 : ¬ x = 9002 := by intro h; rw [h] at hx; cases hx
    show (if x = 9001 then _ else if x = 9002 then _ else match (ems (as.reverse ++ (vr 307 :: r))).drop as.length with
      | .ref b :: r1 => (match mget h b with
        | some (.inr (ci, _)) => if ci = (mG L (fun _ => 0)).2.2.2.2.2.2 x then some (Sum.inr (Sum.inl (x, Value.ref b :: ((ems (as.reverse ++ (vr 307 :: r))).take as.length).reverse, r1, nx))) else none
        | _ => none)
      | _ => none) = _
    have hl : (ems as.reverse).length = as.length := by simp [ems]
    rw [if_neg h1, if_neg h2, show ems (as.reverse ++ (vr 307 :: r)) = ems as.reverse ++ (Value.ref 307 :: ems r) from List.map_append, ← hl, List.take_left, List.drop_left]
    simp only
    rw [g1]
    simp only
    rw [if_pos hc.symm]
    simp [ems, emb]
  · rcases List.mem_cons.mp hw with rfl | hw
    · trivial
    · exact h w (List.mem_append_left _ (List.mem_reverse.mpr hw))
end
