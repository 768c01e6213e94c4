/-! Writing: bytes, numbers, words. -/
def outB (o : List Int) (x : Int) : List Int := if 400 ≤ o.length then o else o ++ [w8 x]
def dgs : Nat → Int → List Int
  | 0, _ => []
  | k + 1, z => z % 10 :: (if 0 < z / 10 then dgs k (z / 10) else [])
def p10 : Nat → Int
  | 0 => 1
  | k + 1 => 10 * p10 k
def outN (z : Int) (o : List Int) : List Int := ((dgs 10 (if z < 0 then -z else z)).reverse).foldl (fun o x => outB o (48 + x)) (if z < 0 then outB o 45 else o)
def outW (a : Nat) (o : List Int) : List Int := (strT a).foldl (fun o c => outB o c.toInt) o
/-- the bytes written -/
def BY (w : SM) (o : List Int) : Prop := (w.1 67 = o.length ∧ o.length ≤ 400) ∧ ∀ (k : Nat) (x : Int), o[k]? = some x → w.2 66 k = x
def DG (w : SM) (D : List Int) : Prop := ∀ (k : Nat) (x : Int), D[k]? = some x → w.2 70 k = x
theorem w8_b (z : Int) : -128 ≤ w8 z ∧ w8 z ≤ 127 := by
  have h1 := Int8.le_toInt (Int8.ofInt z)
  have h2 := Int8.toInt_lt (Int8.ofInt z)
  unfold w8
  omega
theorem outB_len (o : List Int) (x : Int) : o.length ≤ (outB o x).length ∧ (o.length < 400 → (outB o x).length = o.length + 1) ∧ ((outB o x).length ≤ 400 ∨ 400 < o.length) := by
  unfold outB
  split
  · omega
  · simp; omega
theorem app_at {α : Type} {l : List α} {x y : α} {k : Nat} (h : (l ++ [x])[k]? = some y) : l[k]? = some y ∨ (k = l.length ∧ y = x) := by
  by_cases hk : k < l.length
  · rw [List.getElem?_append_left hk] at h
    exact Or.inl h
  · rw [List.getElem?_append_right (by omega)] at h
    have := (List.getElem?_eq_some_iff.mp h).1
    simp at this
    have e : k = l.length := by omega
    subst e
    simp at h
    exact Or.inr ⟨rfl, h.symm⟩
section
variable {iv : List (Int × Int)} {L : Nat} {h0 : MH} {s : SM} {d : Nat}
theorem out_ok {x : Int} {o : List Int} {F : SM → Prop} (h : BY s o) (hF : ∀ w, eqx [67] [66] s w → BY w (outB o x) → F w) : cm iv L h0 d 141 [vr 307, vi x] s (qv F) := by
  have h1 := h.1
  refine B141 ⟨fun q => hF s eqx.rf ?_, fun q => ⟨by omega, w8_b x, by omega, hF _ (eqx_us (eqx_ua eqx.rf (by decide)) (by decide)) ?_⟩⟩
  · unfold outB
    rw [if_pos (by omega)]
    exact h
  · unfold outB
    rw [if_neg (by omega)]
    refine ⟨⟨?_, by simp; omega⟩, fun k y hk => ?_⟩
    · show s.1 67 + 1 = _
      simp; omega
    · show (if 66 = 66 ∧ (k : Int) = s.1 67 then w8 x else s.2 66 k) = y
      rcases app_at hk with hk | ⟨rfl, rfl⟩
      · have hl := (List.getElem?_eq_some_iff.mp hk).1
        rw [if_neg (by omega)]
        exact h.2 k y hk
      · rw [if_pos ⟨rfl, by omega⟩]
theorem wrd_at {a : Nat} {F : SM → Prop} (ha : 8 ≤ a ∧ a < 8 + NS0) : ∀ (m p : List Int32) (o : List Int) (w : SM), strT a = p ++ m → BY w o → (∀ v, eqx [67] [66] w v → BY v (m.foldl (fun o c => outB o c.toInt) o) → F v) → wm iv L h0 (d + 1) 143 2 [lr 307, lr a, li p.length] [] w (qv F) := by
  intro m
  induction m with
  | nil =>
    intro p o w e h hF
    have el : slen a = p.length := by unfold slen; rw [e]; simp
    exact B143_2 ⟨ha, fun _ => hF w eqx.rf h, fun q => by omega⟩
  | cons c m ih =>
    intro p o w e h hF
    have hb := (str_at (L := L) ha).2
    have el : slen a = p.length + (m.length + 1) := by unfold slen; rw [e]; simp
    have ec : scat a p.length = c.toInt := by unfold scat; rw [e]; simp
    have e' : strT a = (p ++ [c]) ++ m := by rw [e]; simp
    have el2 : ((p ++ [c]).length : Int) = p.length + 1 := by simp
    have hs : slen a ≤ 100 := by unfold slen; omega
    refine B143_2 ⟨ha, fun q => by omega, fun _ => ⟨by omega, ?_⟩⟩
    rw [ec]
    refine out_ok h (fun v v1 v2 => ⟨by omega, ?_⟩)
    have := ih (p ++ [c]) _ v e' v2 (fun u u1 u2 => hF u (v1.tr u1) u2)
    rw [el2] at this
    exact this
theorem word_ok {a : Nat} {o : List Int} {F : SM → Prop} (ha : 8 ≤ a ∧ a < 8 + NS0) (hd : 1 ≤ d) (h : BY s o) (hF : ∀ w, eqx [67] [66] s w → BY w (outW a o) → F w) : cm iv L h0 d 143 [vr 307, vr a] s (qv F) := by
  obtain ⟨d, rfl⟩ : ∃ k, d = k + 1 := ⟨d - 1, by omega⟩
  exact B143 (wrd_at ha (strT a) [] o s rfl h hF)
theorem num53 {F : SM → Prop} : ∀ (m : List Int) (o : List Int) (w : SM), (∀ x, x ∈ m → 0 ≤ x ∧ x ≤ 9) → m.length ≤ 12 → DG w m.reverse → BY w o → (∀ v, eqx [67] [66] w v → BY v (m.foldl (fun o x => outB o (48 + x)) o) → F v) → wm iv L h0 (d + 1) 142 53 [lr 307, ln, ln, ln, ln, li (m.length - 1)] [] w (qv F) := by
  intro m
  induction m with
  | nil =>
    intro o w _ _ _ h hF
    exact B142_53 ⟨fun _ => hF w eqx.rf h, fun q => by simp at q⟩
  | cons x m ih =>
    intro o w hm hl hD h hF
    have el : (((x :: m).length : Nat) : Int) = m.length + 1 := by simp
    have hx := hm x (List.mem_cons_self ..)
    have hlt : m.length + 1 ≤ 12 := by simpa using hl
    have ex : w.2 70 m.length = x := by
      have := hD m.length x (by simp)
      exact this
    rw [el]
    refine B142_53 ⟨fun q => by omega, fun _ => ⟨by omega, ?_⟩⟩
    rw [show (m.length : Int) + 1 - 1 = m.length by omega, ex]
    refine ⟨by omega, out_ok h (fun v v1 v2 => ⟨by omega, ?_⟩)⟩
    refine ih _ v (fun y hy => hm y (List.mem_cons_of_mem _ hy)) (by omega) (fun k y hk => ?_) v2 (fun u u1 u2 => hF u (v1.tr u1) u2)
    rw [v1.2 70 (by decide)]
    refine hD k y ?_
    have hk1 := (List.getElem?_eq_some_iff.mp hk).1
    rw [List.reverse_cons, List.getElem?_append_left hk1]
    exact hk
theorem dgs_in : ∀ (k : Nat) (z x : Int), x ∈ dgs k z → 0 ≤ x ∧ x ≤ 9 := by
  intro k
  induction k with
  | zero => intro z x h; cases h
  | succ k ih =>
    intro z x h
    unfold dgs at h
    rcases List.mem_cons.mp h with rfl | h
    · omega
    · split at h
      · exact ih _ x h
      · cases h
theorem dgs_len : ∀ (k : Nat) (z : Int), (dgs k z).length ≤ k := by
  intro k
  induction k with
  | zero => intro z; exact Nat.le_refl _
  | succ k ih =>
    intro z
    unfold dgs
    split
    · have := ih (z / 10)
      simp; omega
    · simp
theorem p10_le : ∀ k : Nat, k ≤ 10 → 1 ≤ p10 k ∧ p10 k ≤ 10000000000 := by
  intro k hk
  have : k = 0 ∨ k = 1 ∨ k = 2 ∨ k = 3 ∨ k = 4 ∨ k = 5 ∨ k = 6 ∨ k = 7 ∨ k = 8 ∨ k = 9 ∨ k = 10 := by omega
  rcases this with rfl | rfl | rfl | rfl | rfl | rfl | rfl | rfl | rfl | rfl | rfl <;> decide
theorem num19 {F : SM → Prop} : ∀ (k : Nat) (z : Int) (D : List Int) (w : SM), 0 ≤ z → z < p10 (k + 1) → D.length + k ≤ 11 → k + 1 ≤ 10 → DG w D → (∀ v, eqx [] [70] w v → DG v (D ++ dgs (k + 1) z) → wm iv L h0 (d + 1) 142 53 [lr 307, ln, ln, ln, ln, li ((D ++ dgs (k + 1) z).length - 1)] [] v (qv F)) → wm iv L h0 (d + 1) 142 19 [lr 307, ln, ll z, ln, li D.length] [] w (qv F) := by
  intro k
  induction k with
  | zero =>
    intro z D w hz h1 hl hk hD hF
    have e9 : p10 (0 + 1) = 10 := by decide
    have et : z.tdiv 10 = z / 10 := Int.tdiv_eq_ediv_of_nonneg hz
    have ez : z / 10 = 0 := by omega
    have ew : w32 (z - z / 10 * 10) = z % 10 := by rw [ez]; rw [w32_id (by unfold inR; omega)]; omega
    have eg : dgs (0 + 1) z = [z % 10] := by
      unfold dgs
      rw [if_neg (by omega)]
    rw [eg] at hF
    refine B142_19 ?_
    rw [et, ew, ez]
    refine ⟨by unfold inL; omega, by unfold inL; omega, by unfold inL; omega, by omega, by omega, by unfold inL; omega, fun q => ?_, fun _ => ⟨by omega, ?_⟩⟩
    · unfold lcp at q
      simp at q
    · have := hF (ua w 70 D.length (z % 10)) (eqx_ua eqx.rf (by decide)) (fun j y hj => ?_)
      · rw [show (((D ++ [z % 10]).length : Nat) : Int) = D.length + 1 by simp] at this
        exact this
      · show (if 70 = 70 ∧ (j : Int) = D.length then z % 10 else w.2 70 j) = y
        rcases app_at hj with hj | ⟨rfl, rfl⟩
        · have := (List.getElem?_eq_some_iff.mp hj).1
          rw [if_neg (by omega)]
          exact hD j y hj
        · rw [if_pos ⟨rfl, rfl⟩]
  | succ k ih =>
    intro z D w hz h1 hl hk hD hF
    have e9 : p10 (k + 1 + 1) = 10 * p10 (k + 1) := rfl
    have hp := p10_le (k + 1) (by omega)
    have hp2 := p10_le (k + 1 + 1) (by omega)
    have et : z.tdiv 10 = z / 10 := Int.tdiv_eq_ediv_of_nonneg hz
    have ew : w32 (z - z / 10 * 10) = z % 10 := by rw [w32_id (by unfold inR; omega)]; omega
    have eg : dgs (k + 1 + 1) z = z % 10 :: (if 0 < z / 10 then dgs (k + 1) (z / 10) else []) := rfl
    have dg : DG (ua w 70 D.length (z % 10)) (D ++ [z % 10]) := fun j y hj => by
      show (if 70 = 70 ∧ (j : Int) = D.length then z % 10 else w.2 70 j) = y
      rcases app_at hj with hj | ⟨rfl, rfl⟩
      · have := (List.getElem?_eq_some_iff.mp hj).1
        rw [if_neg (by omega)]
        exact hD j y hj
      · rw [if_pos ⟨rfl, rfl⟩]
    have el : (((D ++ [z % 10]).length : Nat) : Int) = D.length + 1 := by simp
    have eln : (D ++ [z % 10]).length = D.length + 1 := by simp
    refine B142_19 ?_
    rw [et, ew]
    refine ⟨by unfold inL; omega, by unfold inL; omega, by unfold inL; omega, by omega, by omega, by unfold inL; omega, fun q => ?_, fun q => ⟨by omega, ?_⟩⟩
    · have q1 : 0 < z / 10 := by
        unfold lcp at q
        split at q
        · assumption
        · split at q <;> omega
      rw [if_pos q1] at eg
      have := ih (z / 10) (D ++ [z % 10]) _ (by omega) (by omega) (by omega) (by omega) dg (fun v v1 v2 => ?_)
      · rw [el] at this
        exact this
      · have e3 : D ++ [z % 10] ++ dgs (k + 1) (z / 10) = D ++ dgs (k + 1 + 1) z := by rw [eg]; simp
        rw [e3] at v2 ⊢
        exact hF v ((eqx_ua eqx.rf (by decide)).tr v1) v2
    · have q1 : ¬ 0 < z / 10 := fun q1 => by
        unfold lcp at q
        rw [if_pos q1] at q
        omega
      rw [if_neg q1] at eg
      rw [eg] at hF
      have := hF _ (eqx_ua eqx.rf (by decide)) dg
      rw [el] at this
      exact this
theorem num_ok {z : Int} {o : List Int} {F : SM → Prop} (hz : -2147483648 ≤ z ∧ z ≤ 2147483647) (hd : 1 ≤ d) (h : BY s o) (hF : ∀ w, eqx [67] [66, 70] s w → BY w (outN z o) → F w) : cm iv L h0 d 142 [vr 307, vi z] s (qv F) := by
  obtain ⟨d, rfl⟩ : ∃ k, d = k + 1 := ⟨d - 1, by omega⟩
  have e10 : p10 (9 + 1) = 10000000000 := by decide
  have go : ∀ (y : Int) (o' : List Int) (w : SM), 0 ≤ y → y < p10 (9 + 1) → BY w o' → (∀ v, eqx [67] [66, 70] w v → BY v (((dgs 10 y).reverse).foldl (fun o x => outB o (48 + x)) o') → F v) → wm iv L h0 (d + 1) 142 19 [lr 307, ln, ll y, ln, li 0] [] w (qv F) := fun y o' w y0 y1 hB hG => by
    refine num19 9 y [] w y0 y1 (by decide) (by decide) (fun k x hk => by simp at hk) (fun v v1 v2 => ?_)
    have hl := dgs_len 10 y
    have := num53 (iv := iv) (L := L) (h0 := h0) (d := d) (F := F) (dgs 10 y).reverse o' v (fun x hx => dgs_in 10 y x (by simpa using hx)) (by simp; omega) (by rw [List.reverse_reverse]; exact v2) ⟨by rw [v1.1 67 (by decide)]; exact hB.1, fun k x hk => by rw [v1.2 66 (by decide)]; exact hB.2 k x hk⟩ (fun u u1 u2 => hG u ((v1.up (fun y q => by cases q) (fun y q => by simp at q ⊢; omega)).tr (u1.up (fun y q => q) (fun y q => by simp at q ⊢; omega))) u2)
    rw [List.length_reverse] at this
    exact this
  unfold outN at hF
  refine B142 ⟨fun q => ?_, fun q => out_ok h (fun w w1 w2 => ?_)⟩
  · rw [if_neg (by omega), if_neg (by omega)] at hF
    exact go z o s q (by omega) h hF
  · rw [if_pos q, if_pos q] at hF
    exact go (-z) _ w (by omega) (by omega) w2 (fun v v1 v2 => hF v ((w1.up (fun y q => q) (fun y q => by simp at q ⊢; omega)).tr v1) v2)
end
