/-! Writing a value: its bytes, the holes in it. -/
def pB (x : Int) (o : List Int × List Term) : List Int × List Term := (outB o.1 x, o.2)
def pN (z : Int) (o : List Int × List Term) : List Int × List Term := (outN z o.1, o.2)
def pW (a : Nat) (o : List Int × List Term) : List Int × List Term := (outW a o.1, o.2)
def wrd (k : Int) : Nat := if k = 4 then 21 else if k = 5 then 22 else if k = 6 then 23 else if k = 7 then 24 else if k = 9 then 25 else if k = 11 then 26 else if k = 13 then 27 else 28
def gd (o x : List Int × List Term) : List Int × List Term := if o.1.length = 400 then o else x
def outZ (k n : Int) (o : List Int × List Term) : List Int × List Term := if k = 11 then pB 41 (pN n (pB 32 o)) else pB 41 o
def outT (so : Int → Int) : Term → List Int × List Term → List Int × List Term
  | .int z, o => gd o (pN z.toInt o)
  | .arg n, o => gd o (pW (if n = 1 then 19 else 20) o)
  | .index x, o => gd o (pB (97 + x) (pB 33 o))
  | .sub (.index d) _, o => gd o (pN d (pB 100 o))
  | .add A B, o => gd o (pB 93 (outT so B (pB 32 (outT so A (pB 91 o)))))
  | .div (.index b) E, o => gd o (pN b (pB 63 (o.1, o.2 ++ [.div (.index b) E])))
  | .length A, o => gd o (pB 125 (outT so A (pB 123 o)))
  | .rem (.index n) (.elem A (.elem B _)), o => gd o (outZ (so n) n (if isV B = true then outT so B (pB 32 (outT so A (pB 32 (pW (wrd (so n)) (pB 40 o))))) else outT so A (pB 32 (pW (wrd (so n)) (pB 40 o)))))
  | _, o => o
def OU (s : SM) (lo hi elo ehi : Int) (o : List Int × List Term) (w : SM) : Prop := eqx [67, 69] [66, 68, 70] s w ∧ BY w o.1 ∧ (w.1 69 = o.2.length ∧ o.2.length ≤ o.1.length) ∧ ∀ (k : Nat) (V : Term), o.2[k]? = some V → VR s lo hi elo ehi V (w.2 68 k) ∧ isW V = true
theorem outB_ge (o : List Int) (x : Int) : o.length ≤ (outB o x).length := (outB_len o x).1
theorem fold_ge {α : Type} (f : α → Int) : ∀ (m : List α) (o : List Int), o.length ≤ (m.foldl (fun o c => outB o (f c)) o).length := by
  intro m
  induction m with
  | nil => intro o; exact Nat.le_refl _
  | cons c m ih => intro o; exact Nat.le_trans (outB_ge o (f c)) (ih _)
theorem outN_ge (z : Int) (o : List Int) : o.length ≤ (outN z o).length := by
  unfold outN
  refine Nat.le_trans ?_ (fold_ge (fun x => 48 + x) _ _)
  split
  · exact outB_ge _ _
  · exact Nat.le_refl _
theorem outW_ge (a : Nat) (o : List Int) : o.length ≤ (outW a o).length := fold_ge (fun c : Int32 => c.toInt) _ _
section
variable {iv : List (Int × Int)} {L : Nat} {h0 : MH} {s w : SM} {lo hi elo ehi : Int} {o : List Int × List Term} {d : Nat}
theorem oB {x : Int} {F : SM → Prop} (h : OU s lo hi elo ehi o w) (hF : ∀ v, OU s lo hi elo ehi (pB x o) v → (o.1.length ≤ (pB x o).1.length ∧ (o.1.length < 400 → (pB x o).1.length = o.1.length + 1)) → F v) : cm iv L h0 d 141 [vr 307, vi x] w (qv F) := by
  obtain ⟨h1, h2, h3, h4⟩ := h
  have hl := outB_len o.1 x
  refine out_ok h2 (fun v v1 v2 => hF v ⟨h1.tr (v1.up (fun y q => by simp at q ⊢; omega) (fun y q => by simp at q ⊢; omega)), v2, ⟨?_, Nat.le_trans h3.2 hl.1⟩, fun k V hk => ?_⟩ ⟨hl.1, hl.2.1⟩)
  · rw [v1.1 69 (by decide)]; exact h3.1
  · rw [v1.2 68 (by decide)]; exact h4 k V hk
theorem oN {z : Int} {F : SM → Prop} (hz : -2147483648 ≤ z ∧ z ≤ 2147483647) (hd : 1 ≤ d) (h : OU s lo hi elo ehi o w) (hF : ∀ v, OU s lo hi elo ehi (pN z o) v → o.1.length ≤ (pN z o).1.length → F v) : cm iv L h0 d 142 [vr 307, vi z] w (qv F) := by
  obtain ⟨h1, h2, h3, h4⟩ := h
  have hl := outN_ge z o.1
  refine num_ok hz hd h2 (fun v v1 v2 => hF v ⟨h1.tr (v1.up (fun y q => by simp at q ⊢; omega) (fun y q => by simp at q ⊢; omega)), v2, ⟨?_, Nat.le_trans h3.2 hl⟩, fun k V hk => ?_⟩ hl)
  · rw [v1.1 69 (by decide)]; exact h3.1
  · rw [v1.2 68 (by decide)]; exact h4 k V hk
theorem oW {a : Nat} {F : SM → Prop} (ha : 8 ≤ a ∧ a < 29) (hd : 1 ≤ d) (h : OU s lo hi elo ehi o w) (hF : ∀ v, OU s lo hi elo ehi (pW a o) v → o.1.length ≤ (pW a o).1.length → F v) : cm iv L h0 d 143 [vr 307, vr a] w (qv F) := by
  obtain ⟨h1, h2, h3, h4⟩ := h
  have hl := outW_ge a o.1
  refine word_ok (show 8 ≤ a ∧ a < 8 + 21 from ha) hd h2 (fun v v1 v2 => hF v ⟨h1.tr (v1.up (fun y q => by simp at q ⊢; omega) (fun y q => by simp at q ⊢; omega)), v2, ⟨?_, Nat.le_trans h3.2 hl⟩, fun k V hk => ?_⟩ hl)
  · rw [v1.1 69 (by decide)]; exact h3.1
  · rw [v1.2 68 (by decide)]; exact h4 k V hk
theorem wrd_ok {k : Int} {F : Nat → SM → Prop} (hF : F (wrd k) w) : cm iv L h0 d 144 [vi k] w (qa F) := by
  refine B144 ⟨fun q => ?_, fun q => ?_, fun q => ?_, fun q => ?_, fun q => ?_, fun q => ?_, fun q => ?_, fun q => ?_⟩
  · subst q; exact hF
  · subst q; exact hF
  · subst q; exact hF
  · subst q; exact hF
  · have e : wrd k = 28 := by
      unfold wrd
      rw [if_neg (by omega), if_neg (by omega), if_neg (by omega), if_neg (by omega), if_neg (by omega), if_neg (by omega), if_neg (by omega)]
    rw [e] at hF
    exact hF
  · subst q; exact hF
  · subst q; exact hF
  · subst q; exact hF
theorem wrd_in (k : Int) : 8 ≤ wrd k ∧ wrd k < 29 := by
  unfold wrd
  repeat' split
  all_goals decide
/-- the way of one value -/
def WV (iv : List (Int × Int)) (L : Nat) (h0 : MH) (s : SM) (lo hi elo ehi : Int) (V : Term) : Prop := ∀ (v : Int) (o : List Int × List Term) (w : SM) (d : Nat) (F : SM → Prop), VR s lo hi elo ehi V v → OU s lo hi elo ehi o w → 4 ≤ d → 404 ≤ d + o.1.length → (∀ u, OU s lo hi elo ehi (outT (s.2 9) V o) u → o.1.length ≤ (outT (s.2 9) V o).1.length → F u) → cm iv L h0 (d + 1) 145 [vr 307, vi v] w (qv F)
theorem OU.c {f : Nat} {v : Int} (h : OU s lo hi elo ehi o w) (hf : f < 66) : w.2 f v = s.2 f v := by
  rw [h.1.2 f (by simp; omega)]
theorem wv_full {V : Term} {F : SM → Prop} (hV : isV V = true) (h : OU s lo hi elo ehi o w) (h4 : w.1 67 = 400) (hF : ∀ u, OU s lo hi elo ehi (outT (s.2 9) V o) u → o.1.length ≤ (outT (s.2 9) V o).1.length → F u) : F w := by
  have hl : o.1.length = 400 := by have := h.2.1.1.1; omega
  have e : outT (s.2 9) V o = o := by
    unfold outT
    split <;> first | exact if_pos hl | rfl
  rw [e] at hF
  exact hF w h (Nat.le_refl _)
theorem gd_lt {x : List Int × List Term} (h : OU s lo hi elo ehi o w) (q : w.1 67 ≠ 400) : gd o x = x ∧ o.1.length < 400 := by
  have hl := h.2.1.1
  exact ⟨if_neg (by omega), by omega⟩
theorem wv_int {z : Int32} (hb : 0 ≤ lo ∧ hi ≤ 2600) : WV iv L h0 s lo hi elo ehi (.int z) := fun v o w d F hv h d4 _ hF => by
  have k := hv
  obtain ⟨k0, k1, k2, -⟩ := k
  have c1 := h.c (f := 46) (v := v) (by decide)
  have c2 := h.c (f := 47) (v := v) (by decide)
  have z1 := z.le_toInt
  have z2 := z.toInt_lt
  refine B145 ⟨fun q => ⟨by omega, fun q => ?_, fun q => by omega, fun q => by omega, fun q => by omega, fun q => by omega, fun q => by omega, fun q => by omega, fun q => by omega⟩, fun q => wv_full (V := .int z) rfl h q hF⟩
  rw [c2, k2]
  have hF : ∀ u, OU s lo hi elo ehi (gd o (pN z.toInt o)) u → o.1.length ≤ (gd o (pN z.toInt o)).1.length → F u := hF
  rw [(gd_lt h (by assumption)).1] at hF
  exact oN (by omega) (by omega) h hF
theorem wv_arg {n : Nat} (hb : 0 ≤ lo ∧ hi ≤ 2600) : WV iv L h0 s lo hi elo ehi (.arg n) := fun v o w d F hv h d4 _ hF => by
  have k := hv
  obtain ⟨k0, k1, k2, -⟩ := k
  have c1 := h.c (f := 46) (v := v) (by decide)
  have c2 := h.c (f := 47) (v := v) (by decide)
  refine B145 ⟨fun q => ⟨by omega, fun q => by omega, fun q => ?_, fun q => by omega, fun q => by omega, fun q => by omega, fun q => by omega, fun q => by omega, fun q => by omega⟩, fun q => wv_full (V := .arg n) rfl h q hF⟩
  have hF : ∀ u, OU s lo hi elo ehi (gd o (pW (if n = 1 then 19 else 20) o)) u → o.1.length ≤ (gd o (pW (if n = 1 then 19 else 20) o)).1.length → F u := hF
  rw [(gd_lt h (by assumption)).1] at hF
  rw [c2, k2]
  refine ⟨fun q => ?_, fun q => ?_⟩
  · rw [if_neg (by omega)] at hF
    exact oW (by decide) (by omega) h hF
  · rw [if_pos (by omega)] at hF
    exact oW (by decide) (by omega) h hF
theorem wv_index {x : Nat} (hb : 0 ≤ lo ∧ hi ≤ 2600) (hx : x < 26) : WV iv L h0 s lo hi elo ehi (.index x) := fun v o w d F hv h d4 _ hF => by
  have k := hv
  obtain ⟨k0, k1, k2, -⟩ := k
  have c1 := h.c (f := 46) (v := v) (by decide)
  refine B145 ⟨fun q => ⟨by omega, fun q => by omega, fun q => by omega, fun q => by omega, fun q => by omega, fun q => by omega, fun q => ?_, fun q => by omega, fun q => by omega⟩, fun q => wv_full (V := .index x) rfl h q hF⟩
  have hF : ∀ u, OU s lo hi elo ehi (gd o (pB (97 + x) (pB 33 o))) u → o.1.length ≤ (gd o (pB (97 + x) (pB 33 o))).1.length → F u := hF
  rw [(gd_lt h (by assumption)).1] at hF
  refine oB h (fun u hu e => ?_)
  have c2 := hu.c (f := 47) (v := v) (by decide)
  rw [c2, k2]
  exact ⟨by omega, oB hu (fun u' hu' e' => hF u' hu' (Nat.le_trans e.1 e'.1))⟩
theorem wv_sub {n : Nat} {E : Term} (hb : 0 ≤ lo ∧ hi ≤ 2600) (hx : n < 3000) : WV iv L h0 s lo hi elo ehi (.sub (.index n) E) := fun v o w d F hv h d4 _ hF => by
  have k := hv
  obtain ⟨_, ⟨k0, k1, k2, -⟩, -⟩ := k
  have c1 := h.c (f := 46) (v := v) (by decide)
  refine B145 ⟨fun q => ⟨by omega, fun q => by omega, fun q => by omega, fun q => ?_, fun q => by omega, fun q => by omega, fun q => by omega, fun q => by omega, fun q => by omega⟩, fun q => wv_full (V := .sub (.index n) E) rfl h q hF⟩
  have hF : ∀ u, OU s lo hi elo ehi (gd o (pN n (pB 100 o))) u → o.1.length ≤ (gd o (pN n (pB 100 o))).1.length → F u := hF
  rw [(gd_lt h (by assumption)).1] at hF
  refine oB h (fun u hu e => ?_)
  have c2 := hu.c (f := 47) (v := v) (by decide)
  rw [c2, k2]
  exact oN (by omega) (by omega) hu (fun u' hu' e' => hF u' hu' (Nat.le_trans e.1 e'))
theorem wv_add {A B : Term} (hb : 0 ≤ lo ∧ hi ≤ 2600) (hA : WV iv L h0 s lo hi elo ehi A) (hB : WV iv L h0 s lo hi elo ehi B) : WV iv L h0 s lo hi elo ehi (.add A B) := fun v o w d F hv h d4 dl hF => by
  have k := hv
  obtain ⟨a, b, ⟨k0, k1, k2, k3, k4, -⟩, ka, kb⟩ := k
  have c1 := h.c (f := 46) (v := v) (by decide)
  refine B145 ⟨fun q => ⟨by omega, fun q => by omega, fun q => by omega, fun q => by omega, fun q => ?_, fun q => by omega, fun q => by omega, fun q => by omega, fun q => by omega⟩, fun q => wv_full (V := .add A B) rfl h q hF⟩
  have hF : ∀ u, OU s lo hi elo ehi (gd o (pB 93 (outT (s.2 9) B (pB 32 (outT (s.2 9) A (pB 91 o)))))) u → o.1.length ≤ (gd o (pB 93 (outT (s.2 9) B (pB 32 (outT (s.2 9) A (pB 91 o)))))).1.length → F u := hF
  obtain ⟨g1, g2⟩ := gd_lt (x := pB 93 (outT (s.2 9) B (pB 32 (outT (s.2 9) A (pB 91 o))))) h (by assumption)
  rw [g1] at hF
  obtain ⟨d, rfl⟩ : ∃ k, d = k + 1 := ⟨d - 1, by omega⟩
  refine oB h (fun u1 h1 e1 => ?_)
  have e1' := e1.2 g2
  rw [h1.c (f := 48) (v := v) (by decide), k3]
  refine hA a _ u1 d _ ka h1 (by omega) (by omega) (fun u2 h2 e2 => oB h2 (fun u3 h3 e3 => ?_))
  rw [h3.c (f := 49) (v := v) (by decide), k4]
  refine hB b _ u3 d _ kb h3 (by omega) (by omega) (fun u4 h4 e4 => oB h4 (fun u5 h5 e5 => hF u5 h5 (by omega)))
theorem wv_len {A : Term} (hb : 0 ≤ lo ∧ hi ≤ 2600) (hA : WV iv L h0 s lo hi elo ehi A) : WV iv L h0 s lo hi elo ehi (.length A) := fun v o w d F hv h d4 dl hF => by
  have k := hv
  obtain ⟨a, ⟨k0, k1, k2, k3, -⟩, ka⟩ := k
  have c1 := h.c (f := 46) (v := v) (by decide)
  refine B145 ⟨fun q => ⟨by omega, fun q => by omega, fun q => by omega, fun q => by omega, fun q => by omega, fun q => by omega, fun q => by omega, fun q => ?_, fun q => by omega⟩, fun q => wv_full (V := .length A) rfl h q hF⟩
  have hF : ∀ u, OU s lo hi elo ehi (gd o (pB 125 (outT (s.2 9) A (pB 123 o)))) u → o.1.length ≤ (gd o (pB 125 (outT (s.2 9) A (pB 123 o)))).1.length → F u := hF
  obtain ⟨g1, g2⟩ := gd_lt (x := pB 125 (outT (s.2 9) A (pB 123 o))) h (by assumption)
  rw [g1] at hF
  obtain ⟨d, rfl⟩ : ∃ k, d = k + 1 := ⟨d - 1, by omega⟩
  refine oB h (fun u1 h1 e1 => ?_)
  have e1' := e1.2 g2
  rw [h1.c (f := 48) (v := v) (by decide), k3]
  exact hA a _ u1 d _ ka h1 (by omega) (by omega) (fun u2 h2 e2 => oB h2 (fun u3 h3 e3 => hF u3 h3 (by omega)))
end
