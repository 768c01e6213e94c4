section
/-! What the reference holds between two calls; which of its cells are for one call alone. -/
/-- cells for one call alone, numbers and rows -/
def scN : List Nat := [3, 18, 23, 30, 31, 41, 45, 67, 69]
def scR : List Nat := [17, 19, 20, 21, 22, 32, 33, 34, 36, 43, 44, 66, 68, 70]
/-- places of rows for one judging, for a trial -/
def scI (f : Nat) (i : Int) : Prop := ((f = 4 ∨ f = 5 ∨ f = 6 ∨ f = 7) ∧ 40 ≤ i) ∨ ((f = 9 ∨ f = 10 ∨ f = 11 ∨ f = 12 ∨ f = 13) ∧ 3000 ≤ i) ∨ (f = 14 ∧ 9000 ≤ i)
/-- the same but for such cells, and those named -/
def SX (ey ef : List Nat) (s w : SM) : Prop := (∀ y, y ∉ scN → y ∉ ey → w.1 y = s.1 y) ∧ ∀ f, f ∉ scR → f ∉ ef → ∀ i, ¬ scI f i → w.2 f i = s.2 f i
section
variable {ey ef : List Nat} {s w v : SM}
theorem SX.rf : SX ey ef s s := ⟨fun _ _ _ => rfl, fun _ _ _ _ _ => rfl⟩
theorem SX.tr (h1 : SX ey ef s w) (h2 : SX ey ef w v) : SX ey ef s v := ⟨fun y a b => (h2.1 y a b).trans (h1.1 y a b), fun f a b i c => (h2.2 f a b i c).trans (h1.2 f a b i c)⟩
theorem SX.sy (h1 : SX ey ef s w) : SX ey ef w s := ⟨fun y a b => (h1.1 y a b).symm, fun f a b i c => (h1.2 f a b i c).symm⟩
theorem SX.up {ey' ef' : List Nat} (h1 : SX ey ef s w) (hy : ∀ y, y ∈ ey → y ∈ ey') (hf : ∀ y, y ∈ ef → y ∈ ef') : SX ey' ef' s w := ⟨fun y a b => h1.1 y a (fun q => b (hy y q)), fun f a b i c => h1.2 f a (fun q => b (hf f q)) i c⟩
theorem SX.eq {ys fs : List Nat} (h : eqx ys fs s w) (hy : ∀ y, y ∈ ys → y ∈ scN ∨ y ∈ ey) (hf : ∀ f, f ∈ fs → f ∈ scR ∨ f ∈ ef) : SX ey ef s w := ⟨fun y a b => h.1 y (fun q => (hy y q).elim a b), fun f a b i _ => by rw [h.2 f (fun q => (hf f q).elim a b)]⟩
theorem SX.us {y : Nat} {z : Int} (h : SX ey ef s w) : SX ey ef (us s y z) (us w y z) := ⟨fun k a b => by
  show (if k = y then z else w.1 k) = if k = y then z else s.1 k
  rw [h.1 k a b], h.2⟩
theorem SX.ua {f : Nat} {i z : Int} (h : SX ey ef s w) : SX ey ef (ua s f i z) (ua w f i z) := ⟨h.1, fun k a b j c => by
  show (if k = f ∧ j = i then z else w.2 k j) = if k = f ∧ j = i then z else s.2 k j
  rw [h.2 k a b j c]⟩
end
/-- the tree of the sheet -/
def SHT (s : SM) (t : Term) : Prop := ATs s t ∧ full (s.2 9) t ∧ (fl t).Nodup ∧ (fl t).length ≤ 60 ∧ (0 ≤ s.1 8 ∧ s.1 8 ≤ 3000) ∧ hd t = s.1 15 ∧ s.2 12 (hd t) = -9 ∧ s.2 13 (hd t) = -9
/-- what holds of every node that was born -/
def NB (s : SM) : Prop := ∀ x, 0 ≤ x → x < s.1 8 → (0 ≤ s.2 9 x ∧ s.2 9 x < 16) ∧ ((s.2 9 x = 3 ∨ s.2 9 x = 8 ∨ s.2 9 x = 10) → 0 ≤ s.2 10 x ∧ s.2 10 x < 26) ∧ (s.2 9 x = 2 → s.2 10 x = 0 ∨ s.2 10 x = 1) ∧ ((s.2 9 x = 8 ∨ s.2 9 x = 15) → 0 ≤ s.2 11 x ∧ s.2 11 x < s.1 2)
abbrev KIs (s : SM) : Prop := KI (s.1 2) (s.2 4) (s.2 5) (s.2 6) (s.2 7)
/-- the row that was laid -/
def LR (w : SM) (l : List Int) : Prop := w.1 18 = l.length ∧ ∀ (j : Nat) (x : Int), l[j]? = some x → w.2 17 j = x
theorem SHT.lt {s : SM} {t : Term} (h : SHT s t) {x : Int} (hx : x ∈ fl t) : 0 ≤ x ∧ x < s.1 8 ∧ x < 3000 := by
  have := (AT_mem t h.1 x hx).1
  have := h.2.2.2.2.1
  omega
theorem AT_B {so pa up pl : Int → Int} {B B' : Int} (hB : B ≤ B') : ∀ (t : Term), AT so pa up pl B t → AT so pa up pl B' t := by
  intro t
  induction t with
  | index n => intro h; exact ⟨by have := h.1; omega, h.2⟩
  | add t x ih ihx => intro h; exact ⟨ih h.1, ihx h.2.1, h.2.2⟩
  | _ => intro h; exact h.elim
/-- rows that agree on the tree's nodes -/
theorem AT_ag {so pa up pl so' pa' up' pl' : Int → Int} {B B' : Int} (hB : B ≤ B') {t : Term} (h : AT so pa up pl B t) (hnd : (fl t).Nodup) (hs : ∀ x, x ∈ fl t → so' x = so x ∧ up' x = up x ∧ pl' x = pl x ∧ ∀ i, 0 ≤ i → i < 3 → pa' (3 * x + i) = pa (3 * x + i)) : AT so' pa' up' pl' B' t :=
  AT_cg hB t h hnd (fun x hx => ⟨(hs x hx).1, fun i i0 i1 _ => (hs x hx).2.2.2 i i0 (by have := pO_in (so x); omega)⟩) (fun x hx _ => ⟨(hs x hx).2.1, (hs x hx).2.2.1⟩)
theorem SHT.x {ey ef : List Nat} {s w : SM} {t : Term} (h : SHT s t) (hx : SX ey ef s w) (hy : 8 ∉ ey ∧ 15 ∉ ey) (hf : 9 ∉ ef ∧ 12 ∉ ef ∧ 13 ∉ ef ∧ 14 ∉ ef) : SHT w t := by
  have e8 := hx.1 8 (by decide) hy.1
  have hlt := fun x hx => h.lt (x := x) hx
  have e9 : ∀ x, x ∈ fl t → w.2 9 x = s.2 9 x := fun x q => hx.2 9 (by decide) hf.1 x (by have := hlt x q; unfold scI; omega)
  have e12 : ∀ x, x ∈ fl t → w.2 12 x = s.2 12 x := fun x q => hx.2 12 (by decide) hf.2.1 x (by have := hlt x q; unfold scI; omega)
  have e13 : ∀ x, x ∈ fl t → w.2 13 x = s.2 13 x := fun x q => hx.2 13 (by decide) hf.2.2.1 x (by have := hlt x q; unfold scI; omega)
  have hm := hd_mem t h.1
  refine ⟨AT_ag (by omega) h.1 h.2.2.1 (fun x q => ⟨e9 x q, e12 x q, e13 x q, fun i i0 i3 => hx.2 14 (by decide) hf.2.2.2 _ (by have := hlt x q; unfold scI; omega)⟩), ?_, h.2.2.1, h.2.2.2.1, by rw [e8]; exact h.2.2.2.2.1, ?_, ?_, ?_⟩
  · unfold full
    rw [e9 _ hm]
    exact h.2.1
  · rw [hx.1 15 (by decide) hy.2]
    exact h.2.2.2.2.2.1
  · rw [e12 _ hm]
    exact h.2.2.2.2.2.2.1
  · rw [e13 _ hm]
    exact h.2.2.2.2.2.2.2
theorem NB.x {ey ef : List Nat} {s w : SM} (h : NB s) (hx : SX ey ef s w) (h8 : s.1 8 ≤ 3000) (hy : 2 ∉ ey ∧ 8 ∉ ey) (hf : 9 ∉ ef ∧ 10 ∉ ef ∧ 11 ∉ ef) : NB w := fun x h0 h1 => by
  rw [hx.1 8 (by decide) hy.2] at h1
  have hi : ∀ f, (f = 9 ∨ f = 10 ∨ f = 11) → ¬ scI f x := fun f q => by unfold scI; omega
  rw [hx.2 9 (by decide) hf.1 x (hi 9 (by decide)), hx.2 10 (by decide) hf.2.1 x (hi 10 (by decide)), hx.2 11 (by decide) hf.2.2 x (hi 11 (by decide)), hx.1 2 (by decide) hy.1]
  exact h x h0 h1
theorem KI_ag {n n' : Int} {ks ka kb sz ks' ka' kb' sz' : Int → Int} (h : KI n ks ka kb sz) (hn : n' = n) (he : ∀ k, k < 40 → ks' k = ks k ∧ ka' k = ka k ∧ kb' k = kb k ∧ sz' k = sz k) : KI n' ks' ka' kb' sz' := by
  subst hn
  obtain ⟨h1, h2, h3⟩ := h
  refine ⟨h1, fun k k0 k3 => ?_, fun k k3 kn => ?_⟩
  · obtain ⟨e1, e2, e3, e4⟩ := he k (by omega)
    rw [e1, e2, e3, e4]
    exact h2 k k0 k3
  · obtain ⟨q1, q2, q3, q4, q5⟩ := h3 k k3 kn
    obtain ⟨e1, e2, e3, e4⟩ := he k (by omega)
    rw [e1, e2, e3, e4, (he (ka k) (by omega)).2.2.2, (he (kb k) (by omega)).2.2.2]
    exact ⟨q1, q2, q3, q4, q5⟩
theorem KI_x {ey ef : List Nat} {s w : SM} (h : KIs s) (hx : SX ey ef s w) (hy : 2 ∉ ey) (hf : 4 ∉ ef ∧ 5 ∉ ef ∧ 6 ∉ ef ∧ 7 ∉ ef) : KIs w :=
  KI_ag h (hx.1 2 (by decide) hy) (fun k hk => ⟨hx.2 4 (by decide) hf.1 k (by unfold scI; omega), hx.2 5 (by decide) hf.2.1 k (by unfold scI; omega), hx.2 6 (by decide) hf.2.2.1 k (by unfold scI; omega), hx.2 7 (by decide) hf.2.2.2 k (by unfold scI; omega)⟩)
/-- the part of the tree at a node -/
noncomputable def sq (x : Int) (t : Term) : Term := if hd t = x then t else sb x t
theorem sq_ok {so pa up pl : Int → Int} {B x : Int} {t : Term} (h : AT so pa up pl B t) (hf : full so t) (hnd : (fl t).Nodup) (hx : x ∈ fl t) : AT so pa up pl B (sq x t) ∧ full so (sq x t) ∧ hd (sq x t) = x ∧ (∀ y, y ∈ fl (sq x t) → y ∈ fl t) ∧ (fl (sq x t)).Nodup ∧ (fl (sq x t)).length ≤ (fl t).length ∧ dpt (sq x t) ≤ dpt t := by
  unfold sq
  by_cases e : hd t = x
  · rw [if_pos e]
    exact ⟨h, hf, e, fun _ q => q, hnd, Nat.le_refl _, Nat.le_refl _⟩
  · rw [if_neg e]
    obtain ⟨b1, b2, b3, b4, b5, b6⟩ := sb_ok t h hnd hx (Ne.symm e)
    obtain ⟨a, z, h1, h2, h3⟩ := rp_fl t h hnd hx (Ne.symm e)
    refine ⟨b1, b2, b3, b4, ?_, ?_, by omega⟩
    · rw [h2] at hnd
      exact (List.nodup_append.mp (List.nodup_append.mp hnd).2.1).1
    · rw [h2]
      simp only [List.length_append]
      omega
section
variable {iv : List (Int × Int)} {L : Nat} {h0 : MH} {s : SM} {t : Term} {d : Nat}
theorem LR_mem {w : SM} {l : List Int} (h : LR w l) {j : Int} (h0 : 0 ≤ j) (hj : j < w.1 18) : w.2 17 j ∈ l ∧ l[j.toNat]? = some (w.2 17 j) := by
  have h1 := h.1
  have h2 : j.toNat < l.length := by omega
  have h3 := h.2 j.toNat _ (List.getElem?_eq_getElem h2)
  rw [show ((j.toNat : Nat) : Int) = j by omega] at h3
  rw [h3]
  exact ⟨List.getElem_mem h2, List.getElem?_eq_getElem h2⟩
/-- a part of the tree is laid in the row -/
theorem layAt_ok {x : Int} {F : SM → Prop} (h : SHT s t) (hx : x ∈ fl t) (hd : 62 ≤ d) (hF : ∀ w, eqx [18] [17] s w → LR w (fl (sq x t)) → F w) : cm iv L h0 d 78 [vr 307, vi x] (us s 18 0) (qv F) := by
  obtain ⟨a1, a2, a3, a4, a5, a6, a7⟩ := sq_ok h.1 h.2.1 h.2.2.1 hx
  have hl := h.2.2.2.1
  have hdp := dpt_len _ a1
  have := lay_ok (iv := iv) (L := L) (h0 := h0) (s := us s 18 0) (t := sq x t) (D := d - 1) a1 a2 (by have := h.2.2.2.2.1; show s.1 8 ≤ 3004; omega) (by omega) (Int.le_refl 0) (by show (0 : Int) + _ ≤ 80; omega)
  rw [a3, show d - 1 + 1 = d by omega] at this
  refine wcv_mono this (Nat.le_refl _) (fun w hw => hF w ?_ ?_)
  · exact (eqx_us (s := s) (t := s) eqx.rf (y := 18) (z := 0) (by decide)).tr (hw.1)
  · refine ⟨by rw [hw.2.1]; show (0 : Int) + _ = _; omega, fun j y hj => ?_⟩
    have := hw.2.2.1 j y hj
    rw [show (us s 18 0).1 18 + (j : Int) = j from by show (0 : Int) + j = j; omega] at this
    exact this
theorem sq_top (h : SHT s t) : sq (s.1 15) t = t := if_pos h.2.2.2.2.2.1
theorem top_mem (h : SHT s t) : s.1 15 ∈ fl t := by rw [← h.2.2.2.2.2.1]; exact hd_mem t h.1
theorem layAll_ok {F : SM → Prop} (h : SHT s t) (hd : 63 ≤ d) (hF : ∀ w, eqx [18] [17] s w → LR w (fl t) → F w) : cm iv L h0 d 79 [vr 307] s (qv F) := by
  obtain ⟨d, rfl⟩ : ∃ k, d = k + 1 := ⟨d - 1, by omega⟩
  refine B79 (layAt_ok h (top_mem h) (by omega) (fun w h1 h2 => ?_))
  rw [sq_top h] at h2
  exact hF w h1 h2
theorem sizeOf_ok {x : Int} {F : Int → SM → Prop} (h : SHT s t) (hx : x ∈ fl t) (hd : 63 ≤ d) (hF : ∀ w, eqx [18] [17] s w → LR w (fl (sq x t)) → F (fl (sq x t)).length w) : cm iv L h0 d 81 [vr 307, vi x] s (qi F) := by
  obtain ⟨d, rfl⟩ : ∃ k, d = k + 1 := ⟨d - 1, by omega⟩
  refine B81 (layAt_ok h hx (by omega) (fun w h1 h2 => ?_))
  rw [h2.1]
  exact hF w h1 h2
theorem nodes_ok {F : Int → SM → Prop} (h : SHT s t) (hd : 64 ≤ d) (hF : ∀ w, eqx [18] [17] s w → F (fl t).length w) : cm iv L h0 d 82 [vr 307] s (qi F) := by
  obtain ⟨d, rfl⟩ : ∃ k, d = k + 1 := ⟨d - 1, by omega⟩
  refine B82 (sizeOf_ok h (top_mem h) (by omega) (fun w h1 h2 => ?_))
  rw [sq_top h]
  exact hF w h1
theorem isThere_ok {b : Int} {F : Int → SM → Prop} (h : SHT s t) (hd : 64 ≤ d) (hF : ∀ w, eqx [18] [17] s w → LR w (fl t) → F (if b ∈ fl t then 1 else 0) w) : cm iv L h0 d 80 [vr 307, vi b] s (qi F) := by
  obtain ⟨d, rfl⟩ : ∃ k, d = k + 1 := ⟨d - 1, by omega⟩
  refine B80 (layAll_ok h (by omega) (fun w h1 h2 => ?_))
  have hl := h.2.2.2.1
  have h3 := hF w h1 h2
  have key : ∀ (n : Nat) (j : Int), 0 ≤ j → j ≤ w.1 18 → (w.1 18 - j).toNat = n → (∀ i : Nat, (i : Int) < j → (fl t)[i]? ≠ some b) → wm iv L h0 (d + 1) 80 6 [lr 307, li b, li j] [] w (qi F) := by
    intro n
    induction n with
    | zero =>
      intro j j0 j1 hn hno
      refine B80_6 ⟨fun _ => ?_, fun q => by omega⟩
      rw [if_neg (fun q => ?_)] at h3
      · exact h3
      · obtain ⟨i, i1, i2⟩ := List.getElem_of_mem q
        exact hno i (by have := h2.1; omega) (by rw [List.getElem?_eq_getElem i1, i2])
    | succ n ih =>
      intro j j0 j1 hn hno
      have h21 := h2.1
      refine B80_6 ⟨fun q => by omega, fun q => ⟨by omega, fun e => ⟨by omega, ih (j + 1) (by omega) (by omega) (by omega) (fun i hi => ?_)⟩, fun e => ?_⟩⟩
      · by_cases hij : (i : Int) < j
        · exact hno i hij
        · have hij : j = (i : Int) := by omega
          subst hij
          intro c
          exact e (h2.2 i b c)
      · rw [if_pos (by rw [← e]; exact (LR_mem h2 j0 q).1)] at h3
        exact h3
  exact key _ 0 (by omega) (by have := h2.1; omega) rfl (fun i hi => by omega)
def J0 : JT := (fun _ => .null, fun _ => none, fun _ => 0)
/-- what judging the sheet comes to -/
def jdg (s : SM) (t : Term) : JT := (jds s t none J0).1
/-- behind a judging -/
def JW (s w : SM) (t : Term) : Prop := eqx [3] [4, 5, 6, 7, 19, 20, 21] s w ∧ (∀ k, k < 40 → w.2 4 k = s.2 4 k ∧ w.2 5 k = s.2 5 k ∧ w.2 6 k = s.2 6 k ∧ w.2 7 k = s.2 7 k) ∧ KJs w ∧ JR w (jdg s t) (fun x => x ∈ fl t) ∧ w.1 3 ≤ 6000
theorem JW.sx {v : SM} (h : JW s v t) : SX [] [] s v := by
  obtain ⟨h1, h2, -⟩ := h
  refine ⟨fun y a _ => h1.1 y (fun q => a (by simp at q; subst q; decide)), fun f a _ i c => ?_⟩
  by_cases e : f = 4 ∨ f = 5 ∨ f = 6 ∨ f = 7
  · have hi : i < 40 := by unfold scI at c; omega
    obtain ⟨q1, q2, q3, q4⟩ := h2 i hi
    rcases e with rfl | rfl | rfl | rfl <;> assumption
  · rw [h1.2 f (fun q => ?_)]
    simp at q
    simp [scR] at a
    omega
theorem DP_tree (h : SHT s t) : ∀ x, x ∈ fl t → DP (s.2 12) 61 x := fun x hx => by
  have h1 := dpt_len t h.1
  have h2 := h.2.2.2.1
  exact DP_up _ _ _ (by omega) (AT_DP (by have := h.2.2.2.2.1; omega) t 1 h.1 (Or.inl h.2.2.2.2.2.2.1) x hx)
theorem judge_ok {F : SM → Prop} (h : SHT s t) (hN : NB s) (hK : KIs s) (hD : 230 ≤ d) (hF : ∀ w, JW s w t → F w) : cm iv L h0 d 86 [vr 307] s (qv F) := by
  obtain ⟨d, rfl⟩ : ∃ k, d = k + 1 := ⟨d - 1, by omega⟩
  have hdp := dpt_len t h.1
  have hl := h.2.2.2.1
  have htop := h.2.2.2.2.2.1
  have hB := h.2.2.2.2.1
  have hT : PRT (us s 3 40) t := ⟨AT_B (by show s.1 8 ≤ 3004; omega) t h.1, h.2.1, h.2.2.1, fun x hx e => (hN x (h.lt hx).1 (h.lt hx).2.1).2.2.2 e, fun x hx => DP_up 61 70 _ (by omega) (DP_tree h x hx)⟩
  have hKJ : KJs (us s 3 40) := ⟨hK, Int.le_refl 40, fun k k1 k2 => by exfalso; have : k < 40 := k2; omega⟩
  have hP : PRJ (us s 3 40) (hd t) (fl t) J0 (fun _ => False) := ⟨hKJ, fun x => Or.inl (by
    show bnd (s.2 9) (s.2 10) (s.2 12) (s.2 13) 70 (hd t) x = -9
    unfold bnd
    rw [if_pos h.2.2.2.2.2.2.1]), fun x q => q.elim, fun x q => q.elim⟩
  have := jsp_all (iv := iv) (L := L) (h0 := h0) (dpt t) t (us s 3 40) (-1) none J0 (fun _ => False) (Nat.le_refl _) hT hP rfl (by show (40 : Int) + _ ≤ 6000; omega)
  rw [htop] at this
  refine B86 (wci_mono this (by omega) ?_)
  rintro r w ⟨hX, hb, hr, hj⟩
  refine hF w ⟨?_, fun k hk => ?_, hX.2.1, ?_, ?_⟩
  · exact (eqx_us (s := s) (t := s) eqx.rf (y := 3) (z := 40) (by decide)).tr (hX.1.up (fun _ q => q) (fun f q => by simp at q ⊢; omega))
  · exact hX.2.2.1.2.2 k hk
  · intro x hx
    exact hj x (Or.inr hx)
  · have : w.1 3 ≤ 40 + 41 * (fl t).length := hb
    omega
end
end
section
/-! The reference's smallest methods. -/
/-- how often findings came: not more often than there were calls -/
def CM (n : Int) (s : SM) : Prop := ∀ f, 0 ≤ f → f < 6 → 0 ≤ s.2 1 f ∧ s.2 1 f ≤ n
def mtU (s : SM) (f : Int) : SM := ua (us s 0 f) 1 f (s.2 1 f + 1)
/-- the first kind of this shape and these parts -/
def kfd (ks ka kb : Int → Int) (i a b : Int) : Nat → Int → Int
  | 0, _ => -1
  | n + 1, k => if ks k = i ∧ ka k = a ∧ kb k = b then k else kfd ks ka kb i a b n (k + 1)
def kfs (s : SM) (i a b : Int) : Int := kfd (s.2 4) (s.2 5) (s.2 6) i a b (s.1 2 - 3).toNat 3
def kbad (s : SM) (a b : Int) : Prop := ¬ (0 ≤ a ∧ a < s.1 2) ∨ ¬ (0 ≤ b ∧ b < s.1 2) ∨ 40 < 1 + s.2 7 a + s.2 7 b
def kis (p : Int) : Int := if p = 0 then 3 else 4
def kndA (s : SM) (p a b : Int) : Int := if 0 ≤ kfs s (kis p) a b then kfs s (kis p) a b else if s.1 2 = 40 then -2 else s.1 2
def kndU (s : SM) (p a b : Int) : SM := if 0 ≤ kfs s (kis p) a b then s else if s.1 2 = 40 then s else us (ua (ua (ua (ua s 4 (s.1 2) (kis p)) 5 (s.1 2) a) 6 (s.1 2) b) 7 (s.1 2) (1 + s.2 7 a + s.2 7 b)) 2 (s.1 2 + 1)
theorem vk_le {n m k j : Int} (h : vk n k j) (hk : vk n m k) (hm : 40 ≤ m) : vk n m j := by unfold vk at h hk ⊢; omega
theorem kfd_in {ks ka kb : Int → Int} {i a b : Int} : ∀ (n : Nat) (k : Int), 0 ≤ k → kfd ks ka kb i a b n k = -1 ∨ (k ≤ kfd ks ka kb i a b n k ∧ kfd ks ka kb i a b n k < k + n) := by
  intro n
  induction n with
  | zero => intro k _; exact Or.inl rfl
  | succ n ih =>
    intro k hk
    unfold kfd
    by_cases e : ks k = i ∧ ka k = a ∧ kb k = b
    · rw [if_pos e]; right; omega
    · rw [if_neg e]
      rcases ih (k + 1) (by omega) with h | h
      · exact Or.inl h
      · right; omega
theorem LR_cons {w : SM} {l p m : List Int} {x : Int} (h : LR w l) (e : l = p ++ x :: m) : w.2 17 p.length = x ∧ (p.length : Int) < w.1 18 := by
  refine ⟨h.2 p.length x (by rw [e]; simp), ?_⟩
  rw [h.1, e]
  simp
  omega
theorem LR_nil {w : SM} {l p : List Int} (h : LR w l) (e : l = p ++ []) : w.1 18 ≤ p.length := by
  rw [h.1, e]
  simp
theorem app1 {p m : List Int} {x : Int} : p ++ x :: m = (p ++ [x]) ++ m := by simp
/-- the i-th of those that .. -/
def nthp (P : Int → Bool) : List Int → Int → Int
  | [], _ => -9
  | x :: r, i => if P x then (if i = 0 then x else nthp P r (i - 1)) else nthp P r i
theorem nthp_neg (P : Int → Bool) : ∀ (l : List Int) (i : Int), i < 0 → nthp P l i = -9 := by
  intro l
  induction l with
  | nil => intro i _; rfl
  | cons x r ih =>
    intro i hi
    unfold nthp
    cases P x with
    | true => rw [if_pos rfl, if_neg (by omega)]; exact ih _ (by omega)
    | false => rw [if_neg (by decide)]; exact ih _ hi
def cntp (P : Int → Bool) : List Int → Int
  | [] => 0
  | x :: r => (if P x then 1 else 0) + cntp P r
theorem cntp_in (P : Int → Bool) : ∀ (l : List Int), 0 ≤ cntp P l ∧ cntp P l ≤ l.length := by
  intro l
  induction l with
  | nil => exact ⟨Int.le_refl 0, Int.le_refl 0⟩
  | cons x r ih =>
    unfold cntp
    simp only [List.length_cons]
    cases P x <;> simp <;> omega
/-- the first of those behind c -/
def bhd (P : Int → Bool) (c : Int) : List Int → Bool → Int
  | [], _ => -9
  | x :: r, q => if q && P x then x else bhd P c r (q || decide (x = c))
def isH (s : SM) (x : Int) : Bool := decide (s.2 9 x = 0)
def isF (J : JT) (x : Int) : Bool := decide (0 < J.2.2 x)
/-- a kind's signs -/
def sg : Term → List Int
  | .null => [63]
  | .result => [119]
  | .thrown => [116]
  | .add a b => 102 :: (sg a ++ sg b)
  | .mul a b => 112 :: (sg a ++ sg b)
  | _ => []
def SGR (s t : SM) (l : List Int) : Prop := eqx [23] [22] s t ∧ t.1 23 = s.1 23 + l.length ∧ (∀ (j : Nat) (x : Int), l[j]? = some x → t.2 22 (s.1 23 + j) = x) ∧ ∀ j, j < s.1 23 → t.2 22 j = s.2 22 j
theorem SGR.tr {s t u : SM} {l m : List Int} (h1 : SGR s t l) (h2 : SGR t u m) : SGR s u (l ++ m) := by
  obtain ⟨a1, a2, a3, a4⟩ := h1
  obtain ⟨b1, b2, b3, b4⟩ := h2
  refine ⟨a1.tr b1, by rw [b2, a2, List.length_append]; omega, fun j x h => ?_, fun j hj => by rw [b4 j (by omega), a4 j hj]⟩
  by_cases hj : j < l.length
  · rw [List.getElem?_append_left hj] at h
    rw [b4 _ (by omega)]
    exact a3 j x h
  · rw [List.getElem?_append_right (by omega)] at h
    have h3 := b3 _ x h
    have e : t.1 23 + ((j - l.length : Nat) : Int) = s.1 23 + (j : Int) := by omega
    rw [e] at h3
    exact h3
theorem SGR.one {s : SM} {c : Int} : SGR s (us (ua s 22 (s.1 23) c) 23 (s.1 23 + 1)) [c] := by
  refine ⟨eqx_us (eqx_ua eqx.rf (by decide)) (by decide), rfl, fun j x hj => ?_, fun j hj => ?_⟩
  · cases j with
    | zero =>
      simp at hj
      subst hj
      show (if (22 = 22 ∧ s.1 23 + ((0 : Nat) : Int) = s.1 23) then c else _) = c
      rw [if_pos ⟨rfl, by omega⟩]
    | succ j => simp at hj
  · show (if (22 = 22 ∧ j = s.1 23) then c else s.2 22 j) = s.2 22 j
    rw [if_neg (by omega)]
section
variable {iv : List (Int × Int)} {L : Nat} {h0 : MH} {s : SM} {t : Term} {d : Nat}
theorem meets_ok {n f : Int} {F : Int → SM → Prop} (hc : CM n s) (hn : n ≤ 600) (hf : 0 ≤ f ∧ f < 6) (H : F (-3) (mtU s f)) : cm iv L h0 d 61 [vr 307, vi f] s (qi F) := B61 ⟨hf, by have := hc f hf.1 hf.2; omega, H⟩
theorem findings_ok {f : Int} {F : Int → SM → Prop} (H : F (if 1 ≤ f ∧ f ≤ 5 then s.2 1 f else -1) s) : cm iv L h0 (d + 1) 63 [vr 307, vi f] s (qi F) := by
  refine B63 ⟨fun h => ⟨by omega, ?_⟩, fun h => ?_⟩
  · rw [if_pos h] at H; exact H
  · rw [if_neg (by omega)] at H; exact H
theorem kind_ok {p a b : Int} {F : Int → SM → Prop} (hK : KIs s) (H1 : kbad s a b → F (-1) s) (H2 : ¬ kbad s a b → F (kndA s p a b) (kndU s p a b)) : cm iv L h0 (d + 2) 68 [vr 307, vi p, vi a, vi b] s (qi F) := by
  obtain ⟨k1, k2, k3⟩ := hK
  have sz : ∀ k, 0 ≤ k → k < s.1 2 → 1 ≤ s.2 7 k ∧ s.2 7 k ≤ 40 := fun k q0 q1 => by
    have hKJ : KJs (us s 3 40) := ⟨⟨k1, k2, k3⟩, Int.le_refl 40, fun k k1 k2 => by exfalso; have : k < 40 := k2; omega⟩
    exact (hKJ.at (k := k) (Or.inl ⟨q0, q1⟩)).1
  refine B68 ⟨k1, fun ha => ⟨fun hb => ?_, fun hb => H1 (Or.inr (Or.inl (by omega)))⟩, fun ha => H1 (Or.inl (by omega))⟩
  have sa := sz a ha.1 ha.2
  have sb := sz b hb.1 hb.2
  refine ⟨by omega, by omega, by omega, by omega, fun h40 => ?_, fun h40 => H1 (Or.inr (Or.inr (by omega)))⟩
  have H3 := H2 (fun q => by rcases q with q | q | q <;> omega)
  have key : ∀ (n : Nat) (k : Int), 3 ≤ k → k ≤ s.1 2 → (s.1 2 - k).toNat = n → kfs s (kis p) a b = kfd (s.2 4) (s.2 5) (s.2 6) (kis p) a b n k → wm iv L h0 (d + 2) 68 52 [lr 307, ln, li a, li b, li (kis p), li k] [] s (qi F) := by
    intro n
    induction n with
    | zero =>
      intro k q3 qk qn hf
      have hf : kfs s (kis p) a b = -1 := hf
      refine B68_52 ⟨fun _ => ⟨fun h => ⟨by omega, by omega, by omega, by omega, B66 ⟨by omega, ?_⟩⟩, fun h => ?_⟩, fun h => by omega⟩
      · rw [show kndA s p a b = s.1 2 from by unfold kndA; rw [hf, if_neg (by decide), if_neg h], show kndU s p a b = us (ua (ua (ua (ua s 4 (s.1 2) (kis p)) 5 (s.1 2) a) 6 (s.1 2) b) 7 (s.1 2) (1 + s.2 7 a + s.2 7 b)) 2 (s.1 2 + 1) from by unfold kndU; rw [hf, if_neg (by decide), if_neg h]] at H3
        refine ⟨by show -2147483648 ≤ s.1 2 + 1 ∧ s.1 2 + 1 ≤ 2147483647; omega, by show -2147483648 ≤ s.1 2 + 1 - 1 ∧ s.1 2 + 1 - 1 ≤ 2147483647; omega, ?_⟩
        show F (s.1 2 + 1 - 1) _
        rw [show s.1 2 + 1 - 1 = s.1 2 by omega]
        exact H3
      · rw [show kndA s p a b = -2 from by unfold kndA; rw [hf, if_neg (by decide), if_pos h], show kndU s p a b = s from by unfold kndU; rw [hf, if_neg (by decide), if_pos h]] at H3
        exact H3
    | succ n ih =>
      intro k q3 qk qn hf
      have nx : ¬ (s.2 4 k = kis p ∧ s.2 5 k = a ∧ s.2 6 k = b) → wm iv L h0 (d + 2) 68 52 [lr 307, ln, li a, li b, li (kis p), li (k + 1)] [] s (qi F) := fun e => by
        unfold kfd at hf
        rw [if_neg e] at hf
        exact ih (k + 1) (by omega) (by omega) (by omega) hf
      refine B68_52 ⟨fun h => by omega, fun h => ⟨by omega, fun e => ⟨by omega, nx (fun q => e q.1)⟩, fun e1 => ⟨fun e => ⟨by omega, nx (fun q => e q.2.1)⟩, fun e2 => ⟨fun e => ⟨by omega, nx (fun q => e q.2.2)⟩, fun e3 => ?_⟩⟩⟩⟩
      unfold kfd at hf
      rw [if_pos ⟨e1, e2, e3⟩] at hf
      rw [show kndA s p a b = k from by unfold kndA; rw [hf, if_pos (by omega)], show kndU s p a b = s from by unfold kndU; rw [hf, if_pos (by omega)]] at H3
      exact H3
  refine ⟨fun e => ?_, fun e => ?_⟩
  · have := key _ 3 (by omega) (by omega) rfl rfl
    rw [show kis p = 3 from if_pos e] at this
    exact this
  · have := key _ 3 (by omega) (by omega) rfl rfl
    rw [show kis p = 4 from if_neg e] at this
    exact this
def kofA (s : SM) (k w : Int) : Int := if 0 ≤ k ∧ k < s.1 2 then (if w = 0 then s.2 4 k else if w = 1 then s.2 5 k else if w = 2 then s.2 6 k else if w = 3 then s.2 7 k else -1) else -1
theorem kindOf_ok {k w : Int} {F : Int → SM → Prop} (hK : KIs s) (H : F (kofA s k w) s) : cm iv L h0 (d + 2) 69 [vr 307, vi k, vi w] s (qi F) := by
  obtain ⟨k1, k2, k3⟩ := hK
  unfold kofA at H
  refine B69 ⟨k1, fun h1 => ?_, fun h1 => by rw [if_neg (by omega)] at H; exact H⟩
  rw [if_pos h1] at H
  refine ⟨fun h2 => ⟨fun e0 => ⟨fun e1 => ⟨fun e2 => ⟨by omega, ?_⟩, fun e2 => ⟨by omega, ?_⟩⟩, fun e1 => ⟨by omega, ?_⟩⟩, fun e0 => ⟨by omega, ?_⟩⟩, fun h2 => ?_⟩
  · rw [if_neg e0, if_neg e1, if_neg e2, if_pos (by omega)] at H; exact H
  · rw [if_neg e0, if_neg e1, if_pos e2] at H; exact H
  · rw [if_neg e0, if_pos e1] at H; exact H
  · rw [if_pos e0] at H; exact H
  · rw [if_neg (by omega), if_neg (by omega), if_neg (by omega), if_neg (by omega)] at H; exact H
def metA (s : SM) (a b : Int) : Int := if (0 ≤ a ∧ a < s.1 2) ∧ (0 ≤ b ∧ b < s.1 2) then (if kmt (kks s a) (kks s b) then 1 else 0) else -1
theorem KJ_40 (hK : KIs s) : KJ (s.1 2) 40 (s.2 4) (s.2 5) (s.2 6) (s.2 7) := ⟨hK, Int.le_refl 40, fun k k1 k2 => by exfalso; omega⟩
theorem meet_ok {a b : Int} {F : Int → SM → Prop} (hK : KIs s) (h3 : KJs s ∧ s.1 3 ≤ 6000) (hd : 50 ≤ d) (H : F (metA s a b) s) : cm iv L h0 d 72 [vr 307, vi a, vi b] s (qi F) := by
  obtain ⟨d, rfl⟩ : ∃ k, d = k + 2 := ⟨d - 2, by omega⟩
  unfold metA at H
  refine B72 ⟨hK.1, fun ha => ⟨fun hb => ?_, fun hb => by rw [if_neg (by omega)] at H; exact H⟩, fun ha => by rw [if_neg (by omega)] at H; exact H⟩
  rw [if_pos ⟨ha, hb⟩, kks_told ha, kks_told hb] at H
  refine wci_mono (areMeeting_ok h3.1 h3.2 40 a b (h3.1.at (k := a) (Or.inl ha)).1.2 (Or.inl ha) (Or.inl hb)) (by omega) ?_
  rintro r w ⟨rfl, rfl⟩
  cases h : kmt (kts w a) (kts w b) with
  | true => rw [h] at H; exact ⟨fun q => absurd q (by decide), fun _ => H⟩
  | false => rw [h] at H; exact ⟨fun _ => H, fun q => absurd rfl q⟩
theorem spell_ok : ∀ (q : Nat) (s : SM) (k : Int), KJs s → s.2 7 k ≤ q → vks s k → s.1 3 ≤ 6000 → 0 ≤ s.1 23 → s.1 23 + s.2 7 k ≤ 64 → cm iv L h0 q 96 [vr 307, vi k] s (qv fun w => SGR s w (sg (kts s k)) ∧ ((sg (kts s k)).length : Int) = s.2 7 k) := by
  intro q
  induction q with
  | zero =>
    intro s k hK hq hk
    have := (hK.at hk).1
    omega
  | succ q ih =>
    intro s k hK hq hk h3 hz hl
    obtain ⟨z1, z2, z3, z4⟩ := hK.at hk
    have hlt := hk.lt hK.1.1.2 hK.2.1
    have lf := kt_leaf (k := k) hK
    have nd := kt_node hK hk
    have fin : ∀ c : Int, s.2 4 k < 3 → sg (kts s k) = [c] → (SGR s (us (ua s 22 (s.1 23) c) 23 (s.1 23 + 1)) (sg (kts s k)) ∧ ((sg (kts s k)).length : Int) = s.2 7 k) := fun c c3 e => by
      rw [e]
      exact ⟨SGR.one, by have := (z3 c3).2; simp; omega⟩
    have two : ∀ c : Int, 3 ≤ s.2 4 k → sg (kts s k) = c :: (sg (kts s (s.2 5 k)) ++ sg (kts s (s.2 6 k))) → cm iv L h0 q 96 [vr 307, vi (s.2 5 k)] (us (ua s 22 (s.1 23) c) 23 (s.1 23 + 1)) (qv fun s5 => cm iv L h0 q 96 [vr 307, vi (s5.2 6 k)] s5 (qv fun s6 => SGR s s6 (sg (kts s k)) ∧ ((sg (kts s k)).length : Int) = s.2 7 k)) := fun c c3 e => by
      obtain ⟨y1, y2, y3, y4, y5, y6⟩ := z4 c3
      have hm := hK.2.1
      have y2 : vks s (s.2 5 k) := vk_le y2 hk hm
      have y3 : vks s (s.2 6 k) := vk_le y3 hk hm
      refine wcv_mono (ih (us (ua s 22 (s.1 23) c) 23 (s.1 23 + 1)) (s.2 5 k) hK (by show s.2 7 _ ≤ _; omega) y2 h3 (by show 0 ≤ s.1 23 + 1; omega) (by show s.1 23 + 1 + s.2 7 _ ≤ 64; omega)) (Nat.le_refl _) ?_
      rintro w ⟨w1, w2⟩
      have w1' : SGR (us (ua s 22 (s.1 23) c) 23 (s.1 23 + 1)) w (sg (kts s (s.2 5 k))) := w1
      have w2' : ((sg (kts s (s.2 5 k))).length : Int) = s.2 7 (s.2 5 k) := w2
      have a1 := SGR.one.tr w1'
      have e4 : w.2 4 = s.2 4 := a1.1.2 4 (by decide)
      have e5 : w.2 5 = s.2 5 := a1.1.2 5 (by decide)
      have e6 : w.2 6 = s.2 6 := a1.1.2 6 (by decide)
      have e7 : w.2 7 = s.2 7 := a1.1.2 7 (by decide)
      have g2 : w.1 2 = s.1 2 := a1.1.1 2 (by decide)
      have g3 : w.1 3 = s.1 3 := a1.1.1 3 (by decide)
      have g23 : w.1 23 = s.1 23 + 1 + s.2 7 (s.2 5 k) := by
        have := a1.2.1
        simp at this
        omega
      have hKw : KJs w := by
        show KJ (w.1 2) (w.1 3) (w.2 4) (w.2 5) (w.2 6) (w.2 7)
        rw [e4, e5, e6, e7, g2, g3]; exact hK
      have hkt : ∀ x, kts w x = kts s x := fun x => by
        show kt (w.2 4) (w.2 5) (w.2 6) x = _
        rw [e4, e5, e6]
      rw [e6]
      refine wcv_mono (ih w (s.2 6 k) hKw (by rw [e7]; omega) (by show vk (w.1 2) (w.1 3) _; rw [g2, g3]; exact y3) (by omega) (by omega) (by rw [e7]; omega)) (Nat.le_refl _) ?_
      rintro u ⟨u1, u2⟩
      rw [hkt] at u1 u2
      rw [e7] at u2
      have b1 := a1.tr u1
      rw [e]
      refine ⟨by simpa using b1, ?_⟩
      simp only [List.length_cons, List.length_append]
      omega
    have e8 : w8 112 = 112 ∧ w8 102 = 102 ∧ w8 116 = 116 ∧ w8 119 = 119 ∧ w8 63 = 63 := ⟨rfl, rfl, rfl, rfl, rfl⟩
    refine B96 ⟨by omega, fun n0 => ⟨fun n1 => ⟨fun n2 => ⟨fun n3 => ⟨by omega, by decide, by omega, fun c => by omega, fun c => ?_⟩, fun c3 => ⟨by omega, by decide, by omega, fun c => by omega, fun c => ?_⟩⟩, fun c2 => ⟨by omega, by decide, by omega, fun c => ?_, fun c => by omega⟩⟩, fun c1 => ⟨by omega, by decide, by omega, fun c => ?_, fun c => by omega⟩⟩, fun c0 => ⟨by omega, by decide, by omega, fun c => ?_, fun c => by omega⟩⟩
    · rw [e8.1]
      refine two 112 c ?_
      rw [show kts s k = .mul (kts s (s.2 5 k)) (kts s (s.2 6 k)) from nd.2 (by omega)]
      rfl
    · rw [e8.2.1]
      refine two 102 c ?_
      rw [show kts s k = .add (kts s (s.2 5 k)) (kts s (s.2 6 k)) from nd.1 c3]
      rfl
    · rw [e8.2.2.1]
      refine fin 116 c ?_
      rw [show kts s k = .thrown from lf.2.2 c2]
      rfl
    · rw [e8.2.2.2.1]
      refine fin 119 c ?_
      rw [show kts s k = .result from lf.2.1 c1]
      rfl
    · rw [e8.2.2.2.2]
      refine fin 63 c ?_
      rw [show kts s k = .null from lf.1 c0]
      rfl
end
end
section
/-! What the reference tells of its tree. -/
theorem jds_e {s w : SM} (h9 : w.2 9 = s.2 9) (h10 : w.2 10 = s.2 10) (h11 : w.2 11 = s.2 11) (h12 : w.2 12 = s.2 12) (h13 : w.2 13 = s.2 13) (h14 : w.2 14 = s.2 14) (h2 : w.1 2 = s.1 2) (hk : ∀ k, 0 ≤ k → k < s.1 2 → kts w k = kts s k) : jds w = jds s := by
  funext t A J
  have ek : kks w = kks s := by
    funext k
    unfold kks
    rw [h2]
    by_cases e : 0 ≤ k ∧ k < s.1 2
    · rw [if_pos e, if_pos e]; exact hk k e.1 e.2
    · rw [if_neg e, if_neg e]
  have eb : bds w = bds s := by
    funext b x
    show bnd (w.2 9) (w.2 10) (w.2 12) (w.2 13) 70 b x = _
    rw [h9, h10, h12, h13]
  unfold jds
  rw [h9, h10, h11, h14, ek, eb]
theorem jdg_e {s w : SM} {t : Term} (h : eqx [18] [17] s w) : jdg w t = jdg s t := by
  unfold jdg
  rw [jds_e (h.2 9 (by decide)) (h.2 10 (by decide)) (h.2 11 (by decide)) (h.2 12 (by decide)) (h.2 13 (by decide)) (h.2 14 (by decide)) (h.1 2 (by decide)) (fun k _ _ => by
    show kt (w.2 4) (w.2 5) (w.2 6) k = _
    rw [h.2 4 (by decide), h.2 5 (by decide), h.2 6 (by decide)])]
theorem SX_lay {s w : SM} (h : eqx [18] [17] s w) : SX [] [] s w := SX.eq h (by decide) (by decide)
/-- laid and judged -/
def JL (s w : SM) (t : Term) : Prop := eqx [3, 18] [4, 5, 6, 7, 17, 19, 20, 21] s w ∧ SX [] [] s w ∧ LR w (fl t) ∧ (∀ x, x ∈ fl t → w.2 21 x = (jdg s t).2.2 x ∧ 0 ≤ (jdg s t).2.2 x ∧ (jdg s t).2.2 x ≤ 6) ∧ KJs w ∧ w.1 3 ≤ 6000
section
variable {iv : List (Int × Int)} {L : Nat} {h0 : MH} {s : SM} {t : Term} {d : Nat}
theorem jl_ok {F : SM → Prop} {d' : Nat} (h : SHT s t) (hN : NB s) (hK : KIs s) (hD : 230 ≤ d) (hD' : 63 ≤ d') (hF : ∀ w, JL s w t → F w) : cm iv L h0 d 86 [vr 307] s (qv fun s1 => cm iv L h0 d' 79 [vr 307] s1 (qv F)) := by
  refine judge_ok h hN hK hD (fun w hw => ?_)
  have hx := hw.sx
  refine layAll_ok (h.x hx (by decide) (by decide)) hD' (fun v h1 h2 => hF v ?_)
  have h21 : v.2 21 = w.2 21 := h1.2 21 (by decide)
  refine ⟨(hw.1.up (fun y q => by simp at q ⊢; omega) (fun y q => by simp at q ⊢; omega)).tr (h1.up (fun y q => by simp at q ⊢; omega) (fun y q => by simp at q ⊢; omega)), hx.tr (SX_lay h1), h2, fun x hx2 => ?_, ?_, ?_⟩
  · have := (hw.2.2.2.1 x hx2).2.2
    rw [h21]
    exact this
  · have hk := hw.2.2.1
    show KJ (v.1 2) (v.1 3) (v.2 4) (v.2 5) (v.2 6) (v.2 7)
    rw [h1.1 2 (by decide), h1.1 3 (by decide), h1.2 4 (by decide), h1.2 5 (by decide), h1.2 6 (by decide), h1.2 7 (by decide)]
    exact hk
  · rw [h1.1 3 (by decide)]
    exact hw.2.2.2.2
theorem judge2_ok {w : SM} {F : SM → Prop} (h : SHT s t) (hN : NB s) (hK : KIs s) (hw : eqx [18] [17] s w) (hD : 230 ≤ d) (hF : ∀ v, SX [] [] s v → KJs v → v.1 3 ≤ 6000 → JR v (jdg s t) (fun x => x ∈ fl t) → F v) : cm iv L h0 d 86 [vr 307] w (qv F) := by
  have hx := SX_lay hw
  have h8 := h.2.2.2.2.1.2
  refine judge_ok (h.x hx (by decide) (by decide)) (hN.x hx h8 (by decide) (by decide)) (KI_x hK hx (by decide) (by decide)) hD (fun v hv => hF v (hx.tr hv.sx) hv.2.2.1 hv.2.2.2.2 ?_)
  have := hv.2.2.2.1
  rw [jdg_e hw] at this
  exact this
def tldA (s : SM) (t : Term) (b k : Int) : Int := if b ∈ fl t then (if k = 0 then s.2 9 b else if k = 1 then s.2 10 b else if k = 2 then s.2 11 b else if k = 3 then s.2 12 b else if k = 4 then s.2 13 b else if k = 5 then pO (s.2 9 b) else if k = 6 then (jdg s t).2.2 b else -1) else -1
theorem told_ok {b k : Int} {F : Int → SM → Prop} (h : SHT s t) (hN : NB s) (hK : KIs s) (hD : 240 ≤ d) (hF : ∀ w, SX [] [] s w → F (tldA s t b k) w) : cm iv L h0 d 94 [vr 307, vi b, vi k] s (qi F) := by
  obtain ⟨d, rfl⟩ : ∃ k, d = k + 1 := ⟨d - 1, by omega⟩
  refine B94 (isThere_ok h (by omega) (fun w h1 h2 => ⟨fun e => ?_, fun e => ?_⟩))
  · have := hF w (SX_lay h1)
    rw [tldA, if_neg (fun q => by rw [if_pos q] at e; cases e)] at this
    exact this
  · have hb : b ∈ fl t := Classical.byContradiction fun q => by rw [if_neg q] at e; exact e rfl
    have hlt := h.lt hb
    have e0 := (AT_mem t h.1 b hb).2.1
    rw [← h1.2 9 (by decide)] at e0
    have fin : ∀ v z, SX [] [] s v → tldA s t b k = z → F z v := fun v z q1 q2 => by rw [← q2]; exact hF v q1
    have hs := SX_lay h1
    have tl : tldA s t b k = if k = 0 then s.2 9 b else if k = 1 then s.2 10 b else if k = 2 then s.2 11 b else if k = 3 then s.2 12 b else if k = 4 then s.2 13 b else if k = 5 then pO (s.2 9 b) else if k = 6 then (jdg s t).2.2 b else -1 := if_pos hb
    refine ⟨fun hk => ⟨fun q => ⟨by omega, fin w _ hs ?_⟩, fun q => ⟨by omega, fin w _ hs ?_⟩, fun q => ⟨by omega, fin w _ hs ?_⟩, fun q => ⟨by omega, fin w _ hs ?_⟩, fun q => ⟨by omega, fin w _ hs ?_⟩, fun q => ⟨by omega, e0, fin w _ hs ?_⟩, fun q => judge2_ok h hN hK h1 (by omega) (fun v v1 v2 v3 v4 => ⟨by omega, fin v _ v1 ?_⟩)⟩, fun hk => fin w _ hs ?_⟩
    · rw [tl, if_pos q, h1.2 9 (by decide)]
    · subst q; rw [tl, h1.2 10 (by decide)]; rfl
    · subst q; rw [tl, h1.2 11 (by decide)]; rfl
    · subst q; rw [tl, h1.2 12 (by decide)]; rfl
    · subst q; rw [tl, h1.2 13 (by decide)]; rfl
    · subst q; rw [tl, h1.2 9 (by decide)]; rfl
    · obtain rfl : k = 6 := by omega
      rw [tl, (v4 b hb).2.2.1]
      rfl
    · rw [tl, if_neg (by omega), if_neg (by omega), if_neg (by omega), if_neg (by omega), if_neg (by omega), if_neg (by omega), if_neg (by omega)]
/-- a part, none where it has none such -/
def parA (s : SM) (t : Term) (b i : Int) : Int := if b ∈ fl t then (if 0 ≤ i ∧ i < pO (s.2 9 b) then s.2 14 (3 * b + i) else -3) else -1
def parU (s : SM) (t : Term) (b i : Int) : SM := if b ∈ fl t ∧ ¬ (0 ≤ i ∧ i < pO (s.2 9 b)) then mtU s 2 else s
theorem CM.x {n : Int} {ey ef : List Nat} {w : SM} (h : CM n s) (hx : SX ey ef s w) (hf : 1 ∉ ef) : CM n w := fun f f0 f6 => by
  rw [hx.2 1 (by decide) hf f (by unfold scI; omega)]
  exact h f f0 f6
theorem mtU_x {ey ef : List Nat} {w : SM} {f : Int} (hx : SX ey ef s w) (hf : 1 ∉ ef) : SX ey ef (mtU s f) (mtU w f) := by
  unfold mtU
  rw [hx.2 1 (by decide) hf f (by unfold scI; omega)]
  exact hx.us.ua
theorem part_ok {n b i : Int} {F : Int → SM → Prop} (h : SHT s t) (hc : CM n s) (hn : n ≤ 600) (hD : 240 ≤ d) (hF : ∀ w, SX [] [] (parU s t b i) w → F (parA s t b i) w) : cm iv L h0 d 95 [vr 307, vi b, vi i] s (qi F) := by
  obtain ⟨d, rfl⟩ : ∃ k, d = k + 1 := ⟨d - 1, by omega⟩
  refine B95 (isThere_ok h (by omega) (fun w h1 h2 => ⟨fun e => ?_, fun e => ?_⟩))
  · have hb : b ∈ fl t := Classical.byContradiction fun q => by rw [if_neg q] at e; exact e rfl
    have hlt := h.lt hb
    have m := AT_mem t h.1 b hb
    have e9 : w.2 9 = s.2 9 := h1.2 9 (by decide)
    have hp := pO_in (s.2 9 b)
    rw [e9]
    refine ⟨by omega, m.2.1, by omega, fun hi => ⟨by omega, by omega, by omega, ?_⟩, fun hi => ?_⟩
    · have := hF w (by rw [parU, if_neg (fun q => q.2 ⟨hi.1, by omega⟩)]; exact SX_lay h1)
      rw [parA, if_pos hb, if_pos ⟨hi.1, by omega⟩] at this
      rw [h1.2 14 (by decide)]
      exact this
    · refine meets_ok (n := n) (hc.x (SX_lay h1) (by decide)) hn (by decide) ?_
      have := hF (mtU w 2) (by rw [parU, if_pos ⟨hb, by omega⟩]; exact mtU_x (SX_lay h1) (by decide))
      rw [parA, if_pos hb, if_neg (by omega)] at this
      exact this
  · have hb : b ∉ fl t := fun q => by rw [if_pos q] at e; cases e
    have := hF w (by rw [parU, if_neg (fun q => hb q.1)]; exact SX_lay h1)
    rw [parA, if_neg hb] at this
    exact this
/-- sign i of a kind, none behind its end -/
def sgn (T : Term) (i : Int) : Int := if i < 0 then -9 else (sg T).getD i.toNat (-9)
def sigA (s : SM) (t : Term) (b q i : Int) : Int := if b ∈ fl t ∧ 0 ≤ i then (if q = 0 then sgn ((jdg s t).1 b) i else match (jdg s t).2.1 b with
  | none => -9
  | some T => sgn T i) else -1
theorem sign_ok {b q i : Int} {F : Int → SM → Prop} (h : SHT s t) (hN : NB s) (hK : KIs s) (hD : 240 ≤ d) (hF : ∀ w, SX [] [] s w → F (sigA s t b q i) w) : cm iv L h0 d 97 [vr 307, vi b, vi q, vi i] s (qi F) := by
  obtain ⟨d, rfl⟩ : ∃ k, d = k + 1 := ⟨d - 1, by omega⟩
  refine B97 (isThere_ok h (by omega) (fun w h1 h2 => ⟨fun e => ?_, fun e => ?_⟩))
  · have := hF w (SX_lay h1)
    rw [sigA, if_neg (fun c => by rw [if_pos c.1] at e; cases e)] at this
    exact this
  have hb : b ∈ fl t := Classical.byContradiction fun q => by rw [if_neg q] at e; exact e rfl
  have hlt := h.lt hb
  refine ⟨fun hi => judge2_ok h hN hK h1 (by omega) (fun v v1 v2 v3 v4 => ?_), fun hi => ?_⟩
  · obtain ⟨⟨j1, j2⟩, j3, j4⟩ := v4 b hb
    have sp : ∀ k, vks v k → sigA s t b q i = sgn (kts v k) i → cm iv L h0 d 96 [vr 307, vi k] (us v 23 0) (qv fun s5 => ((s5.1 23 ≤ i → F (-9) s5) ∧ (i < s5.1 23 → (0 ≤ i ∧ i < 64) ∧ F (s5.2 22 i) s5))) := fun k hk ek => by
      have hz := (v2.at hk).1
      refine wcv_mono (spell_ok 40 (us v 23 0) k v2 hz.2 hk v3 (Int.le_refl 0) (by show (0 : Int) + v.2 7 k ≤ 64; omega)) (by omega) ?_
      rintro u ⟨⟨u1, u2, u3, u4⟩, u5⟩
      have u2 : u.1 23 = 0 + ((sg (kts v k)).length : Int) := u2
      have u5 : ((sg (kts v k)).length : Int) = v.2 7 k := u5
      have su : SX [] [] s u := v1.tr ((SX.eq (eqx_us (s := v) (t := v) eqx.rf (y := 23) (z := 0) (ys := [23]) (fs := [22]) (by decide)) (by decide) (by decide)).tr (SX.eq u1 (by decide) (by decide)))
      have hF2 := hF u su
      rw [ek, sgn, if_neg (by omega)] at hF2
      refine ⟨fun q1 => ?_, fun q1 => ⟨by omega, ?_⟩⟩
      · rw [List.getD_eq_getElem?_getD, List.getElem?_eq_none (by omega)] at hF2
        exact hF2
      · have hj : i.toNat < (sg (kts v k)).length := by omega
        have := u3 i.toNat _ (List.getElem?_eq_getElem hj)
        have e23 : (us v 23 0).1 23 = 0 := rfl
        rw [e23, show (0 : Int) + (i.toNat : Int) = i by omega] at this
        rw [List.getD_eq_getElem?_getD, List.getElem?_eq_getElem hj] at hF2
        rw [this]
        exact hF2
    have hsa : sigA s t b q i = if q = 0 then sgn ((jdg s t).1 b) i else match (jdg s t).2.1 b with
      | none => -9
      | some T => sgn T i := if_pos ⟨hb, hi⟩
    refine ⟨fun hq => ⟨by omega, fun c => sp _ j1 ?_, fun c => ?_⟩, fun hq => ⟨by omega, fun c => ?_, fun c => ?_⟩⟩
    · rw [hsa, if_pos hq, j2]
    · have := j1.lt v2.1.1.2 v2.2.1
      omega
    · rw [if_neg hq] at hsa
      cases hA : (jdg s t).2.1 b with
      | none => rw [hA] at j3; exact absurd j3 c
      | some T =>
        rw [hA] at j3 hsa
        refine sp _ j3.1 ?_
        rw [hsa, j3.2]
    · have hF2 := hF v v1
      rw [if_neg hq] at hsa
      cases hA : (jdg s t).2.1 b with
      | none =>
        rw [hA] at hsa
        rw [hsa] at hF2
        exact hF2
      | some T =>
        rw [hA] at j3
        have := j3.1.lt v2.1.1.2 v2.2.1
        omega
  · have := hF w (SX_lay h1)
    rw [sigA, if_neg (by omega)] at this
    exact this
end
end
section
/-! More of what the reference tells; the cursor; the box. -/
def holA (s : SM) (t : Term) (i f : Int) : Int := nthp (if f = 0 then isH s else isF (jdg s t)) (fl t) i
def besA (s : SM) (z : Int) : Int := if s.2 12 (s.1 16) = -9 then -9 else if 0 ≤ s.2 13 (s.1 16) + z ∧ s.2 13 (s.1 16) + z < pO (s.2 9 (s.2 12 (s.1 16))) then s.2 14 (3 * s.2 12 (s.1 16) + (s.2 13 (s.1 16) + z)) else -9
def goG (s : SM) (t : Term) (k : Int) : Int := if k = 0 then s.2 12 (s.1 16) else if k = 1 then (if 0 < pO (s.2 9 (s.1 16)) then s.2 14 (3 * s.1 16) else -9) else if k = 2 then besA s 1 else if k = 3 then besA s (-1) else if k = 4 then bhd (isH s) (s.1 16) (fl t) false else s.1 15
def goA (s : SM) (t : Term) (k : Int) : Int := if 0 ≤ k ∧ k ≤ 5 then (if goG s t k = -9 then -4 else goG s t k) else -1
def goU (s : SM) (t : Term) (k : Int) : SM := if (0 ≤ k ∧ k ≤ 5) ∧ goG s t k ≠ -9 then us s 16 (goG s t k) else s
def seeA (t : Term) (b : Int) : Int := if b ∈ fl t then 1 else -1
def seeU (s : SM) (t : Term) (b : Int) : SM := if b ∈ fl t then us s 16 b else s
theorem bhd_c (P : Int → Bool) (c x : Int) (r : List Int) (q : Bool) : bhd P c (x :: r) q = if q && P x then x else bhd P c r (q || decide (x = c)) := rfl
theorem bhd_in (P : Int → Bool) (c : Int) : ∀ (l : List Int) (q : Bool), bhd P c l q = -9 ∨ (bhd P c l q ∈ l ∧ P (bhd P c l q) = true) := by
  intro l
  induction l with
  | nil => intro q; exact Or.inl rfl
  | cons x r ih =>
    intro q
    unfold bhd
    by_cases e : (q && P x) = true
    · rw [if_pos e]
      simp at e
      exact Or.inr ⟨List.mem_cons_self .., e.2⟩
    · rw [if_neg e]
      exact (ih _).imp id (fun h => ⟨List.mem_cons_of_mem _ h.1, h.2⟩)
section
variable {iv : List (Int × Int)} {L : Nat} {h0 : MH} {s : SM} {t : Term} {d : Nat}
theorem SHT.fl80 (h : SHT s t) {p m : List Int} {x : Int} (e : fl t = p ++ x :: m) : (p.length : Int) < 80 ∧ x ∈ fl t := by
  have := h.2.2.2.1
  rw [e] at this ⊢
  simp at this ⊢
  omega
theorem hole_ok {i f : Int} {F : Int → SM → Prop} (h : SHT s t) (hN : NB s) (hK : KIs s) (hD : 240 ≤ d) (hF : ∀ w, SX [] [] s w → F (holA s t i f) w) : cm iv L h0 d 98 [vr 307, vi i, vi f] s (qi F) := by
  obtain ⟨d, rfl⟩ : ∃ k, d = k + 1 := ⟨d - 1, by omega⟩
  refine wc_ok (fun hok _ => ?_)
  have hi : inR i := hok (vi i) (by simp)
  unfold inR at hi
  refine B98 (jl_ok h hN hK (by omega) (by omega) (fun w hw => ?_))
  obtain ⟨w1, w2, w3, w4, -⟩ := hw
  have h2 := hF w w2
  have e9 : w.2 9 = s.2 9 := w1.2 9 (by decide)
  have key : ∀ (m p : List Int) (k : Int), fl t = p ++ m → 0 ≤ k → k ≤ 2147483647 → (0 ≤ i → holA s t i f = nthp (if f = 0 then isH s else isF (jdg s t)) m k) → wm iv L h0 (d + 1) 98 13 [lr 307, li i, li f, li k, li p.length] [] w (qi F) := by
    intro m
    induction m with
    | nil =>
      intro p k e k0 k1 hk
      have := LR_nil w3 e
      refine B98_13 ⟨fun _ => ?_, fun q => by omega⟩
      by_cases hi0 : 0 ≤ i
      · rw [hk hi0] at h2; exact h2
      · rw [holA, nthp_neg _ _ _ (by omega)] at h2; exact h2
    | cons x m ih =>
      intro p k e k0 k1 hk
      obtain ⟨c1, c2⟩ := LR_cons w3 e
      obtain ⟨c3, hx⟩ := h.fl80 e
      have hlt := h.lt hx
      have e' := e
      rw [app1] at e'
      have e1 : ((p ++ [x]).length : Int) = p.length + 1 := by simp
      refine B98_13 ⟨fun q => by omega, fun _ => ⟨fun q => ?_, fun q => ?_⟩⟩
      · rw [holA, nthp_neg _ _ _ q] at h2; exact h2
      have hk := hk q
      unfold nthp at hk
      have go1 : (if f = 0 then isH s else isF (jdg s t)) x = false → wm iv L h0 (d + 1) 98 13 [lr 307, li i, li f, li k, li (p.length + 1)] [] w (qi F) := fun c => by
        rw [c, if_neg (by decide)] at hk
        have := ih (p ++ [x]) k e' k0 k1 (fun _ => hk)
        rw [e1] at this
        exact this
      have go2 : (if f = 0 then isH s else isF (jdg s t)) x = true → k ≠ 0 → wm iv L h0 (d + 1) 98 13 [lr 307, li i, li f, li (k - 1), li (p.length + 1)] [] w (qi F) := fun c kn => by
        rw [c, if_pos rfl, if_neg kn] at hk
        have := ih (p ++ [x]) (k - 1) e' (by omega) (by omega) (fun _ => hk)
        rw [e1] at this
        exact this
      have go3 : (if f = 0 then isH s else isF (jdg s t)) x = true → k = 0 → F x w := fun c kn => by
        rw [c, if_pos rfl, if_pos kn] at hk
        rw [hk] at h2
        exact h2
      rw [c1]
      refine ⟨fun hf => ⟨by omega, by omega, fun c => ⟨by omega, go1 ?_⟩, fun c => ⟨fun kn => ⟨by omega, by omega, go2 ?_ kn⟩, fun kn => go3 ?_ kn⟩⟩, fun hf => ⟨by omega, by omega, fun c => ⟨by omega, go1 ?_⟩, fun c => ⟨fun kn => ⟨by omega, by omega, go2 ?_ kn⟩, fun kn => go3 ?_ kn⟩⟩⟩
      · rw [if_pos hf]; rw [e9] at c; exact decide_eq_false c
      · rw [if_pos hf]; rw [e9] at c; exact decide_eq_true c
      · rw [if_pos hf]; rw [e9] at c; exact decide_eq_true c
      · rw [if_neg hf]; rw [(w4 x hx).1] at c; exact decide_eq_false (by omega)
      · rw [if_neg hf]; rw [(w4 x hx).1] at c; exact decide_eq_true c
      · rw [if_neg hf]; rw [(w4 x hx).1] at c; exact decide_eq_true c
  by_cases hi0 : 0 ≤ i
  · exact key (fl t) [] i rfl hi0 hi.2 (fun _ => rfl)
  · refine B98_13 ⟨fun _ => ?_, fun _ => ⟨fun _ => ?_, fun q => by omega⟩⟩
    · rw [holA, nthp_neg _ _ _ (by omega)] at h2; exact h2
    · rw [holA, nthp_neg _ _ _ (by omega)] at h2; exact h2
theorem holeBehind_ok {F : Int → SM → Prop} (h : SHT s t) (hD : 240 ≤ d) (hF : ∀ w, eqx [18] [17] s w → F (bhd (isH s) (s.1 16) (fl t) false) w) : cm iv L h0 d 104 [vr 307] s (qi F) := by
  obtain ⟨d, rfl⟩ : ∃ k, d = k + 1 := ⟨d - 1, by omega⟩
  refine B104 (layAll_ok h (by omega) (fun w h1 w3 => ?_))
  have h2 := hF w h1
  have e9 : w.2 9 = s.2 9 := h1.2 9 (by decide)
  have e16 : w.1 16 = s.1 16 := h1.1 16 (by decide)
  have key : ∀ (m p : List Int) (q : Bool), fl t = p ++ m → bhd (isH s) (s.1 16) (fl t) false = bhd (isH s) (s.1 16) m q → wm iv L h0 (d + 1) 104 8 [lr 307, li (if q then 1 else 0), li p.length] [] w (qi F) := by
    intro m
    induction m with
    | nil =>
      intro p q e hk
      have := LR_nil w3 e
      refine B104_8 ⟨fun _ => ?_, fun q => by omega⟩
      rw [hk] at h2; exact h2
    | cons x m ih =>
      intro p q e hk
      obtain ⟨c1, c2⟩ := LR_cons w3 e
      obtain ⟨c3, hx⟩ := h.fl80 e
      have hlt := h.lt hx
      have e' := e
      rw [app1] at e'
      have e1 : ((p ++ [x]).length : Int) = p.length + 1 := by simp
      rw [bhd_c] at hk
      refine B104_8 ⟨fun q => by omega, fun _ => ⟨fun q0 => ?_, fun q0 => ?_⟩⟩
      · cases q with
        | true => cases q0
        | false =>
          rw [if_neg (by simp)] at hk
          refine ⟨fun c => absurd rfl c, fun _ => ⟨by omega, fun c => ⟨by omega, ?_⟩, fun c => ⟨by omega, ?_⟩⟩⟩
          · have := ih (p ++ [x]) false e' (by rw [hk, show (false || decide (x = s.1 16)) = false from by rw [← e16]; simp; omega])
            rw [e1] at this
            exact this
          · have := ih (p ++ [x]) true e' (by rw [hk, show (false || decide (x = s.1 16)) = true from by rw [← e16]; simp; omega])
            rw [e1] at this
            exact this
      · cases q with
        | false => exact absurd rfl q0
        | true =>
          rw [c1, e9]
          refine ⟨by omega, by omega, fun c => ⟨fun _ => ⟨by omega, ?_⟩, fun c => by cases c⟩, fun c => ?_⟩
          · rw [if_neg (by simp [isH, c])] at hk
            have := ih (p ++ [x]) true e' (by rw [hk]; rfl)
            rw [e1] at this
            exact this
          · rw [if_pos (by simp [isH, c])] at hk
            rw [hk] at h2
            exact h2
  exact key (fl t) [] false rfl rfl
theorem goneTo_ok {b : Int} {F : Int → SM → Prop} (H1 : b ≠ -9 → F b (us s 16 b)) (H2 : b = -9 → F (-4) s) : cm iv L h0 d 102 [vr 307, vi b] s (qi F) := B102 ⟨H1, H2⟩
theorem besides_ok {z : Int} {F : Int → SM → Prop} (h : SHT s t) (hc : s.1 16 ∈ fl t) (hz : z = 1 ∨ z = -1) (H : F (besA s z) s) : cm iv L h0 (d + 1) 103 [vr 307, vi z] s (qi F) := by
  have hlt := h.lt hc
  have m := AT_mem t h.1 _ hc
  unfold besA at H
  refine B103 ⟨by omega, fun e => ?_, fun e => ?_⟩
  · have hne : s.1 16 ≠ hd t := fun q => e (by rw [q]; exact h.2.2.2.2.2.2.1)
    obtain ⟨u1, u2, u3⟩ := m.2.2.2 hne
    have ul := h.lt u1
    have mu := (AT_mem t h.1 _ u1).2.1
    have hp := pO_in (s.2 9 (s.2 12 (s.1 16)))
    rw [if_neg e] at H
    refine ⟨by omega, fun q => absurd q e, fun _ => ⟨by omega, mu, by omega, fun q => ⟨by omega, by omega, by omega, ?_⟩, fun q => ?_⟩⟩
    · rw [if_pos ⟨q.1, by omega⟩] at H; exact H
    · rw [if_neg (by omega)] at H; exact H
  · rw [if_pos e] at H
    exact ⟨fun _ => H, fun q => absurd e q⟩
theorem go_ok {k : Int} {F : Int → SM → Prop} (h : SHT s t) (hc : s.1 16 ∈ fl t) (hD : 300 ≤ d) (hF : ∀ w, SX [] [] (goU s t k) w → F (goA s t k) w) : cm iv L h0 d 105 [vr 307, vi k] s (qi F) := by
  obtain ⟨d, rfl⟩ : ∃ k, d = k + 2 := ⟨d - 2, by omega⟩
  have hlt := h.lt hc
  have m := AT_mem t h.1 _ hc
  have fin : ∀ w, SX [] [] s w → 0 ≤ k ∧ k ≤ 5 → ∀ g, g = goG s t k → cm iv L h0 (d + 1) 102 [vr 307, vi g] w (qi fun r w => F r w) := fun w hw hk g hg => by
    subst hg
    refine goneTo_ok (fun e => ?_) (fun e => ?_)
    · have := hF (us w 16 (goG s t k)) (by rw [goU, if_pos ⟨hk, e⟩]; exact hw.us)
      rw [goA, if_pos hk, if_neg e] at this
      exact this
    · have := hF w (by rw [goU, if_neg (fun q => q.2 e)]; exact hw)
      rw [goA, if_pos hk, if_pos e] at this
      exact this
  refine B105 ⟨fun e => ⟨by omega, fin s SX.rf (by omega) _ ?_⟩, fun e => ⟨by omega, m.2.1, fun q => fin s SX.rf (by omega) _ ?_, fun q => ⟨by omega, by omega, fin s SX.rf (by omega) _ ?_⟩⟩, fun e => besides_ok h hc (Or.inl rfl) (fin s SX.rf (by omega) _ ?_), fun e => besides_ok h hc (Or.inr rfl) (fin s SX.rf (by omega) _ ?_), fun e => holeBehind_ok h (by omega) (fun w hw => fin w (SX_lay hw) (by omega) _ ?_), fun e => fin s SX.rf (by omega) _ ?_, fun e => ?_⟩
  · subst e; rfl
  · subst e; show _ = if 0 < pO _ then _ else _; rw [if_neg (by omega)]
  · subst e; show _ = if 0 < pO _ then _ else _; rw [if_pos (by omega)]
  · subst e; rfl
  · subst e; rfl
  · subst e; rfl
  · subst e; rfl
  · have := hF s (by rw [goU, if_neg (by omega)]; exact SX.rf)
    rw [goA, if_neg (by omega)] at this
    exact this
theorem seek_ok {b : Int} {F : Int → SM → Prop} (h : SHT s t) (hD : 300 ≤ d) (hF : ∀ w, SX [] [] (seeU s t b) w → F (seeA t b) w) : cm iv L h0 d 106 [vr 307, vi b] s (qi F) := by
  obtain ⟨d, rfl⟩ : ∃ k, d = k + 1 := ⟨d - 1, by omega⟩
  refine B106 (isThere_ok h (by omega) (fun w h1 h2 => ⟨fun e => ?_, fun e => ?_⟩))
  · have hb : b ∈ fl t := Classical.byContradiction fun q => by rw [if_neg q] at e; exact e rfl
    have := hF (us w 16 b) (by rw [seeU, if_pos hb]; exact (SX_lay h1).us)
    rw [seeA, if_pos hb] at this
    exact this
  · have hb : b ∉ fl t := fun q => by rw [if_pos q] at e; cases e
    have := hF w (by rw [seeU, if_neg hb]; exact SX_lay h1)
    rw [seeA, if_neg hb] at this
    exact this
/-- the box -/
def BX (s : SM) : Prop := (0 ≤ s.1 71 ∧ s.1 71 ≤ 8) ∧ ∀ i, 0 ≤ i → i < 8 → 0 ≤ s.2 72 i ∧ s.2 72 i ≤ s.1 8
def boxA (n : Int) : Int := if 8 < n then -1 else if n < 0 then -3 else n
def zbx (s : SM) : SM := (s.1, fun k j => if k = 72 ∧ 0 ≤ j ∧ j < 8 then 0 else s.2 k j)
def boxU (s : SM) (n : Int) : SM := if 8 < n then s else if n < 0 then mtU s 5 else zbx (us s 71 n)
theorem box_ok {c n : Int} {F : Int → SM → Prop} (hc : CM c s) (hn : c ≤ 600) (H : F (boxA n) (boxU s n)) : cm iv L h0 (d + 1) 151 [vr 307, vi n] s (qi F) := by
  unfold boxA boxU at H
  refine B151 ⟨fun a => ⟨fun b => ?_, fun b => meets_ok hc hn (by decide) (by simp only [if_neg (show ¬ 8 < n by omega), if_pos b] at H; exact H)⟩, fun a => by simp only [if_pos a] at H; exact H⟩
  simp only [if_neg (show ¬ 8 < n by omega), if_neg (show ¬ n < 0 by omega)] at H
  have key : ∀ (m : Nat) (k : Int), 0 ≤ k → k ≤ 8 → (8 - k).toNat = m → wm iv L h0 (d + 1) 151 25 [lr 307, li n, li k] [] ((us s 71 n).1, fun y j => if y = 72 ∧ 0 ≤ j ∧ j < k then 0 else s.2 y j) (qi F) := by
    intro m
    induction m with
    | zero =>
      intro k k0 k8 hm
      obtain rfl : k = 8 := by omega
      exact B151_25 ⟨fun _ => H, fun q => by omega⟩
    | succ m ih =>
      intro k k0 k8 hm
      refine B151_25 ⟨fun q => by omega, fun q => ⟨by omega, by omega, ?_⟩⟩
      have := ih (k + 1) (by omega) (by omega) (by omega)
      refine (show ua ((us s 71 n).1, fun y j => if y = 72 ∧ 0 ≤ j ∧ j < k then 0 else s.2 y j) 72 k 0 = ((us s 71 n).1, fun y j => if y = 72 ∧ 0 ≤ j ∧ j < k + 1 then 0 else s.2 y j) from ?_) ▸ this
      unfold ua
      congr 1
      funext y j
      show (if y = 72 ∧ j = k then 0 else if y = 72 ∧ 0 ≤ j ∧ j < k then 0 else s.2 y j) = if y = 72 ∧ 0 ≤ j ∧ j < k + 1 then 0 else s.2 y j
      by_cases e1 : y = 72 ∧ 0 ≤ j ∧ j < k + 1
      · rw [if_pos e1]
        by_cases e2 : y = 72 ∧ j = k
        · rw [if_pos e2]
        · rw [if_neg e2, if_pos (by omega)]
      · rw [if_neg e1, if_neg (by omega), if_neg (by omega)]
  have h3 := key 8 0 (by omega) (by omega) rfl
  refine (show ((us s 71 n).1, fun y j => if y = 72 ∧ 0 ≤ j ∧ j < 0 then 0 else s.2 y j) = us s 71 n from ?_) ▸ h3
  unfold us
  congr 1
  funext y j
  exact if_neg (by omega)
def kepA (s : SM) (t : Term) (i b : Int) : Int := if b ∈ fl t then (if 0 ≤ i ∧ i < s.1 71 then 1 else -3) else -1
def kepU (s : SM) (t : Term) (i b : Int) : SM := if b ∈ fl t then (if 0 ≤ i ∧ i < s.1 71 then ua s 72 i (b + 1) else mtU s 2) else s
theorem keep_ok {c i b : Int} {F : Int → SM → Prop} (h : SHT s t) (hx : BX s) (hc : CM c s) (hn : c ≤ 600) (hD : 300 ≤ d) (hF : ∀ w, SX [] [] (kepU s t i b) w → F (kepA s t i b) w) : cm iv L h0 d 152 [vr 307, vi i, vi b] s (qi F) := by
  obtain ⟨d, rfl⟩ : ∃ k, d = k + 1 := ⟨d - 1, by omega⟩
  refine B152 (isThere_ok h (by omega) (fun w h1 h2 => ⟨fun e => ?_, fun e => ?_⟩))
  · have hb : b ∈ fl t := Classical.byContradiction fun q => by rw [if_neg q] at e; exact e rfl
    have hlt := h.lt hb
    have h71 := hx.1
    have e71 : w.1 71 = s.1 71 := h1.1 71 (by decide)
    rw [e71]
    refine ⟨by omega, fun q => ⟨by omega, by omega, ?_⟩, fun q => meets_ok (hc.x (SX_lay h1) (by decide)) hn (by decide) ?_⟩
    · have := hF (ua w 72 i (b + 1)) (by rw [kepU, if_pos hb, if_pos (by omega)]; exact (SX_lay h1).ua)
      rw [kepA, if_pos hb, if_pos (by omega)] at this
      exact this
    · have := hF (mtU w 2) (by rw [kepU, if_pos hb, if_neg (by omega)]; exact mtU_x (SX_lay h1) (by decide))
      rw [kepA, if_pos hb, if_neg (by omega)] at this
      exact this
  · have hb : b ∉ fl t := fun q => by rw [if_pos q] at e; cases e
    have := hF w (by rw [kepU, if_neg hb]; exact SX_lay h1)
    rw [kepA, if_neg hb] at this
    exact this
/-- what a place of the box lacks -/
def lakA (s : SM) (i k : Int) : Int := if 0 ≤ i ∧ i < s.1 71 then (if s.2 72 i = 0 then 1 else if s.2 9 (s.2 72 i - 1) = k then 0 else 3) else 2
theorem lacks_ok {i k : Int} {F : Int → SM → Prop} (hx : BX s) (h8 : s.1 8 ≤ 3000) (H : F (lakA s i k) s) : cm iv L h0 (d + 1) 153 [vr 307, vi i, vi k] s (qi F) := by
  obtain ⟨x1, x2⟩ := hx
  unfold lakA at H
  refine B153 ⟨by omega, fun q => ?_, fun q => by rw [if_neg (by omega)] at H; exact H⟩
  have := x2 i q.1 (by omega)
  rw [if_pos (by omega)] at H
  refine ⟨by omega, fun e => ?_, fun e => by rw [if_pos e] at H; exact H⟩
  rw [if_neg e] at H
  refine ⟨by omega, by omega, fun e2 => by rw [if_pos e2] at H; exact H, fun e2 => by rw [if_neg e2] at H; exact H⟩
def bxdA (s : SM) (i k : Int) : Int := if k = 1 ∨ k = 3 then (if lakA s i k = 0 then 1 else -3) else -1
def bxdU (s : SM) (i k : Int) : SM := if k = 1 ∨ k = 3 then (if lakA s i k = 0 then us s 73 (s.2 10 (s.2 72 i - 1)) else mtU s (lakA s i k)) else s
theorem lak_0 {i k : Int} (hx : BX s) (h : lakA s i k = 0) : (0 ≤ i ∧ i < s.1 71 ∧ i < 8) ∧ s.2 9 (s.2 72 i - 1) = k ∧ (1 ≤ s.2 72 i ∧ s.2 72 i ≤ s.1 8) := by
  obtain ⟨x1, x2⟩ := hx
  unfold lakA at h
  by_cases a : 0 ≤ i ∧ i < s.1 71
  · rw [if_pos a] at h
    by_cases b : s.2 72 i = 0
    · rw [if_pos b] at h; cases h
    · rw [if_neg b] at h
      by_cases c : s.2 9 (s.2 72 i - 1) = k
      · have := x2 i a.1 (by omega)
        exact ⟨by omega, c, by omega⟩
      · rw [if_neg c] at h; cases h
  · rw [if_neg a] at h; cases h
theorem lak_in {i k : Int} : lakA s i k = 0 ∨ lakA s i k = 1 ∨ lakA s i k = 2 ∨ lakA s i k = 3 := by
  unfold lakA
  split
  · split
    · simp
    · split <;> simp
  · simp
theorem boxed_ok {c i k : Int} {F : Int → SM → Prop} (hx : BX s) (h8 : s.1 8 ≤ 3000) (hc : CM c s) (hn : c ≤ 600) (H : F (bxdA s i k) (bxdU s i k)) : cm iv L h0 (d + 2) 154 [vr 307, vi i, vi k] s (qi F) := by
  have two : (k = 1 ∨ k = 3) → cm iv L h0 (d + 1) 153 [vr 307, vi i, vi k] s (qi fun r2 s1 => ((r2 ≤ 0 → (0 ≤ i ∧ i < 8) ∧ (-2147483648 ≤ (s1.2 72 i) - 1 ∧ (s1.2 72 i) - 1 ≤ 2147483647) ∧ (0 ≤ (s1.2 72 i) - 1 ∧ (s1.2 72 i) - 1 < 3004) ∧ F 1 (us s1 73 (s1.2 10 ((s1.2 72 i) - 1)))) ∧ (0 < r2 → cm iv L h0 (d + 1) 61 [vr 307, vi r2] s1 (qi fun r7 s6 => F r7 s6)))) := fun hk => by
    refine lacks_ok hx h8 ?_
    rw [bxdA, bxdU, if_pos hk, if_pos hk] at H
    have hl := lak_in (s := s) (i := i) (k := k)
    refine ⟨fun q => ?_, fun q => meets_ok hc hn (by omega) ?_⟩
    · have e : lakA s i k = 0 := by omega
      rw [if_pos e, if_pos e] at H
      obtain ⟨l1, l2, l3⟩ := lak_0 hx e
      exact ⟨by omega, by omega, by omega, H⟩
    · rw [if_neg (by omega), if_neg (by omega)] at H
      exact H
  refine B154 ⟨fun e => two (Or.inl e), fun e => ⟨fun e3 => two (Or.inr e3), fun e3 => ?_⟩⟩
  rw [bxdA, bxdU, if_neg (by omega), if_neg (by omega)] at H
  exact H
end
end
section
/-! share, count, digest. -/
theorem tdiv_in {a b : Int} (ha : inR a) (h0 : b ≠ 0) (h1 : b ≠ -1) : inR (a.tdiv b) := by
  unfold inR at ha ⊢
  by_cases e : b = 1
  · subst e
    rw [Int.tdiv_one]
    exact ha
  · have h2 : 2 ≤ b.natAbs := by omega
    have h3 : (a.tdiv b).natAbs = a.natAbs / b.natAbs := Int.natAbs_tdiv a b
    have h4 : a.natAbs / b.natAbs ≤ a.natAbs / 2 := Nat.div_le_div_left h2 (by decide)
    omega
def shaN (s : SM) (i : Int) : Int := s.2 10 (s.2 72 i - 1)
def shaF (s : SM) (i j : Int) : Int := if lakA s i 1 = 2 ∨ lakA s j 1 = 2 then 2 else if lakA s i 1 = 1 ∨ lakA s j 1 = 1 then 1 else if lakA s i 1 = 3 ∨ lakA s j 1 = 3 then 3 else if shaN s j = 0 then 4 else 0
def shaA (s : SM) (i j : Int) : Int := if shaF s i j = 0 then 1 else -3
def shaV (s : SM) (i j : Int) : Int := if shaN s j = -1 then w32 (-(w32 (1000 * shaN s i))) else (w32 (1000 * shaN s i)).tdiv (shaN s j)
def shaU (s : SM) (i j : Int) : SM := if shaF s i j = 0 then us s 73 (shaV s i j) else mtU s (shaF s i j)
def cntA (s : SM) (t : Term) (k : Int) : Int := if k = 0 then s.1 2 else if k = 1 then s.1 8 else if k = 2 then s.1 24 else if k = 3 then cntp (isF (jdg s t)) (fl t) else if k = 4 then cntp (isH s) (fl t) else if k = 5 then s.2 37 0 + s.2 37 1 + s.2 37 2 + s.2 37 3 + s.2 37 4 + s.2 37 5 else if k = 6 then s.1 61 else -1
def dg1 (s : SM) (J : JT) (h x : Int) : Int := 31 * (31 * (31 * (31 * (31 * h + x) + s.2 9 x) + s.2 10 x) + s.2 11 x) + J.2.2 x
def digA (s : SM) (t : Term) : Int := 31 * (31 * (fl t).foldl (dg1 s (jdg s t)) 17 + s.1 16) + s.1 8
section
variable {iv : List (Int × Int)} {L : Nat} {h0 : MH} {s : SM} {t : Term} {d : Nat}
theorem share_ok {c i j : Int} {F : Int → SM → Prop} (hx : BX s) (h8 : s.1 8 ≤ 3000) (hc : CM c s) (hn : c ≤ 600) (H : F (shaA s i j) (shaU s i j)) : cm iv L h0 (d + 2) 155 [vr 307, vi i, vi j] s (qi F) := by
  unfold shaA shaU at H
  have la := lak_in (s := s) (i := i) (k := 1)
  have lb := lak_in (s := s) (i := j) (k := 1)
  have mt : ∀ f, (f = 1 ∨ f = 2 ∨ f = 3 ∨ f = 4) → shaF s i j = f → cm iv L h0 (d + 1) 61 [vr 307, vi f] s (qi fun r s => F r s) := fun f hf e => by
    refine meets_ok hc hn (by omega) ?_
    rw [if_neg (by omega), if_neg (by omega), e] at H
    exact H
  refine B155 (lacks_ok hx h8 (lacks_ok hx h8 ?_))
  have st3 : lakA s i 1 ≠ 2 → lakA s j 1 ≠ 2 → lakA s i 1 ≠ 1 → lakA s j 1 ≠ 1 → wm iv L h0 (d + 2) 155 18 [lr 307, li i, li j, li (lakA s i 1), li (lakA s j 1), li 3] [] s (qi F) := fun a1 a2 a3 a4 => by
    have e0 : shaF s i j = if lakA s i 1 = 3 ∨ lakA s j 1 = 3 then 3 else if shaN s j = 0 then 4 else 0 := by
      unfold shaF
      rw [if_neg (by omega), if_neg (by omega)]
    refine B155_18 ⟨fun q => by omega, fun _ => ⟨fun _ => ⟨fun _ => ⟨fun e => mt 3 (by omega) (by rw [e0, if_pos (Or.inl e)]), fun e => ⟨fun e2 => ⟨by omega, ?_⟩, fun e2 => mt 3 (by omega) (by rw [e0, if_pos (Or.inr e2)])⟩⟩, fun q => by omega⟩, fun q => by omega⟩⟩
    have z1 : lakA s i 1 = 0 := by omega
    have z2 : lakA s j 1 = 0 := by omega
    obtain ⟨b1, b2, b3⟩ := lak_0 hx z1
    obtain ⟨c1, c2, c3⟩ := lak_0 hx z2
    rw [if_neg (by omega)] at e0
    refine B155_18 ⟨fun _ => ⟨by omega, by omega, by omega, fun q => ⟨by omega, by omega, by omega, fun q2 => ⟨q, ?_, ?_⟩, fun q2 => ?_⟩, fun q => mt 4 (by omega) (by rw [e0, if_pos (show shaN s j = 0 from q)])⟩, fun q => by omega⟩
    · exact tdiv_in (w32_in _) q q2
    · have e1 : shaF s i j = 0 := by rw [e0, if_neg (show ¬ shaN s j = 0 from q)]
      rw [if_pos e1, if_pos e1, shaV, if_neg (show ¬ shaN s j = -1 from q2)] at H
      exact H
    · have e1 : shaF s i j = 0 := by rw [e0, if_neg (show ¬ shaN s j = 0 from q)]
      rw [if_pos e1, if_pos e1, shaV, if_pos (show shaN s j = -1 from q2)] at H
      exact H
  have st2 : lakA s i 1 ≠ 2 → lakA s j 1 ≠ 2 → wm iv L h0 (d + 2) 155 18 [lr 307, li i, li j, li (lakA s i 1), li (lakA s j 1), li 2] [] s (qi F) := fun a1 a2 => by
    have e0 : (lakA s i 1 = 1 ∨ lakA s j 1 = 1) → shaF s i j = 1 := fun q => by
      unfold shaF
      rw [if_neg (by omega), if_pos q]
    exact B155_18 ⟨fun q => by omega, fun _ => ⟨fun _ => ⟨fun q => absurd rfl q, fun _ => ⟨fun e => mt 1 (by omega) (e0 (Or.inl e)), fun e => ⟨fun e2 => ⟨by omega, st3 a1 a2 e e2⟩, fun e2 => mt 1 (by omega) (e0 (Or.inr e2))⟩⟩⟩, fun q => by omega⟩⟩
  have e0 : (lakA s i 1 = 2 ∨ lakA s j 1 = 2) → shaF s i j = 2 := fun q => by
    unfold shaF
    rw [if_pos q]
  exact B155_18 ⟨fun q => by omega, fun _ => ⟨fun q => absurd rfl q, fun _ => ⟨fun e => mt 2 (by omega) (e0 (Or.inl e)), fun e => ⟨fun e2 => ⟨by omega, st2 e e2⟩, fun e2 => mt 2 (by omega) (e0 (Or.inr e2))⟩⟩⟩⟩
theorem count_ok {k : Int} {F : Int → SM → Prop} (h : SHT s t) (hN : NB s) (hK : KIs s) (hs : ∀ p, 0 ≤ p → p < 6 → 0 ≤ s.2 37 p ∧ s.2 37 p ≤ 60) (hD : 240 ≤ d) (hF : ∀ w, SX [] [] s w → F (cntA s t k) w) : cm iv L h0 d 157 [vr 307, vi k] s (qi F) := by
  obtain ⟨d, rfl⟩ : ∃ k, d = k + 1 := ⟨d - 1, by omega⟩
  refine B157 ⟨fun hk => jl_ok h hN hK (by omega) (by omega) (fun w hw => ?_), fun hk => ?_⟩
  · obtain ⟨w1, w2, w3, w4, -⟩ := hw
    have h2 := hF w w2
    have e9 : w.2 9 = s.2 9 := w1.2 9 (by decide)
    have e37 : w.2 37 = s.2 37 := w1.2 37 (by decide)
    have lst : wm iv L h0 (d + 1) 157 94 [lr 307, li k, li (cntp (isF (jdg s t)) (fl t)), li (cntp (isH s) (fl t)), li 0, li 0] [] w (qi F) := by
      have p0 := hs 0 (by decide) (by decide)
      have p1 := hs (0 + 1) (by decide) (by decide)
      have p2 := hs (0 + 1 + 1) (by decide) (by decide)
      have p3 := hs (0 + 1 + 1 + 1) (by decide) (by decide)
      have p4 := hs (0 + 1 + 1 + 1 + 1) (by decide) (by decide)
      have p5 := hs (0 + 1 + 1 + 1 + 1 + 1) (by decide) (by decide)
      refine B157_94 ⟨fun q => by omega, fun _ => ⟨by omega, by rw [e37]; omega, by omega, ?_⟩⟩
      refine B157_94 ⟨fun q => by omega, fun _ => ⟨by omega, by rw [e37]; omega, by omega, ?_⟩⟩
      refine B157_94 ⟨fun q => by omega, fun _ => ⟨by omega, by rw [e37]; omega, by omega, ?_⟩⟩
      refine B157_94 ⟨fun q => by omega, fun _ => ⟨by omega, by rw [e37]; omega, by omega, ?_⟩⟩
      refine B157_94 ⟨fun q => by omega, fun _ => ⟨by omega, by rw [e37]; omega, by omega, ?_⟩⟩
      refine B157_94 ⟨fun q => by omega, fun _ => ⟨by omega, by rw [e37]; omega, by omega, ?_⟩⟩
      unfold cntA at h2
      refine B157_94 ⟨fun _ => ⟨fun q => ?_, fun q => ?_, fun q => ?_, fun q => ?_, fun q => ?_, fun q => ?_, fun q => ?_⟩, fun q => by omega⟩
      · simp only [if_pos q] at h2
        rw [w1.1 2 (by decide)]; exact h2
      · subst q
        rw [w1.1 8 (by decide)]; exact h2
      · subst q
        rw [w1.1 24 (by decide)]; exact h2
      · subst q
        exact h2
      · subst q
        exact h2
      · subst q
        rw [e37]
        refine (show (0 + s.2 37 0 + s.2 37 (0 + 1) + s.2 37 (0 + 1 + 1) + s.2 37 (0 + 1 + 1 + 1) + s.2 37 (0 + 1 + 1 + 1 + 1) + s.2 37 (0 + 1 + 1 + 1 + 1 + 1)) = s.2 37 0 + s.2 37 1 + s.2 37 2 + s.2 37 3 + s.2 37 4 + s.2 37 5 from ?_) ▸ h2
        rw [Int.zero_add]
        rfl
      · obtain rfl : k = 6 := by omega
        rw [w1.1 61 (by decide)]; exact h2
    have key : ∀ (m p : List Int) (a b : Int), fl t = p ++ m → (0 ≤ a ∧ a ≤ p.length) → (0 ≤ b ∧ b ≤ p.length) → cntp (isF (jdg s t)) (fl t) = a + cntp (isF (jdg s t)) m → cntp (isH s) (fl t) = b + cntp (isH s) m → wm iv L h0 (d + 1) 157 27 [lr 307, li k, li a, li b, li p.length] [] w (qi F) := by
      intro m
      induction m with
      | nil =>
        intro p a b e ha hb ea eb
        have := LR_nil w3 e
        refine B157_27 ⟨fun _ => ?_, fun q => by omega⟩
        rw [ea, eb, show cntp (isF (jdg s t)) [] = 0 from rfl, show cntp (isH s) [] = 0 from rfl, Int.add_zero, Int.add_zero] at lst
        exact lst
      | cons x m ih =>
        intro p a b e ha hb ea eb
        obtain ⟨c1, c2⟩ := LR_cons w3 e
        obtain ⟨c3, hx⟩ := h.fl80 e
        have hlt := h.lt hx
        have e' := e
        rw [app1] at e'
        have e1 : ((p ++ [x]).length : Int) = p.length + 1 := by simp
        have nx : ∀ u v : Int, u = (if isF (jdg s t) x then 1 else 0) → v = (if isH s x then 1 else 0) → (0 ≤ u ∧ u ≤ 1) → (0 ≤ v ∧ v ≤ 1) → wm iv L h0 (d + 1) 157 27 [lr 307, li k, li (a + u), li (b + v), li (p.length + 1)] [] w (qi F) := fun u v eu ev hu hv => by
          have := ih (p ++ [x]) (a + u) (b + v) e' (by rw [e1]; omega) (by rw [e1]; omega) (by rw [ea, eu, Int.add_assoc]; rfl) (by rw [eb, ev, Int.add_assoc]; rfl)
          rw [e1] at this
          exact this
        rw [show (p.length : Int) = p.length from rfl]
        refine B157_27 ⟨fun q => by omega, fun _ => ?_⟩
        rw [c1, e9, (w4 x hx).1]
        refine ⟨by omega, by omega, fun g => ⟨by omega, fun g2 => ⟨by omega, by omega, nx 0 0 ?_ ?_ (by decide) (by decide)⟩, fun g2 => ⟨by omega, by omega, nx 0 1 ?_ ?_ (by decide) (by decide)⟩⟩, fun g => ⟨by omega, fun g2 => ⟨by omega, by omega, nx 1 0 ?_ ?_ (by decide) (by decide)⟩, fun g2 => ⟨by omega, by omega, nx 1 1 ?_ ?_ (by decide) (by decide)⟩⟩⟩
        · simp [isF]; omega
        · simp [isH, g2]
        · simp [isF]; omega
        · simp [isH, g2]
        · simp [isF]; omega
        · simp [isH, g2]
        · simp [isF]; omega
        · simp [isH, g2]
    exact key (fl t) [] 0 0 rfl (by simp) (by simp) (by simp) (by simp)
  · have := hF s SX.rf
    rw [cntA, if_neg (by omega), if_neg (by omega), if_neg (by omega), if_neg (by omega), if_neg (by omega), if_neg (by omega), if_neg (by omega)] at this
    exact this
theorem digest_ok {F : Int → SM → Prop} (h : SHT s t) (hN : NB s) (hK : KIs s) (hD : 240 ≤ d) (hF : ∀ w, SX [] [] s w → F (digA s t) w) : cm iv L h0 d 158 [vr 307] s (ql F) := by
  obtain ⟨d, rfl⟩ : ∃ k, d = k + 1 := ⟨d - 1, by omega⟩
  refine B158 (jl_ok h hN hK (by omega) (by omega) (fun w hw => ?_))
  obtain ⟨w1, w2, w3, w4, -⟩ := hw
  have h2 := hF w w2
  have e9 : w.2 9 = s.2 9 := w1.2 9 (by decide)
  have e10 : w.2 10 = s.2 10 := w1.2 10 (by decide)
  have e11 : w.2 11 = s.2 11 := w1.2 11 (by decide)
  have key : ∀ (m p : List Int) (a : Int), fl t = p ++ m → (fl t).foldl (dg1 s (jdg s t)) 17 = m.foldl (dg1 s (jdg s t)) a → wm iv L h0 (d + 1) 158 14 [lr 307, ll a, ln, li p.length] [] w (ql F) := by
    intro m
    induction m with
    | nil =>
      intro p a e ea
      have := LR_nil w3 e
      refine B158_14 ⟨fun _ => ?_, fun q => by omega⟩
      rw [w1.1 16 (by decide), w1.1 8 (by decide)]
      rw [digA, ea] at h2
      exact h2
    | cons x m ih =>
      intro p a e ea
      obtain ⟨c1, c2⟩ := LR_cons w3 e
      obtain ⟨c3, hx⟩ := h.fl80 e
      have hlt := h.lt hx
      have e' := e
      rw [app1] at e'
      have e1 : ((p ++ [x]).length : Int) = p.length + 1 := by simp
      refine B158_14 ⟨fun q => by omega, fun _ => ?_⟩
      rw [c1]
      refine ⟨by omega, by omega, by omega, ?_⟩
      have := ih (p ++ [x]) _ e' ea
      rw [e1] at this
      rw [e9, e10, e11, (w4 x hx).1]
      exact this
  exact key (fl t) [] 17 rfl rfl
end
end
section
/-! What the reference keeps for undo(). -/
/-- a tree with what its nodes bore then -/
abbrev Snap : Type := Term × SM
def numOk (so nu : Int) : Prop := ((so = 3 ∨ so = 8 ∨ so = 10) → 0 ≤ nu ∧ nu < 26) ∧ (so = 2 → nu = 0 ∨ nu = 1)
/-- it was a sheet -/
def KP (s : SM) (u : Snap) : Prop := (AT (s.2 9) (u.2.2 14) (u.2.2 12) (u.2.2 13) (s.1 8) u.1 ∧ full (s.2 9) u.1 ∧ (fl u.1).Nodup ∧ (fl u.1).length ≤ 60) ∧ u.2.1 16 ∈ fl u.1 ∧ u.2.2 12 (hd u.1) = -9 ∧ u.2.2 13 (hd u.1) = -9 ∧ ∀ x, x ∈ fl u.1 → numOk (s.2 9 x) (u.2.2 10 x)
/-- what rows hold of it: many, cursor, nodes, numbers, parts, each from a place on -/
def KR (so : Int → Int) (m c : Int) (rn rv rp : Int → Int) (u : Snap) : Prop := m = (fl u.1).length ∧ c = u.2.1 16 ∧ ∀ (k : Nat) (x : Int), (fl u.1)[k]? = some x → rn k = x ∧ rv k = u.2.2 10 x ∧ ∀ j, 0 ≤ j → j < pO (so x) → rp (3 * k + j) = u.2.2 14 (3 * x + j)
def KL (s : SM) (K : List Snap) : Prop := s.1 24 = K.length ∧ K.length ≤ 20 ∧ ∀ (i : Nat) (u : Snap), K[i]? = some u → KR (s.2 9) (s.2 25 i) (s.2 26 i) (fun j => s.2 27 (80 * i + j)) (fun j => s.2 28 (80 * i + j)) (fun j => s.2 29 (240 * i + j)) u ∧ KP s u
/-- what is ahead of an act -/
def AH (w : SM) (u : Snap) : Prop := KR (w.2 9) (w.1 30) (w.1 31) (w.2 32) (w.2 33) (w.2 34) u
def push (K : List Snap) (u : Snap) : List Snap := (if K.length = 20 then K.tail else K) ++ [u]
def sh1 (s : SM) (n : Int) : SM := (s.1, fun k j => if (k = 25 ∨ k = 26) ∧ 0 ≤ j ∧ j < n then s.2 k (j + 1) else s.2 k j)
def sh2 (s : SM) (n : Int) : SM := (s.1, fun k j => if (k = 27 ∨ k = 28) ∧ 0 ≤ j ∧ j < n then s.2 k (j + 80) else s.2 k j)
def sh3 (s : SM) (n : Int) : SM := (s.1, fun k j => if k = 29 ∧ 0 ≤ j ∧ j < n then s.2 k (j + 240) else s.2 k j)
def cp1 (s : SM) (b n : Int) : SM := (s.1, fun k j => if (k = 27 ∨ k = 28) ∧ b ≤ j ∧ j < b + n then s.2 (k + 5) (j - b) else s.2 k j)
def cp2 (s : SM) (b n : Int) : SM := (s.1, fun k j => if k = 29 ∧ b ≤ j ∧ j < b + n then s.2 (k + 5) (j - b) else s.2 k j)
def enS (s : SM) : SM := if s.1 24 = 20 then us (sh3 (sh2 (sh1 s 19) 1520) 4560) 24 19 else s
def en2 (s : SM) (k m c : Int) : SM := cp2 (cp1 (ua (ua s 25 k m) 26 k c) (80 * k) 80) (240 * k) 240
def chg (c a : Int) : Int := if c ≠ 0 then 1 else if a ≠ 0 then 0 else 1
def enU (s : SM) (a : Int) : SM := us (us (en2 (enS s) ((enS s).1 24) (s.1 30) (s.1 31)) 24 ((enS s).1 24 + 1)) 35 (chg (s.1 35) a)
theorem eqS {s w : SM} (h1 : w.1 = s.1) (h2 : ∀ k j, w.2 k j = s.2 k j) : w = s := Prod.ext h1 (funext fun k => funext fun j => h2 k j)
section
variable {iv : List (Int × Int)} {L : Nat} {h0 : MH} {s : SM} {t : Term} {d : Nat}
theorem beginAct_ok {F : SM → Prop} (h : SHT s t) (hD : 70 ≤ d) (hF : ∀ w, eqx [18, 30, 31] [17, 32, 33, 34] s w → LR w (fl t) → AH w (t, s) → F w) : cm iv L h0 d 99 [vr 307] s (qv F) := by
  obtain ⟨d, rfl⟩ : ∃ k, d = k + 1 := ⟨d - 1, by omega⟩
  refine B99 (layAll_ok h (by omega) (fun w h1 w3 => ?_))
  have e10 : w.2 10 = s.2 10 := h1.2 10 (by decide)
  have e14 : w.2 14 = s.2 14 := h1.2 14 (by decide)
  have key : ∀ (m p : List Int) (v : SM), fl t = p ++ m → eqx [30, 31] [32, 33, 34] w v → v.1 30 = w.1 18 → v.1 31 = w.1 16 → (∀ (k : Nat) (x : Int), p[k]? = some x → v.2 32 k = x ∧ v.2 33 k = s.2 10 x ∧ ∀ j, 0 ≤ j → j < 3 → v.2 34 (3 * k + j) = s.2 14 (3 * x + j)) → wm iv L h0 (d + 1) 99 22 [lr 307, li p.length] [] v (qv F) := by
    intro m
    induction m with
    | nil =>
      intro p v e hv v30 v31 hp
      have e18 : v.1 18 = w.1 18 := hv.1 18 (by decide)
      have := LR_nil w3 e
      have ep : p = fl t := by rw [e]; simp
      have es : eqx [18, 30, 31] [17, 32, 33, 34] s v := (h1.up (fun y q => by simp at q ⊢; omega) (fun y q => by simp at q ⊢; omega)).tr (hv.up (fun y q => by simp at q ⊢; omega) (fun y q => by simp at q ⊢; omega))
      refine B99_22 ⟨fun _ => hF v es ⟨by rw [e18]; exact w3.1, fun j x q => by rw [hv.2 17 (by decide)]; exact w3.2 j x q⟩ ⟨by rw [v30]; exact w3.1, by rw [v31]; exact h1.1 16 (by decide), fun k x hk => ?_⟩, fun q => by rw [e18] at q; omega⟩
      obtain ⟨a1, a2, a3⟩ := hp k x (by rw [ep]; exact hk)
      exact ⟨a1, a2, fun j j0 j1 => a3 j j0 (by have := pO_in (v.2 9 x); omega)⟩
    | cons x m ih =>
      intro p v e hv v30 v31 hp
      obtain ⟨c1, c2⟩ := LR_cons w3 e
      obtain ⟨c3, hx⟩ := h.fl80 e
      have hlt := h.lt hx
      have e' := e
      rw [app1] at e'
      have e1 : ((p ++ [x]).length : Int) = p.length + 1 := by simp
      have e18 : v.1 18 = w.1 18 := hv.1 18 (by decide)
      have e17 : v.2 17 = w.2 17 := hv.2 17 (by decide)
      have f10 : v.2 10 = s.2 10 := (hv.2 10 (by decide)).trans e10
      have f14 : v.2 14 = s.2 14 := (hv.2 14 (by decide)).trans e14
      refine B99_22 ⟨fun q => by rw [e18] at q; omega, fun _ => ?_⟩
      rw [e17, c1, f10]
      refine ⟨by omega, by omega, ?_⟩
      refine B99_61 ⟨fun q => by omega, fun _ => ?_⟩
      have g17 : ∀ u, eqx [30, 31] [32, 33, 34] w u → u.2 17 p.length = x := fun u hu => by rw [hu.2 17 (by decide)]; exact c1
      have n1 : eqx [30, 31] [32, 33, 34] w (ua (ua v 32 p.length x) 33 p.length (s.2 10 x)) := eqx_ua (eqx_ua hv (by decide)) (by decide)
      rw [g17 _ n1, show (ua (ua v 32 (p.length : Int) x) 33 p.length (s.2 10 x)).2 14 = s.2 14 from f14]
      refine ⟨by omega, by omega, by omega, by omega, by omega, by omega, by omega, by omega, ?_⟩
      refine B99_61 ⟨fun q => by omega, fun _ => ?_⟩
      have n2 := eqx_ua (f := 34) (i := 3 * (p.length : Int) + 0) (z := s.2 14 (3 * x + 0)) n1 (by decide)
      rw [g17 _ n2, show (ua (ua (ua v 32 (p.length : Int) x) 33 p.length (s.2 10 x)) 34 (3 * p.length + 0) (s.2 14 (3 * x + 0))).2 14 = s.2 14 from f14]
      refine ⟨by omega, by omega, by omega, by omega, by omega, by omega, by omega, by omega, ?_⟩
      refine B99_61 ⟨fun q => by omega, fun _ => ?_⟩
      have n3 := eqx_ua (f := 34) (i := 3 * (p.length : Int) + (0 + 1)) (z := s.2 14 (3 * x + (0 + 1))) n2 (by decide)
      rw [g17 _ n3, show (ua (ua (ua (ua v 32 (p.length : Int) x) 33 p.length (s.2 10 x)) 34 (3 * p.length + 0) (s.2 14 (3 * x + 0))) 34 (3 * p.length + (0 + 1)) (s.2 14 (3 * x + (0 + 1)))).2 14 = s.2 14 from f14]
      refine ⟨by omega, by omega, by omega, by omega, by omega, by omega, by omega, by omega, ?_⟩
      refine B99_61 ⟨fun _ => ⟨by omega, ?_⟩, fun q => by omega⟩
      have n4 := eqx_ua (f := 34) (i := 3 * (p.length : Int) + (0 + 1 + 1)) (z := s.2 14 (3 * x + (0 + 1 + 1))) n3 (by decide)
      have := ih (p ++ [x]) _ e' n4 v30 v31 (fun k y hk => ?_)
      · rw [e1] at this
        exact this
      · simp only [ua_2]
        by_cases hkp : k < p.length
        · rw [List.getElem?_append_left hkp] at hk
          obtain ⟨a1, a2, a3⟩ := hp k y hk
          refine ⟨?_, ?_, fun j j0 j3 => ?_⟩
          · rw [if_neg (by omega), if_neg (by omega), if_neg (by omega), if_neg (by omega), if_neg (by omega)]; exact a1
          · rw [if_neg (by omega), if_neg (by omega), if_neg (by omega), if_neg (by omega)]; exact a2
          · rw [if_neg (by omega), if_neg (by omega), if_neg (by omega), if_neg (by omega), if_neg (by omega)]; exact a3 j j0 j3
        · rw [List.getElem?_append_right (by omega)] at hk
          have hk0 : k = p.length := by
            have := (List.getElem?_eq_some_iff.mp hk).1
            simp at this
            omega
          subst hk0
          simp at hk
          subst hk
          refine ⟨?_, ?_, fun j j0 j3 => ?_⟩
          · rw [if_neg (by first | omega | simp), if_neg (by first | omega | simp), if_neg (by first | omega | simp), if_neg (by first | omega | simp), if_pos (by first | omega | simp)]
          · rw [if_neg (by first | omega | simp), if_neg (by first | omega | simp), if_neg (by first | omega | simp), if_pos (by first | omega | simp)]
          · have hj : j = 0 ∨ j = 1 ∨ j = 2 := by omega
            rcases hj with rfl | rfl | rfl
            · rw [if_neg (by first | omega | simp), if_neg (by first | omega | simp), if_pos (by first | omega | simp)]
            · rw [if_neg (by first | omega | simp), if_pos (by first | omega | simp)]; rfl
            · rw [if_pos (by first | omega | simp)]; rfl
  exact key (fl t) [] _ rfl (eqx_us (eqx_us eqx.rf (by decide)) (by decide)) rfl rfl (fun k x hk => by simp at hk)
theorem elp1 {F : SM → Prop} {a : Int} (hF : wm iv L h0 d 100 53 [lr 307, li a, li 0] [] (sh1 s 19) (qv F)) : wm iv L h0 d 100 11 [lr 307, li a, li 1] [] s (qv F) := by
  have key : ∀ (m : Nat) (k : Int), 1 ≤ k → k ≤ 20 → (20 - k).toNat = m → wm iv L h0 d 100 11 [lr 307, li a, li k] [] (sh1 s (k - 1)) (qv F) := by
    intro m
    induction m with
    | zero =>
      intro k k0 k1 hm
      obtain rfl : k = 20 := by omega
      exact B100_11 ⟨fun _ => hF, fun q => by omega⟩
    | succ m ih =>
      intro k k0 k1 hm
      refine B100_11 ⟨fun q => by omega, fun q => ⟨by omega, by omega, by omega, by omega, ?_⟩⟩
      have := ih (k + 1) (by omega) (by omega) (by omega)
      refine (eqS (s := _) (w := _) rfl (fun y j => ?_) : ua (ua (sh1 s (k - 1)) 25 (k - 1) ((sh1 s (k - 1)).2 25 k)) 26 (k - 1) ((sh1 s (k - 1)).2 26 k) = sh1 s (k + 1 - 1)) ▸ this
      simp only [ua_2, sh1]
      by_cases c1 : (y = 25 ∨ y = 26) ∧ 0 ≤ j ∧ j < k + 1 - 1
      · rw [if_pos c1]
        by_cases c2 : j = k - 1
        · subst c2
          rcases c1.1 with rfl | rfl
          · rw [if_neg (by omega), if_pos (by omega), if_neg (by omega), show k - 1 + 1 = k by omega]
          · rw [if_pos (by omega), if_neg (by omega), show k - 1 + 1 = k by omega]
        · rw [if_neg (by omega), if_neg (by omega), if_pos (by omega)]
      · rw [if_neg c1, if_neg (by omega), if_neg (by omega), if_neg (by omega)]
  refine (eqS rfl (fun y j => ?_) : sh1 s (1 - 1) = s) ▸ key _ 1 (by omega) (by omega) rfl
  simp only [sh1]
  rw [if_neg (by omega)]
theorem elp2 {F : SM → Prop} {a : Int} (hF : wm iv L h0 d 100 98 [lr 307, li a, li 0] [] (sh2 s 1520) (qv F)) : wm iv L h0 d 100 53 [lr 307, li a, li 0] [] s (qv F) := by
  have key : ∀ (m : Nat) (k : Int), 0 ≤ k → k ≤ 1520 → (1520 - k).toNat = m → wm iv L h0 d 100 53 [lr 307, li a, li k] [] (sh2 s k) (qv F) := by
    intro m
    induction m with
    | zero =>
      intro k k0 k1 hm
      obtain rfl : k = 1520 := by omega
      exact B100_53 ⟨fun _ => hF, fun q => by omega⟩
    | succ m ih =>
      intro k k0 k1 hm
      refine B100_53 ⟨fun q => by omega, fun q => ⟨by omega, by omega, by omega, by omega, ?_⟩⟩
      have := ih (k + 1) (by omega) (by omega) (by omega)
      refine (eqS rfl (fun y j => ?_) : ua (ua (sh2 s k) 27 k ((sh2 s k).2 27 (k + 80))) 28 k ((sh2 s k).2 28 (k + 80)) = sh2 s (k + 1)) ▸ this
      simp only [ua_2, sh2]
      by_cases c1 : (y = 27 ∨ y = 28) ∧ 0 ≤ j ∧ j < k + 1
      · rw [if_pos c1]
        by_cases c2 : j = k
        · subst c2
          rcases c1.1 with rfl | rfl
          · rw [if_neg (by omega), if_pos (by omega), if_neg (by omega)]
          · rw [if_pos (by omega), if_neg (by omega)]
        · rw [if_neg (by omega), if_neg (by omega), if_pos (by omega)]
      · rw [if_neg c1, if_neg (by omega), if_neg (by omega), if_neg (by omega)]
  refine (eqS rfl (fun y j => ?_) : sh2 s 0 = s) ▸ key _ 0 (by omega) (by omega) rfl
  simp only [sh2]
  rw [if_neg (by omega)]
theorem elp3 {F : SM → Prop} {a : Int} (h24 : s.1 24 = 20) (hF : wm iv L h0 d 100 165 [lr 307, li a, li 0] [] (ua (ua (us (sh3 s 4560) 24 19) 25 19 (s.1 30)) 26 19 (s.1 31)) (qv F)) : wm iv L h0 d 100 98 [lr 307, li a, li 0] [] s (qv F) := by
  have key : ∀ (m : Nat) (k : Int), 0 ≤ k → k ≤ 4560 → (4560 - k).toNat = m → wm iv L h0 d 100 98 [lr 307, li a, li k] [] (sh3 s k) (qv F) := by
    intro m
    induction m with
    | zero =>
      intro k k0 k1 hm
      obtain rfl : k = 4560 := by omega
      have e : (sh3 s 4560).1 24 - 1 = 19 := by show s.1 24 - 1 = 19; omega
      refine B100_98 ⟨fun _ => ?_, fun q => by omega⟩
      rw [e]
      exact ⟨by omega, by omega, hF⟩
    | succ m ih =>
      intro k k0 k1 hm
      refine B100_98 ⟨fun q => by omega, fun q => ⟨by omega, by omega, by omega, by omega, ?_⟩⟩
      have := ih (k + 1) (by omega) (by omega) (by omega)
      refine (eqS rfl (fun y j => ?_) : ua (sh3 s k) 29 k ((sh3 s k).2 29 (k + 240)) = sh3 s (k + 1)) ▸ this
      simp only [ua_2, sh3]
      by_cases c1 : y = 29 ∧ 0 ≤ j ∧ j < k + 1
      · rw [if_pos c1]
        by_cases c2 : j = k
        · rw [if_pos ⟨c1.1, c2⟩, if_neg (by omega), c1.1, c2]
        · rw [if_neg (by omega), if_pos (by omega)]
      · rw [if_neg c1, if_neg (by omega), if_neg (by omega)]
  refine (eqS rfl (fun y j => ?_) : sh3 s 0 = s) ▸ key _ 0 (by omega) (by omega) rfl
  simp only [sh3]
  rw [if_neg (by omega)]
theorem elp5 {F : SM → Prop} {a : Int} (hk : 0 ≤ s.1 24 ∧ s.1 24 < 20) (hF : F (us (us (cp2 s (240 * s.1 24) 240) 24 (s.1 24 + 1)) 35 (chg (s.1 35) a))) : wm iv L h0 d 100 219 [lr 307, li a, li 0] [] s (qv F) := by
  have key : ∀ (m : Nat) (k : Int), 0 ≤ k → k ≤ 240 → (240 - k).toNat = m → wm iv L h0 d 100 219 [lr 307, li a, li k] [] (cp2 s (240 * s.1 24) k) (qv F) := by
    intro m
    induction m with
    | zero =>
      intro k k0 k1 hm
      obtain rfl : k = 240 := by omega
      unfold chg at hF
      refine B100_219 ⟨fun _ => ⟨by show -2147483648 ≤ s.1 24 + 1 ∧ s.1 24 + 1 ≤ 2147483647; omega, fun q => ?_, fun q => ⟨fun q2 => ?_, fun q2 => ?_⟩⟩, fun q => by omega⟩
      · rw [if_pos (show s.1 35 ≠ 0 from q)] at hF; exact hF
      · rw [if_neg (show ¬ s.1 35 ≠ 0 from fun c => c q), if_pos q2] at hF; exact hF
      · rw [if_neg (show ¬ s.1 35 ≠ 0 from fun c => c q), if_neg (fun c => c q2)] at hF; exact hF
    | succ m ih =>
      intro k k0 k1 hm
      have e24 : (cp2 s (240 * s.1 24) k).1 24 = s.1 24 := rfl
      refine B100_219 ⟨fun q => by omega, fun q => ?_⟩
      rw [e24]
      refine ⟨by omega, by omega, by omega, by omega, by omega, ?_⟩
      have := ih (k + 1) (by omega) (by omega) (by omega)
      refine (eqS rfl (fun y j => ?_) : ua (cp2 s (240 * s.1 24) k) 29 (240 * s.1 24 + k) ((cp2 s (240 * s.1 24) k).2 34 k) = cp2 s (240 * s.1 24) (k + 1)) ▸ this
      simp only [ua_2, cp2]
      by_cases c1 : y = 29 ∧ 240 * s.1 24 ≤ j ∧ j < 240 * s.1 24 + (k + 1)
      · rw [if_pos c1]
        by_cases c2 : j = 240 * s.1 24 + k
        · rw [if_pos ⟨c1.1, c2⟩, if_neg (by omega), c1.1, c2, show 240 * s.1 24 + k - 240 * s.1 24 = k by omega]
        · rw [if_neg (by omega), if_pos (by omega)]
      · rw [if_neg c1, if_neg (by omega), if_neg (by omega)]
  refine (eqS rfl (fun y j => ?_) : cp2 s (240 * s.1 24) 0 = s) ▸ key _ 0 (by omega) (by omega) rfl
  simp only [cp2]
  rw [if_neg (by omega)]
theorem elp4 {F : SM → Prop} {a : Int} (hk : 0 ≤ s.1 24 ∧ s.1 24 < 20) (hF : wm iv L h0 d 100 219 [lr 307, li a, li 0] [] (cp1 s (80 * s.1 24) 80) (qv F)) : wm iv L h0 d 100 165 [lr 307, li a, li 0] [] s (qv F) := by
  have key : ∀ (m : Nat) (k : Int), 0 ≤ k → k ≤ 80 → (80 - k).toNat = m → wm iv L h0 d 100 165 [lr 307, li a, li k] [] (cp1 s (80 * s.1 24) k) (qv F) := by
    intro m
    induction m with
    | zero =>
      intro k k0 k1 hm
      obtain rfl : k = 80 := by omega
      exact B100_165 ⟨fun _ => hF, fun q => by omega⟩
    | succ m ih =>
      intro k k0 k1 hm
      have e24 : (cp1 s (80 * s.1 24) k).1 24 = s.1 24 := rfl
      refine B100_165 ⟨fun q => by omega, fun q => ?_⟩
      rw [e24]
      refine ⟨by omega, by omega, by omega, by omega, by omega, ?_⟩
      have := ih (k + 1) (by omega) (by omega) (by omega)
      refine (eqS rfl (fun y j => ?_) : ua (ua (cp1 s (80 * s.1 24) k) 27 (80 * s.1 24 + k) ((cp1 s (80 * s.1 24) k).2 32 k)) 28 (80 * s.1 24 + k) ((cp1 s (80 * s.1 24) k).2 33 k) = cp1 s (80 * s.1 24) (k + 1)) ▸ this
      simp only [ua_2, cp1]
      by_cases c1 : (y = 27 ∨ y = 28) ∧ 80 * s.1 24 ≤ j ∧ j < 80 * s.1 24 + (k + 1)
      · rw [if_pos c1]
        by_cases c2 : j = 80 * s.1 24 + k
        · rcases c1.1 with e | e
          · rw [if_neg (by omega), if_pos ⟨e, c2⟩, if_neg (by omega), e, c2, show 80 * s.1 24 + k - 80 * s.1 24 = k by omega]
          · rw [if_pos ⟨e, c2⟩, if_neg (by omega), e, c2, show 80 * s.1 24 + k - 80 * s.1 24 = k by omega]
        · rw [if_neg (by omega), if_neg (by omega), if_pos (by omega)]
      · rw [if_neg c1, if_neg (by omega), if_neg (by omega), if_neg (by omega)]
  refine (eqS rfl (fun y j => ?_) : cp1 s (80 * s.1 24) 0 = s) ▸ key _ 0 (by omega) (by omega) rfl
  simp only [cp1]
  rw [if_neg (by omega)]
theorem endAct_ok {F : SM → Prop} {a : Int} (hk : 0 ≤ s.1 24 ∧ s.1 24 ≤ 20) (hF : F (enU s a)) : cm iv L h0 d 100 [vr 307, vi a] s (qv F) := by
  unfold enU at hF
  refine B100 ⟨fun e => ⟨by omega, elp4 (by show 0 ≤ s.1 24 ∧ s.1 24 < 20; omega) (elp5 (by show 0 ≤ s.1 24 ∧ s.1 24 < 20; omega) ?_)⟩, fun e => elp1 (elp2 (elp3 e (elp4 (by show (0 : Int) ≤ 19 ∧ (19 : Int) < 20; decide) (elp5 (by show (0 : Int) ≤ 19 ∧ (19 : Int) < 20; decide) ?_))))⟩
  · rw [show enS s = s from if_neg e] at hF
    exact hF
  · rw [show enS s = us (sh3 (sh2 (sh1 s 19) 1520) 4560) 24 19 from if_pos e] at hF
    exact hF
end
end
section
/-! What is kept behind an act; undo(). -/
section
variable {s w : SM} {k m c j a : Int}
theorem en2_25 : (en2 s k m c).2 25 j = if j = k then m else s.2 25 j := by
  simp [en2, cp2, cp1, ua_2]
theorem en2_26 : (en2 s k m c).2 26 j = if j = k then c else s.2 26 j := by
  simp [en2, cp2, cp1, ua_2]
theorem en2_27 : (en2 s k m c).2 27 j = if 80 * k ≤ j ∧ j < 80 * k + 80 then s.2 32 (j - 80 * k) else s.2 27 j := by
  simp [en2, cp2, cp1, ua_2]
theorem en2_28 : (en2 s k m c).2 28 j = if 80 * k ≤ j ∧ j < 80 * k + 80 then s.2 33 (j - 80 * k) else s.2 28 j := by
  simp [en2, cp2, cp1, ua_2]
theorem en2_29 : (en2 s k m c).2 29 j = if 240 * k ≤ j ∧ j < 240 * k + 240 then s.2 34 (j - 240 * k) else s.2 29 j := by
  simp [en2, cp2, cp1, ua_2]
theorem en2_o {f : Nat} (hf : f ≠ 25 ∧ f ≠ 26 ∧ f ≠ 27 ∧ f ≠ 28 ∧ f ≠ 29) : (en2 s k m c).2 f = s.2 f := by
  funext j
  simp [en2, cp2, cp1, ua_2, hf]
/-- what enU leaves as it was -/
theorem enU_e : eqx [24, 35] [25, 26, 27, 28, 29] s (enU s a) := by
  have h1 : eqx [24] [25, 26, 27, 28, 29] s (enS s) := by
    unfold enS
    split
    · refine eqx_us ⟨fun _ _ => rfl, fun f hf => ?_⟩ (by decide)
      funext j
      simp at hf
      show (if f = 29 ∧ 0 ≤ j ∧ j < 4560 then _ else if (f = 27 ∨ f = 28) ∧ 0 ≤ j ∧ j < 1520 then _ else if (f = 25 ∨ f = 26) ∧ 0 ≤ j ∧ j < 19 then _ else s.2 f j) = s.2 f j
      rw [if_neg (by omega), if_neg (by omega), if_neg (by omega)]
    · exact eqx.rf
  refine eqx_us (eqx_us ?_ (by decide)) (by decide)
  refine (h1.up (fun y q => by simp at q ⊢; omega) (fun y q => q)).tr ⟨fun _ _ => rfl, fun f hf => ?_⟩
  exact en2_o (by simp at hf; omega)
theorem KR_cg {so so' : Int → Int} {m c m' c' : Int} {rn rv rp rn' rv' rp' : Int → Int} {u : Snap} (h : KR so m c rn rv rp u) (hl : (fl u.1).length ≤ 60) (hm : m' = m) (hc : c' = c) (hs : ∀ x, x ∈ fl u.1 → so' x = so x) (h1 : ∀ k, 0 ≤ k → k < 60 → rn' k = rn k ∧ rv' k = rv k) (h2 : ∀ k, 0 ≤ k → k < 180 → rp' k = rp k) : KR so' m' c' rn' rv' rp' u := by
  obtain ⟨a1, a2, a3⟩ := h
  refine ⟨hm.trans a1, hc.trans a2, fun k x hk => ?_⟩
  obtain ⟨b1, b2, b3⟩ := a3 k x hk
  have hkl := (List.getElem?_eq_some_iff.mp hk).1
  obtain ⟨e1, e2⟩ := h1 k (by omega) (by omega)
  refine ⟨e1.trans b1, e2.trans b2, fun j j0 j1 => ?_⟩
  rw [hs x (List.mem_of_getElem? hk)] at j1
  have := pO_in (so x)
  rw [h2 _ (by omega) (by omega)]
  exact b3 j j0 j1
theorem KP_up {u : Snap} (h : KP s u) (h8 : s.1 8 ≤ w.1 8) (hs : ∀ x, 0 ≤ x → x < s.1 8 → w.2 9 x = s.2 9 x) : KP w u := by
  obtain ⟨⟨h1, h2, h3, h4⟩, h5, h6, h7, h9⟩ := h
  have e : ∀ x, x ∈ fl u.1 → w.2 9 x = s.2 9 x := fun x hx => by
    have := (AT_mem u.1 h1 x hx).1
    exact hs x this.1 this.2
  refine ⟨⟨AT_ag h8 h1 h3 (fun x hx => ⟨e x hx, rfl, rfl, fun _ _ _ => rfl⟩), ?_, h3, h4⟩, h5, h6, h7, fun x hx => by rw [e x hx]; exact h9 x hx⟩
  unfold full
  rw [e _ (hd_mem _ h1)]
  exact h2
theorem KL_up {K : List Snap} (h : KL s K) (h8 : s.1 8 ≤ w.1 8) (hs : ∀ x, 0 ≤ x → x < s.1 8 → w.2 9 x = s.2 9 x) (h24 : w.1 24 = s.1 24) (hr : w.2 25 = s.2 25 ∧ w.2 26 = s.2 26 ∧ w.2 27 = s.2 27 ∧ w.2 28 = s.2 28 ∧ w.2 29 = s.2 29) : KL w K := by
  obtain ⟨h1, h2, h3⟩ := h
  obtain ⟨r1, r2, r3, r4, r5⟩ := hr
  refine ⟨h24.trans h1, h2, fun i u hi => ?_⟩
  obtain ⟨a1, a2⟩ := h3 i u hi
  refine ⟨KR_cg a1 a2.1.2.2.2 (by rw [r1]) (by rw [r2]) (fun x hx => ?_) (fun k _ _ => by rw [r3, r4]; exact ⟨rfl, rfl⟩) (fun k _ _ => by rw [r5]), KP_up a2 h8 hs⟩
  have := (AT_mem u.1 a2.1.1 x hx).1
  exact hs x this.1 this.2
theorem KL.x {K : List Snap} (h : KL s K) (h8 : s.1 8 ≤ 3000) (hx : SX [] [] s w) : KL w K :=
  KL_up h (by rw [hx.1 8 (by decide) (by decide)]; exact Int.le_refl _) (fun x x0 x1 => hx.2 9 (by decide) (by decide) x (by unfold scI; omega)) (hx.1 24 (by decide) (by decide))
    ⟨funext fun i => hx.2 25 (by decide) (by decide) i (by unfold scI; omega), funext fun i => hx.2 26 (by decide) (by decide) i (by unfold scI; omega), funext fun i => hx.2 27 (by decide) (by decide) i (by unfold scI; omega), funext fun i => hx.2 28 (by decide) (by decide) i (by unfold scI; omega), funext fun i => hx.2 29 (by decide) (by decide) i (by unfold scI; omega)⟩
theorem enU_K {K : List Snap} {u : Snap} (h : KL s K) (hA : AH s u) (hP : KP s u) : KL (enU s a) (push K u) := by
  obtain ⟨h1, h2, h3⟩ := h
  have e9 : (enU s a).2 9 = s.2 9 := enU_e.2 9 (by decide)
  have e8 : (enU s a).1 8 = s.1 8 := enU_e.1 8 (by decide)
  have kp : ∀ v, KP s v → KP (enU s a) v := fun v hv => KP_up hv (by rw [e8]; exact Int.le_refl _) (fun x _ _ => by rw [e9])
  have q24 : (enU s a).1 24 = (enS s).1 24 + 1 := rfl
  have hl := hP.1.2.2.2
  have r25 : ∀ j, (enU s a).2 25 j = if j = (enS s).1 24 then s.1 30 else (enS s).2 25 j := fun j => en2_25 (s := enS s) (k := (enS s).1 24) (m := s.1 30) (c := s.1 31)
  have r26 : ∀ j, (enU s a).2 26 j = if j = (enS s).1 24 then s.1 31 else (enS s).2 26 j := fun j => en2_26 (s := enS s) (k := (enS s).1 24) (m := s.1 30) (c := s.1 31)
  have r27 : ∀ j, (enU s a).2 27 j = if 80 * (enS s).1 24 ≤ j ∧ j < 80 * (enS s).1 24 + 80 then (enS s).2 32 (j - 80 * (enS s).1 24) else (enS s).2 27 j := fun j => en2_27 (s := enS s) (k := (enS s).1 24) (m := s.1 30) (c := s.1 31)
  have r28 : ∀ j, (enU s a).2 28 j = if 80 * (enS s).1 24 ≤ j ∧ j < 80 * (enS s).1 24 + 80 then (enS s).2 33 (j - 80 * (enS s).1 24) else (enS s).2 28 j := fun j => en2_28 (s := enS s) (k := (enS s).1 24) (m := s.1 30) (c := s.1 31)
  have r29 : ∀ j, (enU s a).2 29 j = if 240 * (enS s).1 24 ≤ j ∧ j < 240 * (enS s).1 24 + 240 then (enS s).2 34 (j - 240 * (enS s).1 24) else (enS s).2 29 j := fun j => en2_29 (s := enS s) (k := (enS s).1 24) (m := s.1 30) (c := s.1 31)
  by_cases hk : K.length = 20
  · have c24 : s.1 24 = 20 := by omega
    have es : enS s = us (sh3 (sh2 (sh1 s 19) 1520) 4560) 24 19 := if_pos c24
    have x24 : (enS s).1 24 = 19 := by rw [es]; rfl
    have x32 : (enS s).2 32 = s.2 32 := by rw [es]; funext j; simp [us_2, sh3, sh2, sh1]
    have x33 : (enS s).2 33 = s.2 33 := by rw [es]; funext j; simp [us_2, sh3, sh2, sh1]
    have x34 : (enS s).2 34 = s.2 34 := by rw [es]; funext j; simp [us_2, sh3, sh2, sh1]
    have x25 : ∀ j, 0 ≤ j → j < 19 → (enS s).2 25 j = s.2 25 (j + 1) := fun j _ _ => by rw [es]; simp [us_2, sh3, sh2, sh1]; omega
    have x26 : ∀ j, 0 ≤ j → j < 19 → (enS s).2 26 j = s.2 26 (j + 1) := fun j _ _ => by rw [es]; simp [us_2, sh3, sh2, sh1]; omega
    have x27 : ∀ j, 0 ≤ j → j < 1520 → (enS s).2 27 j = s.2 27 (j + 80) := fun j _ _ => by rw [es]; simp [us_2, sh3, sh2, sh1]; omega
    have x28 : ∀ j, 0 ≤ j → j < 1520 → (enS s).2 28 j = s.2 28 (j + 80) := fun j _ _ => by rw [es]; simp [us_2, sh3, sh2, sh1]; omega
    have x29 : ∀ j, 0 ≤ j → j < 4560 → (enS s).2 29 j = s.2 29 (j + 240) := fun j _ _ => by rw [es]; simp [us_2, sh3, sh2, sh1]; omega
    rw [x24] at r25 r26 r27 r28 r29 q24
    rw [x32] at r27
    rw [x33] at r28
    rw [x34] at r29
    have hp : push K u = K.tail ++ [u] := by unfold push; rw [if_pos hk]
    rw [hp]
    have ht : K.tail.length = 19 := by simp [hk]
    refine ⟨by rw [q24]; simp [hk], by simp [hk], fun i v hi => ?_⟩
    rw [e9]
    by_cases hi2 : i < 19
    · rw [List.getElem?_append_left (by omega), List.getElem?_tail] at hi
      obtain ⟨a1, a2⟩ := h3 (i + 1) v hi
      refine ⟨KR_cg a1 a2.1.2.2.2 ?_ ?_ (fun x _ => rfl) (fun k k0 k1 => ⟨?_, ?_⟩) (fun k k0 k1 => ?_), kp v a2⟩
      · rw [r25, if_neg (by omega), x25 _ (by omega) (by omega)]; rfl
      · rw [r26, if_neg (by omega), x26 _ (by omega) (by omega)]; rfl
      · show (enU s a).2 27 (80 * i + k) = s.2 27 (80 * ((i + 1 : Nat) : Int) + k)
        rw [r27, if_neg (by omega), x27 _ (by omega) (by omega), show (80 * (i : Int) + k + 80) = 80 * ((i + 1 : Nat) : Int) + k by omega]
      · show (enU s a).2 28 (80 * i + k) = s.2 28 (80 * ((i + 1 : Nat) : Int) + k)
        rw [r28, if_neg (by omega), x28 _ (by omega) (by omega), show (80 * (i : Int) + k + 80) = 80 * ((i + 1 : Nat) : Int) + k by omega]
      · show (enU s a).2 29 (240 * i + k) = s.2 29 (240 * ((i + 1 : Nat) : Int) + k)
        rw [r29, if_neg (by omega), x29 _ (by omega) (by omega), show (240 * (i : Int) + k + 240) = 240 * ((i + 1 : Nat) : Int) + k by omega]
    · have hi3 : i = 19 := by
        have := (List.getElem?_eq_some_iff.mp hi).1
        simp [hk] at this
        omega
      subst hi3
      rw [List.getElem?_append_right (by omega)] at hi
      simp [hk] at hi
      subst hi
      refine ⟨KR_cg hA hl ?_ ?_ (fun x _ => rfl) (fun k k0 k1 => ⟨?_, ?_⟩) (fun k k0 k1 => ?_), kp u hP⟩
      · rw [r25, if_pos (by omega)]
      · rw [r26, if_pos (by omega)]
      · show (enU s a).2 27 (80 * ((19 : Nat) : Int) + k) = s.2 32 k
        rw [r27, if_pos (by omega), show (80 * ((19 : Nat) : Int) + k - 80 * 19) = k by omega]
      · show (enU s a).2 28 (80 * ((19 : Nat) : Int) + k) = s.2 33 k
        rw [r28, if_pos (by omega), show (80 * ((19 : Nat) : Int) + k - 80 * 19) = k by omega]
      · show (enU s a).2 29 (240 * ((19 : Nat) : Int) + k) = s.2 34 k
        rw [r29, if_pos (by omega), show (240 * ((19 : Nat) : Int) + k - 240 * 19) = k by omega]
  · have es : enS s = s := if_neg (by omega)
    rw [es] at r25 r26 r27 r28 r29 q24
    have hp : push K u = K ++ [u] := by unfold push; rw [if_neg hk]
    rw [hp]
    refine ⟨by rw [q24, h1]; simp, by simp; omega, fun i v hi => ?_⟩
    rw [e9]
    by_cases hi2 : i < K.length
    · rw [List.getElem?_append_left hi2] at hi
      obtain ⟨a1, a2⟩ := h3 i v hi
      refine ⟨KR_cg a1 a2.1.2.2.2 ?_ ?_ (fun x _ => rfl) (fun k k0 k1 => ⟨?_, ?_⟩) (fun k k0 k1 => ?_), kp v a2⟩
      · rw [r25, if_neg (by omega)]
      · rw [r26, if_neg (by omega)]
      · exact (r27 _).trans (if_neg (by omega))
      · exact (r28 _).trans (if_neg (by omega))
      · exact (r29 _).trans (if_neg (by omega))
    · have hi3 : i = K.length := by
        have := (List.getElem?_eq_some_iff.mp hi).1
        simp at this
        omega
      subst hi3
      rw [List.getElem?_append_right (by omega)] at hi
      simp at hi
      subst hi
      refine ⟨KR_cg hA hl ?_ ?_ (fun x _ => rfl) (fun k k0 k1 => ⟨?_, ?_⟩) (fun k k0 k1 => ?_), kp u hP⟩
      · rw [r25, if_pos (by omega)]
      · rw [r26, if_pos (by omega)]
      · refine (r27 _).trans ?_
        rw [if_pos (by omega), show (80 * (K.length : Int) + k - 80 * s.1 24) = k by omega]
      · refine (r28 _).trans ?_
        rw [if_pos (by omega), show (80 * (K.length : Int) + k - 80 * s.1 24) = k by omega]
      · refine (r29 _).trans ?_
        rw [if_pos (by omega), show (240 * (K.length : Int) + k - 240 * s.1 24) = k by omega]
end
end
